/-! THE LAW'S LOOP, a case a call: what must hold of the pure functions (PO_..), and the walk -/
abbrev LW (g : dd_G) (ad : Nat → Nat) (cJ : ClassId) (qo : Nat) (adM : Nat → Nat) (sC sM : dd_S) (o : Nat → Int64) : va_W := WC g ad sC ++ ((qo, OutE cJ o) :: WM g adM sM)
def lA (s : State) : Nat → Prop := fun q => s.heap.size ≤ q
theorem P_rot {D : va_G} {cl : List vw_C} {a b : va_W} {x : Nat × va_E} {H : Heap} (h : va_P D cl (a ++ (x :: b)) H) : va_P D cl (b ++ (a ++ [x])) H := by
  have h1 := va_P.swap (a := []) (b := a ++ [x]) (c := b) (by simpa using h)
  simpa using h1
theorem P_rot2 {D : va_G} {cl : List vw_C} {a b : va_W} {x : Nat × va_E} {H : Heap} (h : va_P D cl (b ++ (a ++ [x])) H) : va_P D cl (a ++ (x :: b)) H := by
  have h1 := va_P.swap (a := []) (b := b) (c := a ++ [x]) (by simpa using h)
  simpa using h1
theorem D_rot {A : Nat → Prop} {a b : va_W} {x : Nat × va_E} (h : va_D A (a ++ (x :: b))) : va_D A (b ++ (a ++ [x])) := by
  have h1 := va_D.swap (a := []) (b := a ++ [x]) (c := b) (by simpa using h)
  simpa using h1
theorem law_A {s : State} {n : Nat} {cd : Nat → (Nat → Int32) → va_E} {ad : Nat → Nat} {sg : dd_S} {X : va_W} {sz : Nat} (hD : va_D (lA s) (dd_wd n cd ad sg ++ X)) (h : s.heap.size ≤ sz) {q : Nat} (hq : dd_A n ad X sz q) : lA s q := by
  rcases hq with ⟨k, hk, e⟩ | ⟨x, hx, e⟩ | h1
  · rw [e]
    exact hD.2 k _ (dd_at hk rfl)
  · rw [e]
    obtain ⟨i, hi⟩ := List.getElem?_of_mem (List.mem_append_right (dd_wd n cd ad sg) hx)
    exact hD.2 i _ hi
  · exact Nat.le_trans h h1
theorem law_XF {s : State} {n : Nat} {cd : Nat → (Nat → Int32) → va_E} {ad : Nat → Nat} {sg : dd_S} {X : va_W} {H : Heap} {locs : List Loc} (hXF : XF (lA s) s s.heap) (hS : va_S (lA s) s.heap H locs) (hD : va_D (lA s) (dd_wd n cd ad sg ++ X)) : XF (dd_A n ad X H.size) s H := (hXF.kept (fun a h1 h2 => hS.2.1 a h1 h2)).narrow (fun _ h => law_A hD hS.1 h)
theorem law_in {i L : Nat} (hi : 5 * i + 5 ≤ L) (hL : L ≤ 2560) (j : Nat) (hj : j < 5) {v : Int32} (hv : v = nI (5 * i + j)) : vp_in v L := by
  rw [hv]
  exact vp_in_nI (by omega) (by omega)
theorem law_self (x : Int64) : lg_cmp x x = 0 := by simp [lg_cmp]
theorem law_nan {a : UInt64} (h : isNaN64 a = true) : FP.dcmp a a = none := by
  rw [isNaN64_iff] at h
  have e : a.toNat &&& 0x7fffffffffffffff = a.toNat % 2 ^ 63 := Nat.and_two_pow_sub_one_eq_mod a.toNat 63
  rw [e] at h
  refine (FP.Core.dcmp_none a a).mpr (Or.inl ?_)
  by_cases h1 : FP.Core.val64 a = .nan
  · exact h1
  · exact absurd ((FP.Core.ne_nan a).mp h1) (by omega)
theorem law_nanv {a : UInt64} (h : isNaN64 a = true) : ¬ Op.cmpValue (FP.dcmp a a) CmpOp.l = 0 := by
  rw [law_nan h]
  decide
theorem law_alike {a b v : UInt64} (h1 : alike64 a v = true) (h2 : alike64 b v = true) : a = b ∨ (isNaN64 a = true ∧ isNaN64 b = true) := by
  simp only [alike64, Bool.or_eq_true, decide_eq_true_eq, Bool.and_eq_true] at h1 h2
  rcases h1 with e1 | ⟨n1, n2⟩ <;> rcases h2 with e2 | ⟨n3, n4⟩
  · exact Or.inl (e1.trans e2.symm)
  · exact Or.inr ⟨by rw [e1]; exact n4, n3⟩
  · exact Or.inr ⟨n1, by rw [e2]; exact n2⟩
  · exact Or.inr ⟨n1, n3⟩
theorem cl_dD {p : Program} {l : Launch} {e : Env} {R : Room} {s : State} {m : MethodId} {args : Array Value} {below : List Frame} {meth : Method} {c : Code} {H : Heap} {locs : List Loc} {cells slots mc ms : Nat} {Q : State → Prop} {pc : Nat} {ls : Array Slot} {rest st0 : List Value} {a : Array Value} {g : dd_G} {w1 : va_W} {A0 A1 : Nat → Prop} {H0 : Heap} {free : Addr → Prop} {d0 : Drawn} {r0 : UInt64} (hd0 : s.drawn.sameBut d0 lw_cs) (hr : va_RunD lw_cs p l e R (s.setDrawn d0) m args below meth c H locs cells slots mc ms (F0 m pc ls st0) rest (QD g w1 A1 r0 a) free) (hS : va_S A0 H0 H locs) (hA : ∀ q, A1 q → A0 q) (hf : ∀ q, free q → A0 q)
    (kk : ∀ (y : UInt64) (H1 : Heap) (locs1 : List Loc) (d1 : Drawn), alike64 y r0 = true → va_P g.1 vwCl w1 H1 → va_S A0 H0 H1 locs1 → s.drawn.sameBut d1 lw_cs → W p l e R (s.setDrawn d1) m args below meth c H1 locs1 (cells + mc) (slots + ms) Q (F0 m (pc + 3) ls (.double y :: rest))) : W p l e R (s.setDrawn d0) m args below meth c H locs cells slots Q (F0 m pc ls st0) :=
  va_calldD hd0 hr hS (fun q _ h => hA q h) hf fun r u t H1 locs1 ht hvm hw hB hz hk hS1 d1 hd1 => by
    rw [ht] at hB
    exact kk r H1 locs1 d1 hw hB hS1 hd1
def PO_setWay (Inv : dd_S → dd_S → Prop) : Prop := ∀ (sC sM : dd_S) (a1 : Int32) (a2 : Int32) (a3 : Int32), Inv sC sM → ∃ (k0 : Nat) (r0 : Int32) (sC2 : dd_S) (bb : Int32) (sM2 : dd_S), f_X5_setWay sC a1 a2 a3 = some (k0, r0, sC2) ∧ (k0 = 0 ∨ k0 = 1 ∨ k0 = 2) ∧ f_X6_setWay sM a1 a2 a3 = some (bb, sM2) ∧ sM2 0 0 = (if k0 = 0 then 0 else if k0 = 1 then 1 else 2) ∧ (k0 = 0 → r0 = bb) ∧ Inv sC2 sM2
def PO_addTrip (Inv : dd_S → dd_S → Prop) : Prop := ∀ (sC sM : dd_S) (a1 : Int32) (a2 : Int32) (a3 : Int32) (a4 : Int32), Inv sC sM → ∃ (k0 : Nat) (r0 : Int32) (sC2 : dd_S) (bb : Int32) (sM2 : dd_S), f_X5_addTrip sC a1 a2 a3 a4 = some (k0, r0, sC2) ∧ (k0 = 0 ∨ k0 = 1 ∨ k0 = 2 ∨ k0 = 3) ∧ f_X6_addTrip sM a1 a2 a3 a4 = some (bb, sM2) ∧ sM2 0 0 = (if k0 = 0 then 0 else if k0 = 1 then 1 else if k0 = 2 then 2 else 3) ∧ (k0 = 0 → r0 = bb) ∧ Inv sC2 sM2
def PO_trip (Inv : dd_S → dd_S → Prop) : Prop := ∀ (sC sM : dd_S) (a1 : Int32) (a2 : Int32), Inv sC sM → ∃ (k0 : Nat) (r0 : Int32) (sC2 : dd_S) (bb : Int32) (sM2 : dd_S), f_X5_trip sC a1 a2 = some (k0, r0, sC2) ∧ (k0 = 0 ∨ k0 = 1) ∧ f_X6_trip sM a1 a2 = some (bb, sM2) ∧ sM2 0 0 = (if k0 = 0 then 0 else 1) ∧ (k0 = 0 → r0 = bb) ∧ Inv sC2 sM2
def PO_setRules (Inv : dd_S → dd_S → Prop) : Prop := ∀ (sC sM : dd_S) (a1 : Int32) (a2 : Int32) (a3 : Int32) (a4 : Int32), Inv sC sM → ∃ (k0 : Nat) (r0 : Int32) (sC2 : dd_S) (bb : Int32) (sM2 : dd_S), f_X5_setRules sC a1 a2 a3 a4 = some (k0, r0, sC2) ∧ (k0 = 0 ∨ k0 = 2) ∧ f_X6_setRules sM a1 a2 a3 a4 = some (bb, sM2) ∧ sM2 0 0 = (if k0 = 0 then 0 else 1) ∧ (k0 = 0 → r0 = bb) ∧ Inv sC2 sM2
def PO_count (Inv : dd_S → dd_S → Prop) : Prop := ∀ (sC sM : dd_S) (a1 : Int32), Inv sC sM → ∃ (k0 : Nat) (r0 : Int32) (sC2 : dd_S) (bb : Int32) (sM2 : dd_S), f_X5_count sC a1 = some (k0, r0, sC2) ∧ (k0 = 0 ∨ k0 = 1) ∧ f_X6_count sM a1 = some (bb, sM2) ∧ sM2 0 0 = (if k0 = 0 then 0 else 1) ∧ (k0 = 0 → r0 = bb) ∧ Inv sC2 sM2
def PO_addDuty (Inv : dd_S → dd_S → Prop) : Prop := ∀ (sC sM : dd_S), Inv sC sM → ∃ (k0 : Nat) (r0 : Int32) (sC2 : dd_S) (bb : Int32) (sM2 : dd_S), f_X5_addDuty sC = some (k0, r0, sC2) ∧ (k0 = 0 ∨ k0 = 3) ∧ f_X6_addDuty sM = some (bb, sM2) ∧ sM2 0 0 = (if k0 = 0 then 0 else 1) ∧ (k0 = 0 → r0 = bb) ∧ Inv sC2 sM2
def PO_put (Inv : dd_S → dd_S → Prop) : Prop := ∀ (sC sM : dd_S) (a1 : Int32) (a2 : Int32), Inv sC sM → ∃ (k0 : Nat) (r0 : Int32) (sC2 : dd_S) (bb : Int32) (sM2 : dd_S), f_X5_put sC a1 a2 = some (k0, r0, sC2) ∧ (k0 = 0 ∨ k0 = 1 ∨ k0 = 3) ∧ f_X6_put sM a1 a2 = some (bb, sM2) ∧ sM2 0 0 = (if k0 = 0 then 0 else if k0 = 1 then 1 else 2) ∧ (k0 = 0 → r0 = bb) ∧ Inv sC2 sM2
def PO_takeOut (Inv : dd_S → dd_S → Prop) : Prop := ∀ (sC sM : dd_S) (a1 : Int32), Inv sC sM → ∃ (k0 : Nat) (r0 : Int32) (sC2 : dd_S) (bb : Int32) (sM2 : dd_S), f_X5_takeOut sC a1 = some (k0, r0, sC2) ∧ (k0 = 0 ∨ k0 = 1 ∨ k0 = 3) ∧ f_X6_takeOut sM a1 = some (bb, sM2) ∧ sM2 0 0 = (if k0 = 0 then 0 else if k0 = 1 then 1 else 2) ∧ (k0 = 0 → r0 = bb) ∧ Inv sC2 sM2
def PO_duty (Inv : dd_S → dd_S → Prop) : Prop := ∀ (sC sM : dd_S) (a1 : Int32) (a2 : Int32), Inv sC sM → ∃ (k0 : Nat) (r0 : Int32) (sC2 : dd_S) (bb : Int32) (sM2 : dd_S), f_X5_duty sC a1 a2 = some (k0, r0, sC2) ∧ (k0 = 0 ∨ k0 = 1) ∧ f_X6_duty sM a1 a2 = some (bb, sM2) ∧ sM2 0 0 = (if k0 = 0 then 0 else 1) ∧ (k0 = 0 → r0 = bb) ∧ Inv sC2 sM2
def PO_tripAt (Inv : dd_S → dd_S → Prop) : Prop := ∀ (sC sM : dd_S) (a1 : Int32) (a2 : Int32), Inv sC sM → ∃ (k0 : Nat) (r0 : Int32) (sC2 : dd_S) (bb : Int32) (sM2 : dd_S), f_X5_tripAt sC a1 a2 = some (k0, r0, sC2) ∧ (k0 = 0 ∨ k0 = 1) ∧ f_X6_tripAt sM a1 a2 = some (bb, sM2) ∧ sM2 0 0 = (if k0 = 0 then 0 else 1) ∧ (k0 = 0 → r0 = bb) ∧ Inv sC2 sM2
def PO_bestFor (Inv : dd_S → dd_S → Prop) : Prop := ∀ (sC sM : dd_S) (a1 : Int32), Inv sC sM → ∃ (k0 : Nat) (r0 : Int32) (sC2 : dd_S) (bb : Int32) (sM2 : dd_S), f_X5_bestFor sC a1 = some (k0, r0, sC2) ∧ (k0 = 0 ∨ k0 = 1) ∧ f_X6_bestFor sM a1 = some (bb, sM2) ∧ sM2 0 0 = (if k0 = 0 then 0 else 1) ∧ (k0 = 0 → r0 = bb) ∧ Inv sC2 sM2
def PO_swap (Inv : dd_S → dd_S → Prop) : Prop := ∀ (sC sM : dd_S) (a1 : Int32) (a2 : Int32) (a3 : Int32), Inv sC sM → ∃ (k0 : Nat) (r0 : Int32) (sC2 : dd_S) (bb : Int32) (sM2 : dd_S), f_X5_swap sC a1 a2 a3 = some (k0, r0, sC2) ∧ (k0 = 0 ∨ k0 = 1 ∨ k0 = 2 ∨ k0 = 3) ∧ f_X6_swap sM a1 a2 a3 = some (bb, sM2) ∧ sM2 0 0 = (if k0 = 0 then 0 else if k0 = 1 then 1 else if k0 = 2 then 2 else 3) ∧ (k0 = 0 → r0 = bb) ∧ Inv sC2 sM2
def PO_addDriver (Inv : dd_S → dd_S → Prop) : Prop := ∀ (sC sM : dd_S), Inv sC sM → ∃ (k0 : Nat) (r0 : Int32) (sC2 : dd_S) (bb : Int32) (sM2 : dd_S), f_X5_addDriver sC = some (k0, r0, sC2) ∧ (k0 = 0 ∨ k0 = 3) ∧ f_X6_addDriver sM = some (bb, sM2) ∧ sM2 0 0 = (if k0 = 0 then 0 else 1) ∧ (k0 = 0 → r0 = bb) ∧ Inv sC2 sM2
def PO_reason (Inv : dd_S → dd_S → Prop) : Prop := ∀ (sC sM : dd_S) (a1 : Int32) (a2 : Int32) (a3 : Int32), Inv sC sM → ∃ (k0 : Nat) (r0 : Int32) (sC2 : dd_S) (bb : Int32) (sM2 : dd_S), f_X5_reason sC a1 a2 a3 = some (k0, r0, sC2) ∧ (k0 = 0 ∨ k0 = 1) ∧ f_X6_reason sM a1 a2 a3 = some (bb, sM2) ∧ sM2 0 0 = (if k0 = 0 then 0 else 1) ∧ (k0 = 0 → r0 = bb) ∧ Inv sC2 sM2
def PO_give (Inv : dd_S → dd_S → Prop) : Prop := ∀ (sC sM : dd_S) (a1 : Int32) (a2 : Int32) (a3 : Int32), Inv sC sM → ∃ (k0 : Nat) (r0 : Int32) (sC2 : dd_S) (bb : Int32) (sM2 : dd_S), f_X5_give sC a1 a2 a3 = some (k0, r0, sC2) ∧ (k0 = 0 ∨ k0 = 1 ∨ k0 = 3) ∧ f_X6_give sM a1 a2 a3 = some (bb, sM2) ∧ sM2 0 0 = (if k0 = 0 then 0 else if k0 = 1 then 1 else 2) ∧ (k0 = 0 → r0 = bb) ∧ Inv sC2 sM2
def PO_takeBack (Inv : dd_S → dd_S → Prop) : Prop := ∀ (sC sM : dd_S) (a1 : Int32) (a2 : Int32), Inv sC sM → ∃ (k0 : Nat) (r0 : Int32) (sC2 : dd_S) (bb : Int32) (sM2 : dd_S), f_X5_takeBack sC a1 a2 = some (k0, r0, sC2) ∧ (k0 = 0 ∨ k0 = 1 ∨ k0 = 3) ∧ f_X6_takeBack sM a1 a2 = some (bb, sM2) ∧ sM2 0 0 = (if k0 = 0 then 0 else if k0 = 1 then 1 else 2) ∧ (k0 = 0 → r0 = bb) ∧ Inv sC2 sM2
def PO_given (Inv : dd_S → dd_S → Prop) : Prop := ∀ (sC sM : dd_S) (a1 : Int32) (a2 : Int32), Inv sC sM → ∃ (k0 : Nat) (r0 : Int32) (sC2 : dd_S) (bb : Int32) (sM2 : dd_S), f_X5_given sC a1 a2 = some (k0, r0, sC2) ∧ (k0 = 0 ∨ k0 = 1) ∧ f_X6_given sM a1 a2 = some (bb, sM2) ∧ sM2 0 0 = (if k0 = 0 then 0 else 1) ∧ (k0 = 0 → r0 = bb) ∧ Inv sC2 sM2
def PO_fill (Inv : dd_S → dd_S → Prop) : Prop := ∀ (sC sM : dd_S) (a1 : Int32), Inv sC sM → ∃ (k0 : Nat) (r0 : Int32) (sC2 : dd_S) (bb : Int32) (sM2 : dd_S), f_X5_fill sC a1 = some (k0, r0, sC2) ∧ (k0 = 0 ∨ k0 = 1) ∧ f_X6_fill sM a1 = some (bb, sM2) ∧ sM2 0 0 = (if k0 = 0 then 0 else 1) ∧ (k0 = 0 → r0 = bb) ∧ Inv sC2 sM2
def PO_week (Inv : dd_S → dd_S → Prop) : Prop := ∀ (sC sM : dd_S) (a1 : Int32), Inv sC sM → ∃ (k0 : Nat) (r0 : Int32) (sC2 : dd_S) (bb : Int32) (sM2 : dd_S), f_X5_week sC a1 = some (k0, r0, sC2) ∧ (k0 = 0 ∨ k0 = 1) ∧ f_X6_week sM a1 = some (bb, sM2) ∧ sM2 0 0 = (if k0 = 0 then 0 else 1) ∧ (k0 = 0 → r0 = bb) ∧ Inv sC2 sM2
def PO_rest (Inv : dd_S → dd_S → Prop) : Prop := ∀ (sC sM : dd_S) (a1 : Int32) (a2 : Int32), Inv sC sM → ∃ (k0 : Nat) (r0 : Int32) (sC2 : dd_S) (bb : Int32) (sM2 : dd_S), f_X5_rest sC a1 a2 = some (k0, r0, sC2) ∧ (k0 = 0 ∨ k0 = 1) ∧ f_X6_rest sM a1 a2 = some (bb, sM2) ∧ sM2 0 0 = (if k0 = 0 then 0 else 1) ∧ (k0 = 0 → r0 = bb) ∧ Inv sC2 sM2
def PO_plan (Inv : dd_S → dd_S → Prop) : Prop := ∀ (sC sM : dd_S), Inv sC sM → ∃ (r0 : Int32) (sC2 : dd_S) (sM2 : dd_S), f_X5_plan sC = some (r0, sC2) ∧ f_X6_plan sM = some (r0, sM2) ∧ Inv sC2 sM2
def PO_improve (Inv : dd_S → dd_S → Prop) : Prop := ∀ (sC sM : dd_S), Inv sC sM → ∃ (r0 : Int32) (sC2 : dd_S) (sM2 : dd_S), f_X5_improve sC = some (r0, sC2) ∧ f_X6_improve sM = some (r0, sM2) ∧ Inv sC2 sM2
def PO_pay (Inv : dd_S → dd_S → Prop) : Prop := ∀ (sC sM : dd_S), Inv sC sM → ∃ (r0 : Int32) (sM2 : dd_S), f_X5_pay sC = some r0 ∧ f_X6_pay sM = some (r0, sM2) ∧ Inv sC sM2
def PO_digest (Inv : dd_S → dd_S → Prop) : Prop := ∀ (sC sM : dd_S), Inv sC sM → ∃ (r0 : Int64) (sM2 : dd_S), f_X5_digest sC = some r0 ∧ f_X6_digest sM = some (r0, sM2) ∧ Inv sC sM2
def PO_use (Inv : dd_S → dd_S → Prop) : Prop := ∀ (sC sM : dd_S), Inv sC sM → ∃ (r0 : UInt64) (sM2 : dd_S), f_X5_use sC = some r0 ∧ f_X6_use sM = some (r0, sM2) ∧ Inv sC sM2
theorem qw_587 : Cond.codeWith yL_setWay cL_setWay 6 (some .int) [(0, 12, 15, 13), (0, 12, 19, 15)] ∈ lw_all := lw_in 453 (by decide +kernel) rfl
theorem qw_588 : Cond.methodLink RL 84 yL_setWay ∈ lw_all := lw_in 451 (by decide +kernel) rfl
theorem qw_589 : Cond.static yL_setWay ∈ lw_all := lw_in 452 (by decide +kernel) rfl
theorem qw_590 : Cond.initialized RL ∈ lw_all := lw_in 65 (by decide +kernel) rfl
theorem qw_591 : Cond.methodLink RL 89 yX6_setWay ∈ lw_all := lw_in 893 (by decide +kernel) rfl
theorem qw_592 : Cond.instanceMethod yX6_setWay ∈ lw_all := lw_in 894 (by decide +kernel) rfl
theorem qw_593 : Cond.selects RX6 yX6_setWay yX6_setWay ∈ lw_all := lw_in 895 (by decide +kernel) rfl
theorem qw_594 : Cond.code yX6_setWay cX6_setWay 5 (some .int) ∈ lw_all := lw_in 896 (by decide +kernel) rfl
theorem qw_595 : Cond.methodLink RL 90 yX6_thrown ∈ lw_all := lw_in 889 (by decide +kernel) rfl
theorem qw_596 : Cond.instanceMethod yX6_thrown ∈ lw_all := lw_in 890 (by decide +kernel) rfl
theorem qw_597 : Cond.selects RX6 yX6_thrown yX6_thrown ∈ lw_all := lw_in 891 (by decide +kernel) rfl
theorem qw_598 : Cond.code yX6_thrown cX6_thrown 1 (some .int) ∈ lw_all := lw_in 892 (by decide +kernel) rfl
theorem qw_599 : Cond.codeWith yL_addTrip cL_addTrip 7 (some .int) [(0, 14, 17, 13), (0, 14, 21, 15), (0, 14, 25, 21)] ∈ lw_all := lw_in 558 (by decide +kernel) rfl
theorem qw_600 : Cond.methodLink RL 93 yL_addTrip ∈ lw_all := lw_in 556 (by decide +kernel) rfl
theorem qw_601 : Cond.static yL_addTrip ∈ lw_all := lw_in 557 (by decide +kernel) rfl
theorem qw_602 : Cond.methodLink RL 96 yX6_addTrip ∈ lw_all := lw_in 907 (by decide +kernel) rfl
theorem qw_603 : Cond.instanceMethod yX6_addTrip ∈ lw_all := lw_in 908 (by decide +kernel) rfl
theorem qw_604 : Cond.selects RX6 yX6_addTrip yX6_addTrip ∈ lw_all := lw_in 909 (by decide +kernel) rfl
theorem qw_605 : Cond.code yX6_addTrip cX6_addTrip 5 (some .int) ∈ lw_all := lw_in 910 (by decide +kernel) rfl
theorem qw_606 : Cond.codeWith yL_trip cL_trip 5 (some .int) [(0, 10, 13, 13)] ∈ lw_all := lw_in 590 (by decide +kernel) rfl
theorem qw_607 : Cond.methodLink RL 97 yL_trip ∈ lw_all := lw_in 588 (by decide +kernel) rfl
theorem qw_608 : Cond.static yL_trip ∈ lw_all := lw_in 589 (by decide +kernel) rfl
theorem qw_609 : Cond.methodLink RL 100 yX6_trip ∈ lw_all := lw_in 911 (by decide +kernel) rfl
theorem qw_610 : Cond.instanceMethod yX6_trip ∈ lw_all := lw_in 912 (by decide +kernel) rfl
theorem qw_611 : Cond.selects RX6 yX6_trip yX6_trip ∈ lw_all := lw_in 913 (by decide +kernel) rfl
theorem qw_612 : Cond.code yX6_trip cX6_trip 3 (some .int) ∈ lw_all := lw_in 914 (by decide +kernel) rfl
theorem qw_613 : Cond.codeWith yL_setRules cL_setRules 7 (some .int) [(0, 14, 17, 15)] ∈ lw_all := lw_in 602 (by decide +kernel) rfl
theorem qw_614 : Cond.methodLink RL 101 yL_setRules ∈ lw_all := lw_in 600 (by decide +kernel) rfl
theorem qw_615 : Cond.static yL_setRules ∈ lw_all := lw_in 601 (by decide +kernel) rfl
theorem qw_616 : Cond.methodLink RL 103 yX6_setRules ∈ lw_all := lw_in 919 (by decide +kernel) rfl
theorem qw_617 : Cond.instanceMethod yX6_setRules ∈ lw_all := lw_in 920 (by decide +kernel) rfl
theorem qw_618 : Cond.selects RX6 yX6_setRules yX6_setRules ∈ lw_all := lw_in 921 (by decide +kernel) rfl
theorem qw_619 : Cond.code yX6_setRules cX6_setRules 7 (some .int) ∈ lw_all := lw_in 922 (by decide +kernel) rfl
theorem qw_620 : Cond.codeWith yL_count cL_count 4 (some .int) [(0, 9, 12, 13)] ∈ lw_all := lw_in 615 (by decide +kernel) rfl
theorem qw_621 : Cond.methodLink RL 104 yL_count ∈ lw_all := lw_in 613 (by decide +kernel) rfl
theorem qw_622 : Cond.static yL_count ∈ lw_all := lw_in 614 (by decide +kernel) rfl
theorem qw_623 : Cond.methodLink RL 107 yX6_count ∈ lw_all := lw_in 938 (by decide +kernel) rfl
theorem qw_624 : Cond.instanceMethod yX6_count ∈ lw_all := lw_in 939 (by decide +kernel) rfl
theorem qw_625 : Cond.selects RX6 yX6_count yX6_count ∈ lw_all := lw_in 940 (by decide +kernel) rfl
theorem qw_626 : Cond.code yX6_count cX6_count 2 (some .int) ∈ lw_all := lw_in 941 (by decide +kernel) rfl
theorem qw_627 : Cond.codeWith yL_addDuty cL_addDuty 3 (some .int) [(0, 8, 11, 21)] ∈ lw_all := lw_in 623 (by decide +kernel) rfl
theorem qw_628 : Cond.methodLink RL 108 yL_addDuty ∈ lw_all := lw_in 621 (by decide +kernel) rfl
theorem qw_629 : Cond.static yL_addDuty ∈ lw_all := lw_in 622 (by decide +kernel) rfl
theorem qw_630 : Cond.methodLink RL 111 yX6_addDuty ∈ lw_all := lw_in 946 (by decide +kernel) rfl
theorem qw_631 : Cond.instanceMethod yX6_addDuty ∈ lw_all := lw_in 947 (by decide +kernel) rfl
theorem qw_632 : Cond.selects RX6 yX6_addDuty yX6_addDuty ∈ lw_all := lw_in 948 (by decide +kernel) rfl
theorem qw_633 : Cond.code yX6_addDuty cX6_addDuty 1 (some .int) ∈ lw_all := lw_in 949 (by decide +kernel) rfl
theorem qw_634 : Cond.codeWith yL_put cL_put 5 (some .int) [(0, 10, 13, 13), (0, 10, 17, 21)] ∈ lw_all := lw_in 631 (by decide +kernel) rfl
theorem qw_635 : Cond.methodLink RL 112 yL_put ∈ lw_all := lw_in 629 (by decide +kernel) rfl
theorem qw_636 : Cond.static yL_put ∈ lw_all := lw_in 630 (by decide +kernel) rfl
theorem qw_637 : Cond.methodLink RL 114 yX6_put ∈ lw_all := lw_in 950 (by decide +kernel) rfl
theorem qw_638 : Cond.instanceMethod yX6_put ∈ lw_all := lw_in 951 (by decide +kernel) rfl
theorem qw_639 : Cond.selects RX6 yX6_put yX6_put ∈ lw_all := lw_in 952 (by decide +kernel) rfl
theorem qw_640 : Cond.code yX6_put cX6_put 4 (some .int) ∈ lw_all := lw_in 953 (by decide +kernel) rfl
theorem qw_641 : Cond.codeWith yL_takeOut cL_takeOut 4 (some .int) [(0, 9, 12, 13), (0, 9, 15, 21)] ∈ lw_all := lw_in 648 (by decide +kernel) rfl
theorem qw_642 : Cond.methodLink RL 115 yL_takeOut ∈ lw_all := lw_in 646 (by decide +kernel) rfl
theorem qw_643 : Cond.static yL_takeOut ∈ lw_all := lw_in 647 (by decide +kernel) rfl
theorem qw_644 : Cond.methodLink RL 117 yX6_takeOut ∈ lw_all := lw_in 970 (by decide +kernel) rfl
theorem qw_645 : Cond.instanceMethod yX6_takeOut ∈ lw_all := lw_in 971 (by decide +kernel) rfl
theorem qw_646 : Cond.selects RX6 yX6_takeOut yX6_takeOut ∈ lw_all := lw_in 972 (by decide +kernel) rfl
theorem qw_647 : Cond.code yX6_takeOut cX6_takeOut 3 (some .int) ∈ lw_all := lw_in 973 (by decide +kernel) rfl
theorem qw_648 : Cond.codeWith yL_duty cL_duty 5 (some .int) [(0, 10, 13, 13)] ∈ lw_all := lw_in 665 (by decide +kernel) rfl
theorem qw_649 : Cond.methodLink RL 118 yL_duty ∈ lw_all := lw_in 663 (by decide +kernel) rfl
theorem qw_650 : Cond.static yL_duty ∈ lw_all := lw_in 664 (by decide +kernel) rfl
theorem qw_651 : Cond.methodLink RL 120 yX6_duty ∈ lw_all := lw_in 974 (by decide +kernel) rfl
theorem qw_652 : Cond.instanceMethod yX6_duty ∈ lw_all := lw_in 975 (by decide +kernel) rfl
theorem qw_653 : Cond.selects RX6 yX6_duty yX6_duty ∈ lw_all := lw_in 976 (by decide +kernel) rfl
theorem qw_654 : Cond.code yX6_duty cX6_duty 3 (some .int) ∈ lw_all := lw_in 977 (by decide +kernel) rfl
theorem qw_655 : Cond.codeWith yL_tripAt cL_tripAt 5 (some .int) [(0, 10, 13, 13)] ∈ lw_all := lw_in 673 (by decide +kernel) rfl
theorem qw_656 : Cond.methodLink RL 121 yL_tripAt ∈ lw_all := lw_in 671 (by decide +kernel) rfl
theorem qw_657 : Cond.static yL_tripAt ∈ lw_all := lw_in 672 (by decide +kernel) rfl
theorem qw_658 : Cond.methodLink RL 123 yX6_tripAt ∈ lw_all := lw_in 982 (by decide +kernel) rfl
theorem qw_659 : Cond.instanceMethod yX6_tripAt ∈ lw_all := lw_in 983 (by decide +kernel) rfl
theorem qw_660 : Cond.selects RX6 yX6_tripAt yX6_tripAt ∈ lw_all := lw_in 984 (by decide +kernel) rfl
theorem qw_661 : Cond.code yX6_tripAt cX6_tripAt 3 (some .int) ∈ lw_all := lw_in 985 (by decide +kernel) rfl
theorem qw_662 : Cond.codeWith yL_bestFor cL_bestFor 4 (some .int) [(0, 9, 12, 13)] ∈ lw_all := lw_in 681 (by decide +kernel) rfl
theorem qw_663 : Cond.methodLink RL 124 yL_bestFor ∈ lw_all := lw_in 679 (by decide +kernel) rfl
theorem qw_664 : Cond.static yL_bestFor ∈ lw_all := lw_in 680 (by decide +kernel) rfl
theorem qw_665 : Cond.methodLink RL 126 yX6_bestFor ∈ lw_all := lw_in 986 (by decide +kernel) rfl
theorem qw_666 : Cond.instanceMethod yX6_bestFor ∈ lw_all := lw_in 987 (by decide +kernel) rfl
theorem qw_667 : Cond.selects RX6 yX6_bestFor yX6_bestFor ∈ lw_all := lw_in 988 (by decide +kernel) rfl
theorem qw_668 : Cond.code yX6_bestFor cX6_bestFor 2 (some .int) ∈ lw_all := lw_in 989 (by decide +kernel) rfl
theorem qw_669 : Cond.codeWith yL_swap cL_swap 6 (some .int) [(0, 12, 15, 13), (0, 12, 19, 15), (0, 12, 23, 21)] ∈ lw_all := lw_in 688 (by decide +kernel) rfl
theorem qw_670 : Cond.methodLink RL 131 yL_swap ∈ lw_all := lw_in 686 (by decide +kernel) rfl
theorem qw_671 : Cond.static yL_swap ∈ lw_all := lw_in 687 (by decide +kernel) rfl
theorem qw_672 : Cond.methodLink RL 133 yX6_swap ∈ lw_all := lw_in 1007 (by decide +kernel) rfl
theorem qw_673 : Cond.instanceMethod yX6_swap ∈ lw_all := lw_in 1008 (by decide +kernel) rfl
theorem qw_674 : Cond.selects RX6 yX6_swap yX6_swap ∈ lw_all := lw_in 1009 (by decide +kernel) rfl
theorem qw_675 : Cond.code yX6_swap cX6_swap 4 (some .int) ∈ lw_all := lw_in 1010 (by decide +kernel) rfl
theorem qw_676 : Cond.codeWith yL_addDriver cL_addDriver 3 (some .int) [(0, 8, 11, 21)] ∈ lw_all := lw_in 698 (by decide +kernel) rfl
theorem qw_677 : Cond.methodLink RL 147 yL_addDriver ∈ lw_all := lw_in 696 (by decide +kernel) rfl
theorem qw_678 : Cond.static yL_addDriver ∈ lw_all := lw_in 697 (by decide +kernel) rfl
theorem qw_679 : Cond.methodLink RL 149 yX6_addDriver ∈ lw_all := lw_in 1035 (by decide +kernel) rfl
theorem qw_680 : Cond.instanceMethod yX6_addDriver ∈ lw_all := lw_in 1036 (by decide +kernel) rfl
theorem qw_681 : Cond.selects RX6 yX6_addDriver yX6_addDriver ∈ lw_all := lw_in 1037 (by decide +kernel) rfl
theorem qw_682 : Cond.code yX6_addDriver cX6_addDriver 1 (some .int) ∈ lw_all := lw_in 1038 (by decide +kernel) rfl
theorem qw_683 : Cond.codeWith yL_reason cL_reason 6 (some .int) [(0, 12, 15, 13)] ∈ lw_all := lw_in 706 (by decide +kernel) rfl
theorem qw_684 : Cond.methodLink RL 150 yL_reason ∈ lw_all := lw_in 704 (by decide +kernel) rfl
theorem qw_685 : Cond.static yL_reason ∈ lw_all := lw_in 705 (by decide +kernel) rfl
theorem qw_686 : Cond.methodLink RL 152 yX6_reason ∈ lw_all := lw_in 1039 (by decide +kernel) rfl
theorem qw_687 : Cond.instanceMethod yX6_reason ∈ lw_all := lw_in 1040 (by decide +kernel) rfl
theorem qw_688 : Cond.selects RX6 yX6_reason yX6_reason ∈ lw_all := lw_in 1041 (by decide +kernel) rfl
theorem qw_689 : Cond.code yX6_reason cX6_reason 4 (some .int) ∈ lw_all := lw_in 1042 (by decide +kernel) rfl
theorem qw_690 : Cond.codeWith yL_give cL_give 6 (some .int) [(0, 12, 15, 13), (0, 12, 19, 21)] ∈ lw_all := lw_in 741 (by decide +kernel) rfl
theorem qw_691 : Cond.methodLink RL 153 yL_give ∈ lw_all := lw_in 739 (by decide +kernel) rfl
theorem qw_692 : Cond.static yL_give ∈ lw_all := lw_in 740 (by decide +kernel) rfl
theorem qw_693 : Cond.methodLink RL 155 yX6_give ∈ lw_all := lw_in 1078 (by decide +kernel) rfl
theorem qw_694 : Cond.instanceMethod yX6_give ∈ lw_all := lw_in 1079 (by decide +kernel) rfl
theorem qw_695 : Cond.selects RX6 yX6_give yX6_give ∈ lw_all := lw_in 1080 (by decide +kernel) rfl
theorem qw_696 : Cond.code yX6_give cX6_give 4 (some .int) ∈ lw_all := lw_in 1081 (by decide +kernel) rfl
theorem qw_697 : Cond.codeWith yL_takeBack cL_takeBack 5 (some .int) [(0, 10, 13, 13), (0, 10, 17, 21)] ∈ lw_all := lw_in 753 (by decide +kernel) rfl
theorem qw_698 : Cond.methodLink RL 156 yL_takeBack ∈ lw_all := lw_in 751 (by decide +kernel) rfl
theorem qw_699 : Cond.static yL_takeBack ∈ lw_all := lw_in 752 (by decide +kernel) rfl
theorem qw_700 : Cond.methodLink RL 158 yX6_takeBack ∈ lw_all := lw_in 1082 (by decide +kernel) rfl
theorem qw_701 : Cond.instanceMethod yX6_takeBack ∈ lw_all := lw_in 1083 (by decide +kernel) rfl
theorem qw_702 : Cond.selects RX6 yX6_takeBack yX6_takeBack ∈ lw_all := lw_in 1084 (by decide +kernel) rfl
theorem qw_703 : Cond.code yX6_takeBack cX6_takeBack 4 (some .int) ∈ lw_all := lw_in 1085 (by decide +kernel) rfl
theorem qw_704 : Cond.codeWith yL_given cL_given 5 (some .int) [(0, 10, 13, 13)] ∈ lw_all := lw_in 762 (by decide +kernel) rfl
theorem qw_705 : Cond.methodLink RL 159 yL_given ∈ lw_all := lw_in 760 (by decide +kernel) rfl
theorem qw_706 : Cond.static yL_given ∈ lw_all := lw_in 761 (by decide +kernel) rfl
theorem qw_707 : Cond.methodLink RL 161 yX6_given ∈ lw_all := lw_in 1086 (by decide +kernel) rfl
theorem qw_708 : Cond.instanceMethod yX6_given ∈ lw_all := lw_in 1087 (by decide +kernel) rfl
theorem qw_709 : Cond.selects RX6 yX6_given yX6_given ∈ lw_all := lw_in 1088 (by decide +kernel) rfl
theorem qw_710 : Cond.code yX6_given cX6_given 3 (some .int) ∈ lw_all := lw_in 1089 (by decide +kernel) rfl
theorem qw_711 : Cond.codeWith yL_fill cL_fill 4 (some .int) [(0, 9, 12, 13)] ∈ lw_all := lw_in 769 (by decide +kernel) rfl
theorem qw_712 : Cond.methodLink RL 162 yL_fill ∈ lw_all := lw_in 767 (by decide +kernel) rfl
theorem qw_713 : Cond.static yL_fill ∈ lw_all := lw_in 768 (by decide +kernel) rfl
theorem qw_714 : Cond.methodLink RL 164 yX6_fill ∈ lw_all := lw_in 1090 (by decide +kernel) rfl
theorem qw_715 : Cond.instanceMethod yX6_fill ∈ lw_all := lw_in 1091 (by decide +kernel) rfl
theorem qw_716 : Cond.selects RX6 yX6_fill yX6_fill ∈ lw_all := lw_in 1092 (by decide +kernel) rfl
theorem qw_717 : Cond.code yX6_fill cX6_fill 9 (some .int) ∈ lw_all := lw_in 1093 (by decide +kernel) rfl
theorem qw_718 : Cond.codeWith yL_week cL_week 4 (some .int) [(0, 9, 12, 13)] ∈ lw_all := lw_in 793 (by decide +kernel) rfl
theorem qw_719 : Cond.methodLink RL 165 yL_week ∈ lw_all := lw_in 791 (by decide +kernel) rfl
theorem qw_720 : Cond.static yL_week ∈ lw_all := lw_in 792 (by decide +kernel) rfl
theorem qw_721 : Cond.methodLink RL 167 yX6_week ∈ lw_all := lw_in 1094 (by decide +kernel) rfl
theorem qw_722 : Cond.instanceMethod yX6_week ∈ lw_all := lw_in 1095 (by decide +kernel) rfl
theorem qw_723 : Cond.selects RX6 yX6_week yX6_week ∈ lw_all := lw_in 1096 (by decide +kernel) rfl
theorem qw_724 : Cond.code yX6_week cX6_week 2 (some .int) ∈ lw_all := lw_in 1097 (by decide +kernel) rfl
theorem qw_725 : Cond.codeWith yL_rest cL_rest 5 (some .int) [(0, 10, 13, 13)] ∈ lw_all := lw_in 801 (by decide +kernel) rfl
theorem qw_726 : Cond.methodLink RL 168 yL_rest ∈ lw_all := lw_in 799 (by decide +kernel) rfl
theorem qw_727 : Cond.static yL_rest ∈ lw_all := lw_in 800 (by decide +kernel) rfl
theorem qw_728 : Cond.methodLink RL 170 yX6_rest ∈ lw_all := lw_in 1098 (by decide +kernel) rfl
theorem qw_729 : Cond.instanceMethod yX6_rest ∈ lw_all := lw_in 1099 (by decide +kernel) rfl
theorem qw_730 : Cond.selects RX6 yX6_rest yX6_rest ∈ lw_all := lw_in 1100 (by decide +kernel) rfl
theorem qw_731 : Cond.code yX6_rest cX6_rest 3 (some .int) ∈ lw_all := lw_in 1101 (by decide +kernel) rfl
theorem qw_732 : Cond.methodLink RL 127 yX5_plan ∈ lw_all := lw_in 264 (by decide +kernel) rfl
theorem qw_733 : Cond.instanceMethod yX5_plan ∈ lw_all := lw_in 265 (by decide +kernel) rfl
theorem qw_734 : Cond.selects RX5 yX5_plan yX5_plan ∈ lw_all := lw_in 266 (by decide +kernel) rfl
theorem qw_735 : Cond.code yX5_plan cX5_plan 2 (some .int) ∈ lw_all := lw_in 267 (by decide +kernel) rfl
theorem qw_736 : Cond.methodLink RL 130 yX6_plan ∈ lw_all := lw_in 998 (by decide +kernel) rfl
theorem qw_737 : Cond.instanceMethod yX6_plan ∈ lw_all := lw_in 999 (by decide +kernel) rfl
theorem qw_738 : Cond.selects RX6 yX6_plan yX6_plan ∈ lw_all := lw_in 1000 (by decide +kernel) rfl
theorem qw_739 : Cond.code yX6_plan cX6_plan 5 (some .int) ∈ lw_all := lw_in 1001 (by decide +kernel) rfl
theorem qw_740 : Cond.methodLink RL 134 yX5_improve ∈ lw_all := lw_in 384 (by decide +kernel) rfl
theorem qw_741 : Cond.instanceMethod yX5_improve ∈ lw_all := lw_in 385 (by decide +kernel) rfl
theorem qw_742 : Cond.selects RX5 yX5_improve yX5_improve ∈ lw_all := lw_in 386 (by decide +kernel) rfl
theorem qw_743 : Cond.code yX5_improve cX5_improve 2 (some .int) ∈ lw_all := lw_in 387 (by decide +kernel) rfl
theorem qw_744 : Cond.methodLink RL 137 yX6_improve ∈ lw_all := lw_in 1019 (by decide +kernel) rfl
theorem qw_745 : Cond.instanceMethod yX6_improve ∈ lw_all := lw_in 1020 (by decide +kernel) rfl
theorem qw_746 : Cond.selects RX6 yX6_improve yX6_improve ∈ lw_all := lw_in 1021 (by decide +kernel) rfl
theorem qw_747 : Cond.code yX6_improve cX6_improve 9 (some .int) ∈ lw_all := lw_in 1022 (by decide +kernel) rfl
theorem qw_748 : Cond.methodLink RL 138 yX5_pay ∈ lw_all := lw_in 425 (by decide +kernel) rfl
theorem qw_749 : Cond.instanceMethod yX5_pay ∈ lw_all := lw_in 426 (by decide +kernel) rfl
theorem qw_750 : Cond.selects RX5 yX5_pay yX5_pay ∈ lw_all := lw_in 427 (by decide +kernel) rfl
theorem qw_751 : Cond.code yX5_pay cX5_pay 3 (some .int) ∈ lw_all := lw_in 428 (by decide +kernel) rfl
theorem qw_752 : Cond.methodLink RL 141 yX6_pay ∈ lw_all := lw_in 1023 (by decide +kernel) rfl
theorem qw_753 : Cond.instanceMethod yX6_pay ∈ lw_all := lw_in 1024 (by decide +kernel) rfl
theorem qw_754 : Cond.selects RX6 yX6_pay yX6_pay ∈ lw_all := lw_in 1025 (by decide +kernel) rfl
theorem qw_755 : Cond.code yX6_pay cX6_pay 1 (some .int) ∈ lw_all := lw_in 1026 (by decide +kernel) rfl
theorem qw_756 : Cond.methodLink RL 171 yX5_digest ∈ lw_all := lw_in 434 (by decide +kernel) rfl
theorem qw_757 : Cond.instanceMethod yX5_digest ∈ lw_all := lw_in 435 (by decide +kernel) rfl
theorem qw_758 : Cond.selects RX5 yX5_digest yX5_digest ∈ lw_all := lw_in 436 (by decide +kernel) rfl
theorem qw_759 : Cond.code yX5_digest cX5_digest 5 (some .long) ∈ lw_all := lw_in 437 (by decide +kernel) rfl
theorem qw_760 : Cond.methodLink RL 175 yX6_digest ∈ lw_all := lw_in 1102 (by decide +kernel) rfl
theorem qw_761 : Cond.instanceMethod yX6_digest ∈ lw_all := lw_in 1103 (by decide +kernel) rfl
theorem qw_762 : Cond.selects RX6 yX6_digest yX6_digest ∈ lw_all := lw_in 1104 (by decide +kernel) rfl
theorem qw_763 : Cond.code yX6_digest cX6_digest 5 (some .long) ∈ lw_all := lw_in 1105 (by decide +kernel) rfl
theorem qw_764 : Cond.methodLink RL 142 yX5_use ∈ lw_all := lw_in 429 (by decide +kernel) rfl
theorem qw_765 : Cond.instanceMethod yX5_use ∈ lw_all := lw_in 430 (by decide +kernel) rfl
theorem qw_766 : Cond.selects RX5 yX5_use yX5_use ∈ lw_all := lw_in 431 (by decide +kernel) rfl
theorem qw_767 : Cond.code yX5_use cX5_use 4 (some .double) ∈ lw_all := lw_in 432 (by decide +kernel) rfl
theorem qw_768 : Cond.methodLink RL 146 yX6_use ∈ lw_all := lw_in 1031 (by decide +kernel) rfl
theorem qw_769 : Cond.instanceMethod yX6_use ∈ lw_all := lw_in 1032 (by decide +kernel) rfl
theorem qw_770 : Cond.selects RX6 yX6_use yX6_use ∈ lw_all := lw_in 1033 (by decide +kernel) rfl
theorem qw_771 : Cond.code yX6_use cX6_use 5 (some .double) ∈ lw_all := lw_in 1034 (by decide +kernel) rfl
theorem glw_setWay : GoodIn lw_all (va_wsS RL 84 yL_setWay (lw_wsW yL_setWay cL_setWay 6 (some .int) [(0, 12, 15, 13), (0, 12, 19, 15)])) := lw_gW qw_588 qw_589 qw_590 qw_587
theorem ydl_setWay : yL_setWay.cls ≠ "java/lang/invoke/MethodHandle" ∧ yL_setWay.cls ≠ "java/lang/invoke/VarHandle" ∧ (parseMethodDescriptor yL_setWay.desc).map (fun d => d.parameters.length) = some 5 := by decide +kernel
theorem gl_L_89 : GoodIn lw_all (wsV RL 89 RX6 yX6_setWay (lw_ws yX6_setWay cX6_setWay 5 (some .int))) := lw_gV qw_591 qw_592 qw_593 qw_263 qw_594
theorem yd_X6_setWay : yX6_setWay.cls = RX6 ∧ yX6_setWay.cls ≠ "java/lang/invoke/MethodHandle" ∧ yX6_setWay.cls ≠ "java/lang/invoke/VarHandle" ∧ (parseMethodDescriptor yX6_setWay.desc).map (fun d => d.parameters.length) = some 3 := by decide +kernel
theorem gl_L_90 : GoodIn lw_all (wsV RL 90 RX6 yX6_thrown (lw_ws yX6_thrown cX6_thrown 1 (some .int))) := lw_gV qw_595 qw_596 qw_597 qw_263 qw_598
theorem yd_X6_thrown : yX6_thrown.cls = RX6 ∧ yX6_thrown.cls ≠ "java/lang/invoke/MethodHandle" ∧ yX6_thrown.cls ≠ "java/lang/invoke/VarHandle" ∧ (parseMethodDescriptor yX6_thrown.desc).map (fun d => d.parameters.length) = some 0 := by decide +kernel
theorem glw_addTrip : GoodIn lw_all (va_wsS RL 93 yL_addTrip (lw_wsW yL_addTrip cL_addTrip 7 (some .int) [(0, 14, 17, 13), (0, 14, 21, 15), (0, 14, 25, 21)])) := lw_gW qw_600 qw_601 qw_590 qw_599
theorem ydl_addTrip : yL_addTrip.cls ≠ "java/lang/invoke/MethodHandle" ∧ yL_addTrip.cls ≠ "java/lang/invoke/VarHandle" ∧ (parseMethodDescriptor yL_addTrip.desc).map (fun d => d.parameters.length) = some 6 := by decide +kernel
theorem gl_L_96 : GoodIn lw_all (wsV RL 96 RX6 yX6_addTrip (lw_ws yX6_addTrip cX6_addTrip 5 (some .int))) := lw_gV qw_602 qw_603 qw_604 qw_263 qw_605
theorem yd_X6_addTrip : yX6_addTrip.cls = RX6 ∧ yX6_addTrip.cls ≠ "java/lang/invoke/MethodHandle" ∧ yX6_addTrip.cls ≠ "java/lang/invoke/VarHandle" ∧ (parseMethodDescriptor yX6_addTrip.desc).map (fun d => d.parameters.length) = some 4 := by decide +kernel
theorem glw_trip : GoodIn lw_all (va_wsS RL 97 yL_trip (lw_wsW yL_trip cL_trip 5 (some .int) [(0, 10, 13, 13)])) := lw_gW qw_607 qw_608 qw_590 qw_606
theorem ydl_trip : yL_trip.cls ≠ "java/lang/invoke/MethodHandle" ∧ yL_trip.cls ≠ "java/lang/invoke/VarHandle" ∧ (parseMethodDescriptor yL_trip.desc).map (fun d => d.parameters.length) = some 4 := by decide +kernel
theorem gl_L_100 : GoodIn lw_all (wsV RL 100 RX6 yX6_trip (lw_ws yX6_trip cX6_trip 3 (some .int))) := lw_gV qw_609 qw_610 qw_611 qw_263 qw_612
theorem yd_X6_trip : yX6_trip.cls = RX6 ∧ yX6_trip.cls ≠ "java/lang/invoke/MethodHandle" ∧ yX6_trip.cls ≠ "java/lang/invoke/VarHandle" ∧ (parseMethodDescriptor yX6_trip.desc).map (fun d => d.parameters.length) = some 2 := by decide +kernel
theorem glw_setRules : GoodIn lw_all (va_wsS RL 101 yL_setRules (lw_wsW yL_setRules cL_setRules 7 (some .int) [(0, 14, 17, 15)])) := lw_gW qw_614 qw_615 qw_590 qw_613
theorem ydl_setRules : yL_setRules.cls ≠ "java/lang/invoke/MethodHandle" ∧ yL_setRules.cls ≠ "java/lang/invoke/VarHandle" ∧ (parseMethodDescriptor yL_setRules.desc).map (fun d => d.parameters.length) = some 6 := by decide +kernel
theorem gl_L_103 : GoodIn lw_all (wsV RL 103 RX6 yX6_setRules (lw_ws yX6_setRules cX6_setRules 7 (some .int))) := lw_gV qw_616 qw_617 qw_618 qw_263 qw_619
theorem yd_X6_setRules : yX6_setRules.cls = RX6 ∧ yX6_setRules.cls ≠ "java/lang/invoke/MethodHandle" ∧ yX6_setRules.cls ≠ "java/lang/invoke/VarHandle" ∧ (parseMethodDescriptor yX6_setRules.desc).map (fun d => d.parameters.length) = some 4 := by decide +kernel
theorem glw_count : GoodIn lw_all (va_wsS RL 104 yL_count (lw_wsW yL_count cL_count 4 (some .int) [(0, 9, 12, 13)])) := lw_gW qw_621 qw_622 qw_590 qw_620
theorem ydl_count : yL_count.cls ≠ "java/lang/invoke/MethodHandle" ∧ yL_count.cls ≠ "java/lang/invoke/VarHandle" ∧ (parseMethodDescriptor yL_count.desc).map (fun d => d.parameters.length) = some 3 := by decide +kernel
theorem gl_L_107 : GoodIn lw_all (wsV RL 107 RX6 yX6_count (lw_ws yX6_count cX6_count 2 (some .int))) := lw_gV qw_623 qw_624 qw_625 qw_263 qw_626
theorem yd_X6_count : yX6_count.cls = RX6 ∧ yX6_count.cls ≠ "java/lang/invoke/MethodHandle" ∧ yX6_count.cls ≠ "java/lang/invoke/VarHandle" ∧ (parseMethodDescriptor yX6_count.desc).map (fun d => d.parameters.length) = some 1 := by decide +kernel
theorem glw_addDuty : GoodIn lw_all (va_wsS RL 108 yL_addDuty (lw_wsW yL_addDuty cL_addDuty 3 (some .int) [(0, 8, 11, 21)])) := lw_gW qw_628 qw_629 qw_590 qw_627
theorem ydl_addDuty : yL_addDuty.cls ≠ "java/lang/invoke/MethodHandle" ∧ yL_addDuty.cls ≠ "java/lang/invoke/VarHandle" ∧ (parseMethodDescriptor yL_addDuty.desc).map (fun d => d.parameters.length) = some 2 := by decide +kernel
theorem gl_L_111 : GoodIn lw_all (wsV RL 111 RX6 yX6_addDuty (lw_ws yX6_addDuty cX6_addDuty 1 (some .int))) := lw_gV qw_630 qw_631 qw_632 qw_263 qw_633
theorem yd_X6_addDuty : yX6_addDuty.cls = RX6 ∧ yX6_addDuty.cls ≠ "java/lang/invoke/MethodHandle" ∧ yX6_addDuty.cls ≠ "java/lang/invoke/VarHandle" ∧ (parseMethodDescriptor yX6_addDuty.desc).map (fun d => d.parameters.length) = some 0 := by decide +kernel
theorem glw_put : GoodIn lw_all (va_wsS RL 112 yL_put (lw_wsW yL_put cL_put 5 (some .int) [(0, 10, 13, 13), (0, 10, 17, 21)])) := lw_gW qw_635 qw_636 qw_590 qw_634
theorem ydl_put : yL_put.cls ≠ "java/lang/invoke/MethodHandle" ∧ yL_put.cls ≠ "java/lang/invoke/VarHandle" ∧ (parseMethodDescriptor yL_put.desc).map (fun d => d.parameters.length) = some 4 := by decide +kernel
theorem gl_L_114 : GoodIn lw_all (wsV RL 114 RX6 yX6_put (lw_ws yX6_put cX6_put 4 (some .int))) := lw_gV qw_637 qw_638 qw_639 qw_263 qw_640
theorem yd_X6_put : yX6_put.cls = RX6 ∧ yX6_put.cls ≠ "java/lang/invoke/MethodHandle" ∧ yX6_put.cls ≠ "java/lang/invoke/VarHandle" ∧ (parseMethodDescriptor yX6_put.desc).map (fun d => d.parameters.length) = some 2 := by decide +kernel
theorem glw_takeOut : GoodIn lw_all (va_wsS RL 115 yL_takeOut (lw_wsW yL_takeOut cL_takeOut 4 (some .int) [(0, 9, 12, 13), (0, 9, 15, 21)])) := lw_gW qw_642 qw_643 qw_590 qw_641
theorem ydl_takeOut : yL_takeOut.cls ≠ "java/lang/invoke/MethodHandle" ∧ yL_takeOut.cls ≠ "java/lang/invoke/VarHandle" ∧ (parseMethodDescriptor yL_takeOut.desc).map (fun d => d.parameters.length) = some 3 := by decide +kernel
theorem gl_L_117 : GoodIn lw_all (wsV RL 117 RX6 yX6_takeOut (lw_ws yX6_takeOut cX6_takeOut 3 (some .int))) := lw_gV qw_644 qw_645 qw_646 qw_263 qw_647
theorem yd_X6_takeOut : yX6_takeOut.cls = RX6 ∧ yX6_takeOut.cls ≠ "java/lang/invoke/MethodHandle" ∧ yX6_takeOut.cls ≠ "java/lang/invoke/VarHandle" ∧ (parseMethodDescriptor yX6_takeOut.desc).map (fun d => d.parameters.length) = some 1 := by decide +kernel
theorem glw_duty : GoodIn lw_all (va_wsS RL 118 yL_duty (lw_wsW yL_duty cL_duty 5 (some .int) [(0, 10, 13, 13)])) := lw_gW qw_649 qw_650 qw_590 qw_648
theorem ydl_duty : yL_duty.cls ≠ "java/lang/invoke/MethodHandle" ∧ yL_duty.cls ≠ "java/lang/invoke/VarHandle" ∧ (parseMethodDescriptor yL_duty.desc).map (fun d => d.parameters.length) = some 4 := by decide +kernel
theorem gl_L_120 : GoodIn lw_all (wsV RL 120 RX6 yX6_duty (lw_ws yX6_duty cX6_duty 3 (some .int))) := lw_gV qw_651 qw_652 qw_653 qw_263 qw_654
theorem yd_X6_duty : yX6_duty.cls = RX6 ∧ yX6_duty.cls ≠ "java/lang/invoke/MethodHandle" ∧ yX6_duty.cls ≠ "java/lang/invoke/VarHandle" ∧ (parseMethodDescriptor yX6_duty.desc).map (fun d => d.parameters.length) = some 2 := by decide +kernel
theorem glw_tripAt : GoodIn lw_all (va_wsS RL 121 yL_tripAt (lw_wsW yL_tripAt cL_tripAt 5 (some .int) [(0, 10, 13, 13)])) := lw_gW qw_656 qw_657 qw_590 qw_655
theorem ydl_tripAt : yL_tripAt.cls ≠ "java/lang/invoke/MethodHandle" ∧ yL_tripAt.cls ≠ "java/lang/invoke/VarHandle" ∧ (parseMethodDescriptor yL_tripAt.desc).map (fun d => d.parameters.length) = some 4 := by decide +kernel
theorem gl_L_123 : GoodIn lw_all (wsV RL 123 RX6 yX6_tripAt (lw_ws yX6_tripAt cX6_tripAt 3 (some .int))) := lw_gV qw_658 qw_659 qw_660 qw_263 qw_661
theorem yd_X6_tripAt : yX6_tripAt.cls = RX6 ∧ yX6_tripAt.cls ≠ "java/lang/invoke/MethodHandle" ∧ yX6_tripAt.cls ≠ "java/lang/invoke/VarHandle" ∧ (parseMethodDescriptor yX6_tripAt.desc).map (fun d => d.parameters.length) = some 2 := by decide +kernel
theorem glw_bestFor : GoodIn lw_all (va_wsS RL 124 yL_bestFor (lw_wsW yL_bestFor cL_bestFor 4 (some .int) [(0, 9, 12, 13)])) := lw_gW qw_663 qw_664 qw_590 qw_662
theorem ydl_bestFor : yL_bestFor.cls ≠ "java/lang/invoke/MethodHandle" ∧ yL_bestFor.cls ≠ "java/lang/invoke/VarHandle" ∧ (parseMethodDescriptor yL_bestFor.desc).map (fun d => d.parameters.length) = some 3 := by decide +kernel
theorem gl_L_126 : GoodIn lw_all (wsV RL 126 RX6 yX6_bestFor (lw_ws yX6_bestFor cX6_bestFor 2 (some .int))) := lw_gV qw_665 qw_666 qw_667 qw_263 qw_668
theorem yd_X6_bestFor : yX6_bestFor.cls = RX6 ∧ yX6_bestFor.cls ≠ "java/lang/invoke/MethodHandle" ∧ yX6_bestFor.cls ≠ "java/lang/invoke/VarHandle" ∧ (parseMethodDescriptor yX6_bestFor.desc).map (fun d => d.parameters.length) = some 1 := by decide +kernel
theorem glw_swap : GoodIn lw_all (va_wsS RL 131 yL_swap (lw_wsW yL_swap cL_swap 6 (some .int) [(0, 12, 15, 13), (0, 12, 19, 15), (0, 12, 23, 21)])) := lw_gW qw_670 qw_671 qw_590 qw_669
theorem ydl_swap : yL_swap.cls ≠ "java/lang/invoke/MethodHandle" ∧ yL_swap.cls ≠ "java/lang/invoke/VarHandle" ∧ (parseMethodDescriptor yL_swap.desc).map (fun d => d.parameters.length) = some 5 := by decide +kernel
theorem gl_L_133 : GoodIn lw_all (wsV RL 133 RX6 yX6_swap (lw_ws yX6_swap cX6_swap 4 (some .int))) := lw_gV qw_672 qw_673 qw_674 qw_263 qw_675
theorem yd_X6_swap : yX6_swap.cls = RX6 ∧ yX6_swap.cls ≠ "java/lang/invoke/MethodHandle" ∧ yX6_swap.cls ≠ "java/lang/invoke/VarHandle" ∧ (parseMethodDescriptor yX6_swap.desc).map (fun d => d.parameters.length) = some 3 := by decide +kernel
theorem glw_addDriver : GoodIn lw_all (va_wsS RL 147 yL_addDriver (lw_wsW yL_addDriver cL_addDriver 3 (some .int) [(0, 8, 11, 21)])) := lw_gW qw_677 qw_678 qw_590 qw_676
theorem ydl_addDriver : yL_addDriver.cls ≠ "java/lang/invoke/MethodHandle" ∧ yL_addDriver.cls ≠ "java/lang/invoke/VarHandle" ∧ (parseMethodDescriptor yL_addDriver.desc).map (fun d => d.parameters.length) = some 2 := by decide +kernel
theorem gl_L_149 : GoodIn lw_all (wsV RL 149 RX6 yX6_addDriver (lw_ws yX6_addDriver cX6_addDriver 1 (some .int))) := lw_gV qw_679 qw_680 qw_681 qw_263 qw_682
theorem yd_X6_addDriver : yX6_addDriver.cls = RX6 ∧ yX6_addDriver.cls ≠ "java/lang/invoke/MethodHandle" ∧ yX6_addDriver.cls ≠ "java/lang/invoke/VarHandle" ∧ (parseMethodDescriptor yX6_addDriver.desc).map (fun d => d.parameters.length) = some 0 := by decide +kernel
theorem glw_reason : GoodIn lw_all (va_wsS RL 150 yL_reason (lw_wsW yL_reason cL_reason 6 (some .int) [(0, 12, 15, 13)])) := lw_gW qw_684 qw_685 qw_590 qw_683
theorem ydl_reason : yL_reason.cls ≠ "java/lang/invoke/MethodHandle" ∧ yL_reason.cls ≠ "java/lang/invoke/VarHandle" ∧ (parseMethodDescriptor yL_reason.desc).map (fun d => d.parameters.length) = some 5 := by decide +kernel
theorem gl_L_152 : GoodIn lw_all (wsV RL 152 RX6 yX6_reason (lw_ws yX6_reason cX6_reason 4 (some .int))) := lw_gV qw_686 qw_687 qw_688 qw_263 qw_689
theorem yd_X6_reason : yX6_reason.cls = RX6 ∧ yX6_reason.cls ≠ "java/lang/invoke/MethodHandle" ∧ yX6_reason.cls ≠ "java/lang/invoke/VarHandle" ∧ (parseMethodDescriptor yX6_reason.desc).map (fun d => d.parameters.length) = some 3 := by decide +kernel
theorem glw_give : GoodIn lw_all (va_wsS RL 153 yL_give (lw_wsW yL_give cL_give 6 (some .int) [(0, 12, 15, 13), (0, 12, 19, 21)])) := lw_gW qw_691 qw_692 qw_590 qw_690
theorem ydl_give : yL_give.cls ≠ "java/lang/invoke/MethodHandle" ∧ yL_give.cls ≠ "java/lang/invoke/VarHandle" ∧ (parseMethodDescriptor yL_give.desc).map (fun d => d.parameters.length) = some 5 := by decide +kernel
theorem gl_L_155 : GoodIn lw_all (wsV RL 155 RX6 yX6_give (lw_ws yX6_give cX6_give 4 (some .int))) := lw_gV qw_693 qw_694 qw_695 qw_263 qw_696
theorem yd_X6_give : yX6_give.cls = RX6 ∧ yX6_give.cls ≠ "java/lang/invoke/MethodHandle" ∧ yX6_give.cls ≠ "java/lang/invoke/VarHandle" ∧ (parseMethodDescriptor yX6_give.desc).map (fun d => d.parameters.length) = some 3 := by decide +kernel
theorem glw_takeBack : GoodIn lw_all (va_wsS RL 156 yL_takeBack (lw_wsW yL_takeBack cL_takeBack 5 (some .int) [(0, 10, 13, 13), (0, 10, 17, 21)])) := lw_gW qw_698 qw_699 qw_590 qw_697
theorem ydl_takeBack : yL_takeBack.cls ≠ "java/lang/invoke/MethodHandle" ∧ yL_takeBack.cls ≠ "java/lang/invoke/VarHandle" ∧ (parseMethodDescriptor yL_takeBack.desc).map (fun d => d.parameters.length) = some 4 := by decide +kernel
theorem gl_L_158 : GoodIn lw_all (wsV RL 158 RX6 yX6_takeBack (lw_ws yX6_takeBack cX6_takeBack 4 (some .int))) := lw_gV qw_700 qw_701 qw_702 qw_263 qw_703
theorem yd_X6_takeBack : yX6_takeBack.cls = RX6 ∧ yX6_takeBack.cls ≠ "java/lang/invoke/MethodHandle" ∧ yX6_takeBack.cls ≠ "java/lang/invoke/VarHandle" ∧ (parseMethodDescriptor yX6_takeBack.desc).map (fun d => d.parameters.length) = some 2 := by decide +kernel
theorem glw_given : GoodIn lw_all (va_wsS RL 159 yL_given (lw_wsW yL_given cL_given 5 (some .int) [(0, 10, 13, 13)])) := lw_gW qw_705 qw_706 qw_590 qw_704
theorem ydl_given : yL_given.cls ≠ "java/lang/invoke/MethodHandle" ∧ yL_given.cls ≠ "java/lang/invoke/VarHandle" ∧ (parseMethodDescriptor yL_given.desc).map (fun d => d.parameters.length) = some 4 := by decide +kernel
theorem gl_L_161 : GoodIn lw_all (wsV RL 161 RX6 yX6_given (lw_ws yX6_given cX6_given 3 (some .int))) := lw_gV qw_707 qw_708 qw_709 qw_263 qw_710
theorem yd_X6_given : yX6_given.cls = RX6 ∧ yX6_given.cls ≠ "java/lang/invoke/MethodHandle" ∧ yX6_given.cls ≠ "java/lang/invoke/VarHandle" ∧ (parseMethodDescriptor yX6_given.desc).map (fun d => d.parameters.length) = some 2 := by decide +kernel
theorem glw_fill : GoodIn lw_all (va_wsS RL 162 yL_fill (lw_wsW yL_fill cL_fill 4 (some .int) [(0, 9, 12, 13)])) := lw_gW qw_712 qw_713 qw_590 qw_711
theorem ydl_fill : yL_fill.cls ≠ "java/lang/invoke/MethodHandle" ∧ yL_fill.cls ≠ "java/lang/invoke/VarHandle" ∧ (parseMethodDescriptor yL_fill.desc).map (fun d => d.parameters.length) = some 3 := by decide +kernel
theorem gl_L_164 : GoodIn lw_all (wsV RL 164 RX6 yX6_fill (lw_ws yX6_fill cX6_fill 9 (some .int))) := lw_gV qw_714 qw_715 qw_716 qw_263 qw_717
theorem yd_X6_fill : yX6_fill.cls = RX6 ∧ yX6_fill.cls ≠ "java/lang/invoke/MethodHandle" ∧ yX6_fill.cls ≠ "java/lang/invoke/VarHandle" ∧ (parseMethodDescriptor yX6_fill.desc).map (fun d => d.parameters.length) = some 1 := by decide +kernel
theorem glw_week : GoodIn lw_all (va_wsS RL 165 yL_week (lw_wsW yL_week cL_week 4 (some .int) [(0, 9, 12, 13)])) := lw_gW qw_719 qw_720 qw_590 qw_718
theorem ydl_week : yL_week.cls ≠ "java/lang/invoke/MethodHandle" ∧ yL_week.cls ≠ "java/lang/invoke/VarHandle" ∧ (parseMethodDescriptor yL_week.desc).map (fun d => d.parameters.length) = some 3 := by decide +kernel
theorem gl_L_167 : GoodIn lw_all (wsV RL 167 RX6 yX6_week (lw_ws yX6_week cX6_week 2 (some .int))) := lw_gV qw_721 qw_722 qw_723 qw_263 qw_724
theorem yd_X6_week : yX6_week.cls = RX6 ∧ yX6_week.cls ≠ "java/lang/invoke/MethodHandle" ∧ yX6_week.cls ≠ "java/lang/invoke/VarHandle" ∧ (parseMethodDescriptor yX6_week.desc).map (fun d => d.parameters.length) = some 1 := by decide +kernel
theorem glw_rest : GoodIn lw_all (va_wsS RL 168 yL_rest (lw_wsW yL_rest cL_rest 5 (some .int) [(0, 10, 13, 13)])) := lw_gW qw_726 qw_727 qw_590 qw_725
theorem ydl_rest : yL_rest.cls ≠ "java/lang/invoke/MethodHandle" ∧ yL_rest.cls ≠ "java/lang/invoke/VarHandle" ∧ (parseMethodDescriptor yL_rest.desc).map (fun d => d.parameters.length) = some 4 := by decide +kernel
theorem gl_L_170 : GoodIn lw_all (wsV RL 170 RX6 yX6_rest (lw_ws yX6_rest cX6_rest 3 (some .int))) := lw_gV qw_728 qw_729 qw_730 qw_263 qw_731
theorem yd_X6_rest : yX6_rest.cls = RX6 ∧ yX6_rest.cls ≠ "java/lang/invoke/MethodHandle" ∧ yX6_rest.cls ≠ "java/lang/invoke/VarHandle" ∧ (parseMethodDescriptor yX6_rest.desc).map (fun d => d.parameters.length) = some 2 := by decide +kernel
theorem gl_L_127 : GoodIn lw_all (wsV RL 127 RX5 yX5_plan (lw_ws yX5_plan cX5_plan 2 (some .int))) := lw_gV qw_732 qw_733 qw_734 qw_88 qw_735
theorem yd_X5_plan : yX5_plan.cls = RX5 ∧ yX5_plan.cls ≠ "java/lang/invoke/MethodHandle" ∧ yX5_plan.cls ≠ "java/lang/invoke/VarHandle" ∧ (parseMethodDescriptor yX5_plan.desc).map (fun d => d.parameters.length) = some 0 := by decide +kernel
theorem gl_L_130 : GoodIn lw_all (wsV RL 130 RX6 yX6_plan (lw_ws yX6_plan cX6_plan 5 (some .int))) := lw_gV qw_736 qw_737 qw_738 qw_263 qw_739
theorem yd_X6_plan : yX6_plan.cls = RX6 ∧ yX6_plan.cls ≠ "java/lang/invoke/MethodHandle" ∧ yX6_plan.cls ≠ "java/lang/invoke/VarHandle" ∧ (parseMethodDescriptor yX6_plan.desc).map (fun d => d.parameters.length) = some 0 := by decide +kernel
theorem gl_L_134 : GoodIn lw_all (wsV RL 134 RX5 yX5_improve (lw_ws yX5_improve cX5_improve 2 (some .int))) := lw_gV qw_740 qw_741 qw_742 qw_88 qw_743
theorem yd_X5_improve : yX5_improve.cls = RX5 ∧ yX5_improve.cls ≠ "java/lang/invoke/MethodHandle" ∧ yX5_improve.cls ≠ "java/lang/invoke/VarHandle" ∧ (parseMethodDescriptor yX5_improve.desc).map (fun d => d.parameters.length) = some 0 := by decide +kernel
theorem gl_L_137 : GoodIn lw_all (wsV RL 137 RX6 yX6_improve (lw_ws yX6_improve cX6_improve 9 (some .int))) := lw_gV qw_744 qw_745 qw_746 qw_263 qw_747
theorem yd_X6_improve : yX6_improve.cls = RX6 ∧ yX6_improve.cls ≠ "java/lang/invoke/MethodHandle" ∧ yX6_improve.cls ≠ "java/lang/invoke/VarHandle" ∧ (parseMethodDescriptor yX6_improve.desc).map (fun d => d.parameters.length) = some 0 := by decide +kernel
theorem gl_L_138 : GoodIn lw_all (wsV RL 138 RX5 yX5_pay (lw_ws yX5_pay cX5_pay 3 (some .int))) := lw_gV qw_748 qw_749 qw_750 qw_88 qw_751
theorem yd_X5_pay : yX5_pay.cls = RX5 ∧ yX5_pay.cls ≠ "java/lang/invoke/MethodHandle" ∧ yX5_pay.cls ≠ "java/lang/invoke/VarHandle" ∧ (parseMethodDescriptor yX5_pay.desc).map (fun d => d.parameters.length) = some 0 := by decide +kernel
theorem gl_L_141 : GoodIn lw_all (wsV RL 141 RX6 yX6_pay (lw_ws yX6_pay cX6_pay 1 (some .int))) := lw_gV qw_752 qw_753 qw_754 qw_263 qw_755
theorem yd_X6_pay : yX6_pay.cls = RX6 ∧ yX6_pay.cls ≠ "java/lang/invoke/MethodHandle" ∧ yX6_pay.cls ≠ "java/lang/invoke/VarHandle" ∧ (parseMethodDescriptor yX6_pay.desc).map (fun d => d.parameters.length) = some 0 := by decide +kernel
theorem gl_L_171 : GoodIn lw_all (wsV RL 171 RX5 yX5_digest (lw_ws yX5_digest cX5_digest 5 (some .long))) := lw_gV qw_756 qw_757 qw_758 qw_88 qw_759
theorem yd_X5_digest : yX5_digest.cls = RX5 ∧ yX5_digest.cls ≠ "java/lang/invoke/MethodHandle" ∧ yX5_digest.cls ≠ "java/lang/invoke/VarHandle" ∧ (parseMethodDescriptor yX5_digest.desc).map (fun d => d.parameters.length) = some 0 := by decide +kernel
theorem gl_L_175 : GoodIn lw_all (wsV RL 175 RX6 yX6_digest (lw_ws yX6_digest cX6_digest 5 (some .long))) := lw_gV qw_760 qw_761 qw_762 qw_263 qw_763
theorem yd_X6_digest : yX6_digest.cls = RX6 ∧ yX6_digest.cls ≠ "java/lang/invoke/MethodHandle" ∧ yX6_digest.cls ≠ "java/lang/invoke/VarHandle" ∧ (parseMethodDescriptor yX6_digest.desc).map (fun d => d.parameters.length) = some 0 := by decide +kernel
theorem gl_L_142 : GoodIn lw_all (wsV RL 142 RX5 yX5_use (lw_ws yX5_use cX5_use 4 (some .double))) := lw_gV qw_764 qw_765 qw_766 qw_88 qw_767
theorem yd_X5_use : yX5_use.cls = RX5 ∧ yX5_use.cls ≠ "java/lang/invoke/MethodHandle" ∧ yX5_use.cls ≠ "java/lang/invoke/VarHandle" ∧ (parseMethodDescriptor yX5_use.desc).map (fun d => d.parameters.length) = some 0 := by decide +kernel
theorem gl_L_146 : GoodIn lw_all (wsV RL 146 RX6 yX6_use (lw_ws yX6_use cX6_use 5 (some .double))) := lw_gV qw_768 qw_769 qw_770 qw_263 qw_771
theorem yd_X6_use : yX6_use.cls = RX6 ∧ yX6_use.cls ≠ "java/lang/invoke/MethodHandle" ∧ yX6_use.cls ≠ "java/lang/invoke/VarHandle" ∧ (parseMethodDescriptor yX6_use.desc).map (fun d => d.parameters.length) = some 0 := by decide +kernel
set_option maxHeartbeats 4000000 in
set_option maxRecDepth 100000 in
theorem law_setWay {p : Program} {l : Launch} {e : Env} {s : State} {m : MethodId} {below : List Frame} {meth : Method} {c : Code} {b L : Nat} {xs : Nat → Int32} {Q : State → Prop} {g : dd_G} {cJ : ClassId} {ad adM : Nat → Nat} {qo : Nat} (hst : l.stackTraces = false) (hx : p.tables.exec = Jvm.exec) (hb : c.code = cL_law) (hml : c.maxLocals = 9) (hown : s.vm.findClass RL = some m.cls) (hts : ∀ w ∈ lw_all, w.before #[Value.ref b] s = true) (hX : va_X b L xs s s.heap) (hbl : b < s.heap.size) (hK : KC g s) (hKJ : KJ g cJ s) (hNC : NC s) (hXF : XF (lA s) s s.heap) (hD : ∀ (sC sM : dd_S) (o : Nat → Int64), va_D (lA s) (LW g ad cJ qo adM sC sM o)) {Inv : dd_S → dd_S → Prop} (h : PO_setWay Inv) {sC sM : dd_S} {o : Nat → Int64} {H : Heap} {locs : List Loc} {ls : Array Slot} {k n i : Nat} (hI : Inv sC sM) (hi : 5 * i + 5 ≤ L) (hL : L ≤ 2560) (hk : k + 110 ≤ 601024) (hn : n + 1000 ≤ 7293034) (hP : va_P g.1 vwCl (LW g ad cJ qo adM sC sM o) H) (hS : va_S (lA s) s.heap H locs) (hl : lv_has ls 9 [(0, .ref b), (1, .ref (ad 30)), (2, .ref (adM 0)), (3, .ref qo), (4, .int (nI (5 * i)))]) (next : ∀ (sC2 sM2 : dd_S) (o2 : Nat → Int64) (H : Heap) (locs : List Loc) (ls : Array Slot), Inv sC2 sM2 → va_P g.1 vwCl (LW g ad cJ qo adM sC2 sM2 o2) H → va_S (lA s) s.heap H locs → lv_has ls 9 [(0, .ref b), (1, .ref (ad 30)), (2, .ref (adM 0)), (3, .ref qo), (4, .int (nI (5 * i)))] → W p l e room_1 s m #[Value.ref b] below meth c H locs (k + 110) (n + 1000) Q (F0 m 1594 ls [])) : W p l e room_1 s m #[Value.ref b] below meth c H locs k n Q (F0 m 152 ls []) := by
  obtain ⟨k0, r0, sC2, bb, sM2, hf, hk0, hq, hth, hrb, hI2⟩ := h sC sM (xs (nI (5 * i) + 1).toNatClampNeg) (xs (nI (5 * i) + 2).toNatClampNeg) (xs (nI (5 * i) + 3).toNatClampNeg) hI
  have hbA : ¬ lA s b := Nat.not_le.mpr hbl
  refine lv_aload_n hx hb dL_law_152 rfl (lv_at hl 1 rfl) ?_
  refine lv_aload_n hx hb dL_law_153 rfl (lv_at hl 0 rfl) ?_
  refine lv_iload hx hb dL_law_154 (lv_at hl 4 rfl) ?_
  refine lv_iconst (v := 1) hx hb dL_law_156 (by decide) ?_
  refine lv_iadd hx hb dL_law_157 ?_
  refine va_sld hx hb hX hbl hbA hS (law_in hi hL 1 (by decide) (nI_1 _)) dL_law_158 ?_
  refine lv_aload_n hx hb dL_law_159 rfl (lv_at hl 0 rfl) ?_
  refine lv_iload hx hb dL_law_160 (lv_at hl 4 rfl) ?_
  refine lv_iconst (v := 2) hx hb dL_law_162 (by decide) ?_
  refine lv_iadd hx hb dL_law_163 ?_
  refine va_sld hx hb hX hbl hbA hS (law_in hi hL 2 (by decide) (nI_add _ 2)) dL_law_164 ?_
  refine lv_aload_n hx hb dL_law_165 rfl (lv_at hl 0 rfl) ?_
  refine lv_iload hx hb dL_law_166 (lv_at hl 4 rfl) ?_
  refine lv_iconst (v := 3) hx hb dL_law_168 (by decide) ?_
  refine lv_iadd hx hb dL_law_169 ?_
  refine va_sld hx hb hX hbl hbA hS (law_in hi hL 3 (by decide) (nI_add _ 3)) dL_law_170 ?_
  refine lv_aload_n hx hb dL_law_171 rfl (lv_at hl 3 rfl) ?_
  refine cl_i (vx_runSW (As := [.ref (ad 30), .int (xs (nI (5 * i) + 1).toNatClampNeg), .int (xs (nI (5 * i) + 2).toNatClampNeg), .int (xs (nI (5 * i) + 3).toNatClampNeg), .ref qo]) (rest := []) ⟨hx, hb, hml, hown, hts⟩ (c_L_setWay l hst g cJ ad (WM g adM sM) qo o _ sC (xs (nI (5 * i) + 1).toNatClampNeg) (xs (nI (5 * i) + 2).toNatClampNeg) (xs (nI (5 * i) + 3).toNatClampNeg) k0 r0 sC2 hf hk0) (vx_cwSW 5 hts glw_setWay rfl rfl rfl ydl_setWay ⟨Nat.le_of_ble_eq_true rfl, Nat.le_of_ble_eq_true rfl⟩) (preSL_of hK hP (hD sC sM o) (law_XF hXF hS (hD sC sM o)) hKJ hNC) rfl rfl hl.1 rfl (lv_room (Nat.le_of_ble_eq_true rfl)) dL_law_172 ⟨(show k + 0 + 1 ≤ 601024 by omega), (show n + 0 + 6 ≤ 7293034 by omega)⟩) hS (fun q h => law_A (hD sC sM o) hS.1 h) (fun q h => law_A (hD sC sM o) hS.1 h) (fun H locs hP hS => ?_)
  refine W.widen (k := k + 1) (n := n + 6) (by omega) (by omega) ?_
  refine lv_topi (fun x5 e5 => ?_)
  refine lv_istore (lv' := [(5, .int x5), (0, .ref b), (1, .ref (ad 30)), (2, .ref (adM 0)), (3, .ref qo), (4, .int (nI (5 * i)))]) hx hb dL_law_175 hl (by decide) rfl (fun ls hl => ?_)
  refine lv_aload_n hx hb dL_law_177 rfl (lv_at hl 3 rfl) ?_
  refine lv_aload_n hx hb dL_law_178 rfl (lv_at hl 1 rfl) ?_
  refine lv_iload hx hb dL_law_179 (lv_at hl 5 rfl) ?_
  refine lv_iconst (v := 1) hx hb dL_law_181 (by decide) ?_
  refine lv_iadd hx hb dL_law_182 ?_
  refine va_sld hx hb hX hbl hbA hS (law_in hi hL 1 (by decide) (nI_1 _)) dL_law_183 ?_
  refine lv_aload_n hx hb dL_law_184 rfl (lv_at hl 1 rfl) ?_
  refine lv_iload hx hb dL_law_185 (lv_at hl 5 rfl) ?_
  refine lv_iconst (v := 2) hx hb dL_law_187 (by decide) ?_
  refine lv_iadd hx hb dL_law_188 ?_
  refine va_sld hx hb hX hbl hbA hS (law_in hi hL 2 (by decide) (nI_add _ 2)) dL_law_189 ?_
  refine lv_aload_n hx hb dL_law_190 rfl (lv_at hl 1 rfl) ?_
  refine lv_iload hx hb dL_law_191 (lv_at hl 5 rfl) ?_
  refine lv_iconst (v := 3) hx hb dL_law_193 (by decide) ?_
  refine lv_iadd hx hb dL_law_194 ?_
  refine va_sld hx hb hX hbl hbA hS (law_in hi hL 3 (by decide) (nI_add _ 3)) dL_law_195 ?_
  have hP := P_rot hP
  have hD9 := D_rot (hD sC2 sM (if k0 = 0 then vp_updL o 0 r0.toInt64 else o))
  refine cl_i (va_runV (As := [.int (xs (nI (5 * i) + 1).toNatClampNeg), .int (xs (nI (5 * i) + 2).toNatClampNeg), .int (xs (nI (5 * i) + 3).toNatClampNeg)]) (rest := []) ⟨hx, hb, hml, hown, hts⟩ (c_X6_setWay l g adM (WC g ad sC2 ++ [(qo, OutE cJ (if k0 = 0 then vp_updL o 0 r0.toInt64 else o))]) _ sM (xs (nI (5 * i) + 1).toNatClampNeg) (xs (nI (5 * i) + 2).toNatClampNeg) (xs (nI (5 * i) + 3).toNatClampNeg) bb sM2 hq) (cwV 3 hts gl_L_89 rfl rfl rfl yd_X6_setWay ⟨Nat.le_of_ble_eq_true rfl, Nat.le_of_ble_eq_true rfl⟩) (preV_of hK hP (dd_D hD9) (dd_at (by decide) cm_0) rfl) rfl rfl hl.1 rfl (lv_room (Nat.le_of_ble_eq_true rfl)) dL_law_196 ⟨(show k + 1 + 0 ≤ 601024 by omega), (show n + 6 + 0 ≤ 7293034 by omega)⟩) hS (fun q h => law_A hD9 hS.1 h) (fun q h => law_A hD9 hS.1 h) (fun H locs hP hS => ?_)
  have hP := P_rot2 hP
  refine W.widen (k := k + 1) (n := n + 6) (by omega) (by omega) ?_
  refine lv_istore (lv' := [(6, .int bb), (5, .int x5), (0, .ref b), (1, .ref (ad 30)), (2, .ref (adM 0)), (3, .ref qo), (4, .int (nI (5 * i)))]) hx hb dL_law_199 hl (by decide) rfl (fun ls hl => ?_)
  refine lv_aload_n hx hb dL_law_201 rfl (lv_at hl 4 rfl) ?_
  have hP := P_rot hP
  have hD9 := D_rot (hD sC2 sM2 (if k0 = 0 then vp_updL o 0 r0.toInt64 else o))
  refine cl_i (va_runV (As := []) (rest := []) ⟨hx, hb, hml, hown, hts⟩ (c_X6_thrown l g adM (WC g ad sC2 ++ [(qo, OutE cJ (if k0 = 0 then vp_updL o 0 r0.toInt64 else o))]) _ sM2 (sM2 0 0) rfl) (cwV 0 hts gl_L_90 rfl rfl rfl yd_X6_thrown ⟨Nat.le_of_ble_eq_true rfl, Nat.le_of_ble_eq_true rfl⟩) (preV_of hK hP hD9 (dd_at (by decide) cm_0) rfl) rfl rfl hl.1 rfl (lv_room (Nat.le_of_ble_eq_true rfl)) dL_law_202 ⟨(show k + 1 + 0 ≤ 601024 by omega), (show n + 6 + 0 ≤ 7293034 by omega)⟩) hS (fun q h => law_A hD9 hS.1 h) (fun q h => law_A hD9 hS.1 h) (fun H locs hP hS => ?_)
  have hP := P_rot2 hP
  refine W.widen (k := k + 1) (n := n + 6) (by omega) (by omega) ?_
  refine lv_iload hx hb dL_law_205 (lv_at hl 1 rfl) ?_
  refine lv_icmp_eq (tgt := 212) hx hb dL_law_207 (by decide) (fun _ => ?_) (fun c9 => absurd (hth.trans e5.symm) c9)
  refine lv_iload hx hb dL_law_212 (lv_at hl 1 rfl) ?_
  rcases hk0 with rfl | rfl | rfl
  · have e5 : x5 = 0 := e5
    refine lv_if_ne (tgt := 229) hx hb dL_law_214 (by decide) (fun c9 => absurd e5 c9) (fun _ => ?_)
    refine lv_aload_n hx hb dL_law_217 rfl (lv_at hl 5 rfl) ?_
    refine lv_iconst (v := 0) hx hb dL_law_218 (by decide) ?_
    refine va_lald hx hb hKJ hP 59 3 dd_first rfl (ix_in (i := 0) (n := 1) (by decide)) dL_law_219 ?_
    refine lv_iload hx hb dL_law_220 (lv_at hl 0 rfl) ?_
    refine lv_i2l hx hb dL_law_222 rfl ?_
    refine W.lcmp hx hb dL_law_223 ?_
    refine lv_if_eq (tgt := 229) hx hb dL_law_224 (by decide) (fun _ => ?_) (fun c9 => absurd (show lg_cmp r0.toInt64 bb.toInt64 = 0 by rw [hrb rfl]; exact law_self _) c9)
    refine lv_goto (tgt := 1594) hx hb dL_law_229 (by decide) ?_
    refine W.widen (k := k + 110) (n := n + 1000) (by omega) (by omega) ?_
    exact next sC2 sM2 _ _ _ _ hI2 hP hS (lv_sub hl [2, 3, 4, 5, 6] rfl)
  · have e5 : x5 = 1 := e5
    refine lv_if_ne (tgt := 229) hx hb dL_law_214 (by decide) (fun _ => ?_) (fun c9 => absurd (e5.symm.trans c9) (by decide))
    refine lv_goto (tgt := 1594) hx hb dL_law_229 (by decide) ?_
    refine W.widen (k := k + 110) (n := n + 1000) (by omega) (by omega) ?_
    exact next sC2 sM2 _ _ _ _ hI2 hP hS (lv_sub hl [2, 3, 4, 5, 6] rfl)
  · have e5 : x5 = 2 := e5
    refine lv_if_ne (tgt := 229) hx hb dL_law_214 (by decide) (fun _ => ?_) (fun c9 => absurd (e5.symm.trans c9) (by decide))
    refine lv_goto (tgt := 1594) hx hb dL_law_229 (by decide) ?_
    refine W.widen (k := k + 110) (n := n + 1000) (by omega) (by omega) ?_
    exact next sC2 sM2 _ _ _ _ hI2 hP hS (lv_sub hl [2, 3, 4, 5, 6] rfl)
set_option maxHeartbeats 4000000 in
set_option maxRecDepth 100000 in
theorem law_addTrip {p : Program} {l : Launch} {e : Env} {s : State} {m : MethodId} {below : List Frame} {meth : Method} {c : Code} {b L : Nat} {xs : Nat → Int32} {Q : State → Prop} {g : dd_G} {cJ : ClassId} {ad adM : Nat → Nat} {qo : Nat} (hst : l.stackTraces = false) (hx : p.tables.exec = Jvm.exec) (hb : c.code = cL_law) (hml : c.maxLocals = 9) (hown : s.vm.findClass RL = some m.cls) (hts : ∀ w ∈ lw_all, w.before #[Value.ref b] s = true) (hX : va_X b L xs s s.heap) (hbl : b < s.heap.size) (hK : KC g s) (hKJ : KJ g cJ s) (hNC : NC s) (hXF : XF (lA s) s s.heap) (hD : ∀ (sC sM : dd_S) (o : Nat → Int64), va_D (lA s) (LW g ad cJ qo adM sC sM o)) {Inv : dd_S → dd_S → Prop} (h : PO_addTrip Inv) {sC sM : dd_S} {o : Nat → Int64} {H : Heap} {locs : List Loc} {ls : Array Slot} {k n i : Nat} (hI : Inv sC sM) (hi : 5 * i + 5 ≤ L) (hL : L ≤ 2560) (hk : k + 110 ≤ 601024) (hn : n + 1000 ≤ 7293034) (hP : va_P g.1 vwCl (LW g ad cJ qo adM sC sM o) H) (hS : va_S (lA s) s.heap H locs) (hl : lv_has ls 9 [(0, .ref b), (1, .ref (ad 30)), (2, .ref (adM 0)), (3, .ref qo), (4, .int (nI (5 * i)))]) (next : ∀ (sC2 sM2 : dd_S) (o2 : Nat → Int64) (H : Heap) (locs : List Loc) (ls : Array Slot), Inv sC2 sM2 → va_P g.1 vwCl (LW g ad cJ qo adM sC2 sM2 o2) H → va_S (lA s) s.heap H locs → lv_has ls 9 [(0, .ref b), (1, .ref (ad 30)), (2, .ref (adM 0)), (3, .ref qo), (4, .int (nI (5 * i)))] → W p l e room_1 s m #[Value.ref b] below meth c H locs (k + 110) (n + 1000) Q (F0 m 1594 ls [])) : W p l e room_1 s m #[Value.ref b] below meth c H locs k n Q (F0 m 232 ls []) := by
  obtain ⟨k0, r0, sC2, bb, sM2, hf, hk0, hq, hth, hrb, hI2⟩ := h sC sM (xs (nI (5 * i) + 1).toNatClampNeg) (xs (nI (5 * i) + 2).toNatClampNeg) (xs (nI (5 * i) + 3).toNatClampNeg) (xs (nI (5 * i) + 4).toNatClampNeg) hI
  have hbA : ¬ lA s b := Nat.not_le.mpr hbl
  refine lv_aload_n hx hb dL_law_232 rfl (lv_at hl 1 rfl) ?_
  refine lv_aload_n hx hb dL_law_233 rfl (lv_at hl 0 rfl) ?_
  refine lv_iload hx hb dL_law_234 (lv_at hl 4 rfl) ?_
  refine lv_iconst (v := 1) hx hb dL_law_236 (by decide) ?_
  refine lv_iadd hx hb dL_law_237 ?_
  refine va_sld hx hb hX hbl hbA hS (law_in hi hL 1 (by decide) (nI_1 _)) dL_law_238 ?_
  refine lv_aload_n hx hb dL_law_239 rfl (lv_at hl 0 rfl) ?_
  refine lv_iload hx hb dL_law_240 (lv_at hl 4 rfl) ?_
  refine lv_iconst (v := 2) hx hb dL_law_242 (by decide) ?_
  refine lv_iadd hx hb dL_law_243 ?_
  refine va_sld hx hb hX hbl hbA hS (law_in hi hL 2 (by decide) (nI_add _ 2)) dL_law_244 ?_
  refine lv_aload_n hx hb dL_law_245 rfl (lv_at hl 0 rfl) ?_
  refine lv_iload hx hb dL_law_246 (lv_at hl 4 rfl) ?_
  refine lv_iconst (v := 3) hx hb dL_law_248 (by decide) ?_
  refine lv_iadd hx hb dL_law_249 ?_
  refine va_sld hx hb hX hbl hbA hS (law_in hi hL 3 (by decide) (nI_add _ 3)) dL_law_250 ?_
  refine lv_aload_n hx hb dL_law_251 rfl (lv_at hl 0 rfl) ?_
  refine lv_iload hx hb dL_law_252 (lv_at hl 4 rfl) ?_
  refine lv_iconst (v := 4) hx hb dL_law_254 (by decide) ?_
  refine lv_iadd hx hb dL_law_255 ?_
  refine va_sld hx hb hX hbl hbA hS (law_in hi hL 4 (by decide) (nI_add _ 4)) dL_law_256 ?_
  refine lv_aload_n hx hb dL_law_257 rfl (lv_at hl 3 rfl) ?_
  refine cl_i (vx_runSW (As := [.ref (ad 30), .int (xs (nI (5 * i) + 1).toNatClampNeg), .int (xs (nI (5 * i) + 2).toNatClampNeg), .int (xs (nI (5 * i) + 3).toNatClampNeg), .int (xs (nI (5 * i) + 4).toNatClampNeg), .ref qo]) (rest := []) ⟨hx, hb, hml, hown, hts⟩ (c_L_addTrip l hst g cJ ad (WM g adM sM) qo o _ sC (xs (nI (5 * i) + 1).toNatClampNeg) (xs (nI (5 * i) + 2).toNatClampNeg) (xs (nI (5 * i) + 3).toNatClampNeg) (xs (nI (5 * i) + 4).toNatClampNeg) k0 r0 sC2 hf hk0) (vx_cwSW 6 hts glw_addTrip rfl rfl rfl ydl_addTrip ⟨Nat.le_of_ble_eq_true rfl, Nat.le_of_ble_eq_true rfl⟩) (preSL_of hK hP (hD sC sM o) (law_XF hXF hS (hD sC sM o)) hKJ hNC) rfl rfl hl.1 rfl (lv_room (Nat.le_of_ble_eq_true rfl)) dL_law_258 ⟨(show k + 0 + 1 ≤ 601024 by omega), (show n + 0 + 6 ≤ 7293034 by omega)⟩) hS (fun q h => law_A (hD sC sM o) hS.1 h) (fun q h => law_A (hD sC sM o) hS.1 h) (fun H locs hP hS => ?_)
  refine W.widen (k := k + 1) (n := n + 6) (by omega) (by omega) ?_
  refine lv_topi (fun x5 e5 => ?_)
  refine lv_istore (lv' := [(5, .int x5), (0, .ref b), (1, .ref (ad 30)), (2, .ref (adM 0)), (3, .ref qo), (4, .int (nI (5 * i)))]) hx hb dL_law_261 hl (by decide) rfl (fun ls hl => ?_)
  refine lv_aload_n hx hb dL_law_263 rfl (lv_at hl 3 rfl) ?_
  refine lv_aload_n hx hb dL_law_264 rfl (lv_at hl 1 rfl) ?_
  refine lv_iload hx hb dL_law_265 (lv_at hl 5 rfl) ?_
  refine lv_iconst (v := 1) hx hb dL_law_267 (by decide) ?_
  refine lv_iadd hx hb dL_law_268 ?_
  refine va_sld hx hb hX hbl hbA hS (law_in hi hL 1 (by decide) (nI_1 _)) dL_law_269 ?_
  refine lv_aload_n hx hb dL_law_270 rfl (lv_at hl 1 rfl) ?_
  refine lv_iload hx hb dL_law_271 (lv_at hl 5 rfl) ?_
  refine lv_iconst (v := 2) hx hb dL_law_273 (by decide) ?_
  refine lv_iadd hx hb dL_law_274 ?_
  refine va_sld hx hb hX hbl hbA hS (law_in hi hL 2 (by decide) (nI_add _ 2)) dL_law_275 ?_
  refine lv_aload_n hx hb dL_law_276 rfl (lv_at hl 1 rfl) ?_
  refine lv_iload hx hb dL_law_277 (lv_at hl 5 rfl) ?_
  refine lv_iconst (v := 3) hx hb dL_law_279 (by decide) ?_
  refine lv_iadd hx hb dL_law_280 ?_
  refine va_sld hx hb hX hbl hbA hS (law_in hi hL 3 (by decide) (nI_add _ 3)) dL_law_281 ?_
  refine lv_aload_n hx hb dL_law_282 rfl (lv_at hl 1 rfl) ?_
  refine lv_iload hx hb dL_law_283 (lv_at hl 5 rfl) ?_
  refine lv_iconst (v := 4) hx hb dL_law_285 (by decide) ?_
  refine lv_iadd hx hb dL_law_286 ?_
  refine va_sld hx hb hX hbl hbA hS (law_in hi hL 4 (by decide) (nI_add _ 4)) dL_law_287 ?_
  have hP := P_rot hP
  have hD9 := D_rot (hD sC2 sM (if k0 = 0 then vp_updL o 0 r0.toInt64 else o))
  refine cl_i (va_runV (As := [.int (xs (nI (5 * i) + 1).toNatClampNeg), .int (xs (nI (5 * i) + 2).toNatClampNeg), .int (xs (nI (5 * i) + 3).toNatClampNeg), .int (xs (nI (5 * i) + 4).toNatClampNeg)]) (rest := []) ⟨hx, hb, hml, hown, hts⟩ (c_X6_addTrip l g adM (WC g ad sC2 ++ [(qo, OutE cJ (if k0 = 0 then vp_updL o 0 r0.toInt64 else o))]) _ sM (xs (nI (5 * i) + 1).toNatClampNeg) (xs (nI (5 * i) + 2).toNatClampNeg) (xs (nI (5 * i) + 3).toNatClampNeg) (xs (nI (5 * i) + 4).toNatClampNeg) bb sM2 hq) (cwV 4 hts gl_L_96 rfl rfl rfl yd_X6_addTrip ⟨Nat.le_of_ble_eq_true rfl, Nat.le_of_ble_eq_true rfl⟩) (preV_of hK hP (dd_D hD9) (dd_at (by decide) cm_0) rfl) rfl rfl hl.1 rfl (lv_room (Nat.le_of_ble_eq_true rfl)) dL_law_288 ⟨(show k + 1 + 0 ≤ 601024 by omega), (show n + 6 + 0 ≤ 7293034 by omega)⟩) hS (fun q h => law_A hD9 hS.1 h) (fun q h => law_A hD9 hS.1 h) (fun H locs hP hS => ?_)
  have hP := P_rot2 hP
  refine W.widen (k := k + 1) (n := n + 6) (by omega) (by omega) ?_
  refine lv_istore (lv' := [(6, .int bb), (5, .int x5), (0, .ref b), (1, .ref (ad 30)), (2, .ref (adM 0)), (3, .ref qo), (4, .int (nI (5 * i)))]) hx hb dL_law_291 hl (by decide) rfl (fun ls hl => ?_)
  refine lv_aload_n hx hb dL_law_293 rfl (lv_at hl 4 rfl) ?_
  have hP := P_rot hP
  have hD9 := D_rot (hD sC2 sM2 (if k0 = 0 then vp_updL o 0 r0.toInt64 else o))
  refine cl_i (va_runV (As := []) (rest := []) ⟨hx, hb, hml, hown, hts⟩ (c_X6_thrown l g adM (WC g ad sC2 ++ [(qo, OutE cJ (if k0 = 0 then vp_updL o 0 r0.toInt64 else o))]) _ sM2 (sM2 0 0) rfl) (cwV 0 hts gl_L_90 rfl rfl rfl yd_X6_thrown ⟨Nat.le_of_ble_eq_true rfl, Nat.le_of_ble_eq_true rfl⟩) (preV_of hK hP hD9 (dd_at (by decide) cm_0) rfl) rfl rfl hl.1 rfl (lv_room (Nat.le_of_ble_eq_true rfl)) dL_law_294 ⟨(show k + 1 + 0 ≤ 601024 by omega), (show n + 6 + 0 ≤ 7293034 by omega)⟩) hS (fun q h => law_A hD9 hS.1 h) (fun q h => law_A hD9 hS.1 h) (fun H locs hP hS => ?_)
  have hP := P_rot2 hP
  refine W.widen (k := k + 1) (n := n + 6) (by omega) (by omega) ?_
  refine lv_iload hx hb dL_law_297 (lv_at hl 1 rfl) ?_
  refine lv_icmp_eq (tgt := 304) hx hb dL_law_299 (by decide) (fun _ => ?_) (fun c9 => absurd (hth.trans e5.symm) c9)
  refine lv_iload hx hb dL_law_304 (lv_at hl 1 rfl) ?_
  rcases hk0 with rfl | rfl | rfl | rfl
  · have e5 : x5 = 0 := e5
    refine lv_if_ne (tgt := 321) hx hb dL_law_306 (by decide) (fun c9 => absurd e5 c9) (fun _ => ?_)
    refine lv_aload_n hx hb dL_law_309 rfl (lv_at hl 5 rfl) ?_
    refine lv_iconst (v := 0) hx hb dL_law_310 (by decide) ?_
    refine va_lald hx hb hKJ hP 59 3 dd_first rfl (ix_in (i := 0) (n := 1) (by decide)) dL_law_311 ?_
    refine lv_iload hx hb dL_law_312 (lv_at hl 0 rfl) ?_
    refine lv_i2l hx hb dL_law_314 rfl ?_
    refine W.lcmp hx hb dL_law_315 ?_
    refine lv_if_eq (tgt := 321) hx hb dL_law_316 (by decide) (fun _ => ?_) (fun c9 => absurd (show lg_cmp r0.toInt64 bb.toInt64 = 0 by rw [hrb rfl]; exact law_self _) c9)
    refine lv_goto (tgt := 1594) hx hb dL_law_321 (by decide) ?_
    refine W.widen (k := k + 110) (n := n + 1000) (by omega) (by omega) ?_
    exact next sC2 sM2 _ _ _ _ hI2 hP hS (lv_sub hl [2, 3, 4, 5, 6] rfl)
  · have e5 : x5 = 1 := e5
    refine lv_if_ne (tgt := 321) hx hb dL_law_306 (by decide) (fun _ => ?_) (fun c9 => absurd (e5.symm.trans c9) (by decide))
    refine lv_goto (tgt := 1594) hx hb dL_law_321 (by decide) ?_
    refine W.widen (k := k + 110) (n := n + 1000) (by omega) (by omega) ?_
    exact next sC2 sM2 _ _ _ _ hI2 hP hS (lv_sub hl [2, 3, 4, 5, 6] rfl)
  · have e5 : x5 = 2 := e5
    refine lv_if_ne (tgt := 321) hx hb dL_law_306 (by decide) (fun _ => ?_) (fun c9 => absurd (e5.symm.trans c9) (by decide))
    refine lv_goto (tgt := 1594) hx hb dL_law_321 (by decide) ?_
    refine W.widen (k := k + 110) (n := n + 1000) (by omega) (by omega) ?_
    exact next sC2 sM2 _ _ _ _ hI2 hP hS (lv_sub hl [2, 3, 4, 5, 6] rfl)
  · have e5 : x5 = 3 := e5
    refine lv_if_ne (tgt := 321) hx hb dL_law_306 (by decide) (fun _ => ?_) (fun c9 => absurd (e5.symm.trans c9) (by decide))
    refine lv_goto (tgt := 1594) hx hb dL_law_321 (by decide) ?_
    refine W.widen (k := k + 110) (n := n + 1000) (by omega) (by omega) ?_
    exact next sC2 sM2 _ _ _ _ hI2 hP hS (lv_sub hl [2, 3, 4, 5, 6] rfl)
set_option maxHeartbeats 4000000 in
set_option maxRecDepth 100000 in
theorem law_trip {p : Program} {l : Launch} {e : Env} {s : State} {m : MethodId} {below : List Frame} {meth : Method} {c : Code} {b L : Nat} {xs : Nat → Int32} {Q : State → Prop} {g : dd_G} {cJ : ClassId} {ad adM : Nat → Nat} {qo : Nat} (hst : l.stackTraces = false) (hx : p.tables.exec = Jvm.exec) (hb : c.code = cL_law) (hml : c.maxLocals = 9) (hown : s.vm.findClass RL = some m.cls) (hts : ∀ w ∈ lw_all, w.before #[Value.ref b] s = true) (hX : va_X b L xs s s.heap) (hbl : b < s.heap.size) (hK : KC g s) (hKJ : KJ g cJ s) (hNC : NC s) (hXF : XF (lA s) s s.heap) (hD : ∀ (sC sM : dd_S) (o : Nat → Int64), va_D (lA s) (LW g ad cJ qo adM sC sM o)) {Inv : dd_S → dd_S → Prop} (h : PO_trip Inv) {sC sM : dd_S} {o : Nat → Int64} {H : Heap} {locs : List Loc} {ls : Array Slot} {k n i : Nat} (hI : Inv sC sM) (hi : 5 * i + 5 ≤ L) (hL : L ≤ 2560) (hk : k + 110 ≤ 601024) (hn : n + 1000 ≤ 7293034) (hP : va_P g.1 vwCl (LW g ad cJ qo adM sC sM o) H) (hS : va_S (lA s) s.heap H locs) (hl : lv_has ls 9 [(0, .ref b), (1, .ref (ad 30)), (2, .ref (adM 0)), (3, .ref qo), (4, .int (nI (5 * i)))]) (next : ∀ (sC2 sM2 : dd_S) (o2 : Nat → Int64) (H : Heap) (locs : List Loc) (ls : Array Slot), Inv sC2 sM2 → va_P g.1 vwCl (LW g ad cJ qo adM sC2 sM2 o2) H → va_S (lA s) s.heap H locs → lv_has ls 9 [(0, .ref b), (1, .ref (ad 30)), (2, .ref (adM 0)), (3, .ref qo), (4, .int (nI (5 * i)))] → W p l e room_1 s m #[Value.ref b] below meth c H locs (k + 110) (n + 1000) Q (F0 m 1594 ls [])) : W p l e room_1 s m #[Value.ref b] below meth c H locs k n Q (F0 m 324 ls []) := by
  obtain ⟨k0, r0, sC2, bb, sM2, hf, hk0, hq, hth, hrb, hI2⟩ := h sC sM (xs (nI (5 * i) + 1).toNatClampNeg) (xs (nI (5 * i) + 2).toNatClampNeg) hI
  have hbA : ¬ lA s b := Nat.not_le.mpr hbl
  refine lv_aload_n hx hb dL_law_324 rfl (lv_at hl 1 rfl) ?_
  refine lv_aload_n hx hb dL_law_325 rfl (lv_at hl 0 rfl) ?_
  refine lv_iload hx hb dL_law_326 (lv_at hl 4 rfl) ?_
  refine lv_iconst (v := 1) hx hb dL_law_328 (by decide) ?_
  refine lv_iadd hx hb dL_law_329 ?_
  refine va_sld hx hb hX hbl hbA hS (law_in hi hL 1 (by decide) (nI_1 _)) dL_law_330 ?_
  refine lv_aload_n hx hb dL_law_331 rfl (lv_at hl 0 rfl) ?_
  refine lv_iload hx hb dL_law_332 (lv_at hl 4 rfl) ?_
  refine lv_iconst (v := 2) hx hb dL_law_334 (by decide) ?_
  refine lv_iadd hx hb dL_law_335 ?_
  refine va_sld hx hb hX hbl hbA hS (law_in hi hL 2 (by decide) (nI_add _ 2)) dL_law_336 ?_
  refine lv_aload_n hx hb dL_law_337 rfl (lv_at hl 3 rfl) ?_
  refine cl_i (vx_runSW (As := [.ref (ad 30), .int (xs (nI (5 * i) + 1).toNatClampNeg), .int (xs (nI (5 * i) + 2).toNatClampNeg), .ref qo]) (rest := []) ⟨hx, hb, hml, hown, hts⟩ (c_L_trip l hst g cJ ad (WM g adM sM) qo o _ sC (xs (nI (5 * i) + 1).toNatClampNeg) (xs (nI (5 * i) + 2).toNatClampNeg) k0 r0 sC2 hf hk0) (vx_cwSW 4 hts glw_trip rfl rfl rfl ydl_trip ⟨Nat.le_of_ble_eq_true rfl, Nat.le_of_ble_eq_true rfl⟩) (preSL_of hK hP (hD sC sM o) (law_XF hXF hS (hD sC sM o)) hKJ hNC) rfl rfl hl.1 rfl (lv_room (Nat.le_of_ble_eq_true rfl)) dL_law_338 ⟨(show k + 0 + 1 ≤ 601024 by omega), (show n + 0 + 6 ≤ 7293034 by omega)⟩) hS (fun q h => law_A (hD sC sM o) hS.1 h) (fun q h => law_A (hD sC sM o) hS.1 h) (fun H locs hP hS => ?_)
  refine W.widen (k := k + 1) (n := n + 6) (by omega) (by omega) ?_
  refine lv_topi (fun x5 e5 => ?_)
  refine lv_istore (lv' := [(5, .int x5), (0, .ref b), (1, .ref (ad 30)), (2, .ref (adM 0)), (3, .ref qo), (4, .int (nI (5 * i)))]) hx hb dL_law_341 hl (by decide) rfl (fun ls hl => ?_)
  refine lv_aload_n hx hb dL_law_343 rfl (lv_at hl 3 rfl) ?_
  refine lv_aload_n hx hb dL_law_344 rfl (lv_at hl 1 rfl) ?_
  refine lv_iload hx hb dL_law_345 (lv_at hl 5 rfl) ?_
  refine lv_iconst (v := 1) hx hb dL_law_347 (by decide) ?_
  refine lv_iadd hx hb dL_law_348 ?_
  refine va_sld hx hb hX hbl hbA hS (law_in hi hL 1 (by decide) (nI_1 _)) dL_law_349 ?_
  refine lv_aload_n hx hb dL_law_350 rfl (lv_at hl 1 rfl) ?_
  refine lv_iload hx hb dL_law_351 (lv_at hl 5 rfl) ?_
  refine lv_iconst (v := 2) hx hb dL_law_353 (by decide) ?_
  refine lv_iadd hx hb dL_law_354 ?_
  refine va_sld hx hb hX hbl hbA hS (law_in hi hL 2 (by decide) (nI_add _ 2)) dL_law_355 ?_
  have hP := P_rot hP
  have hD9 := D_rot (hD sC2 sM (if k0 = 0 then vp_updL o 0 r0.toInt64 else o))
  refine cl_i (va_runV (As := [.int (xs (nI (5 * i) + 1).toNatClampNeg), .int (xs (nI (5 * i) + 2).toNatClampNeg)]) (rest := []) ⟨hx, hb, hml, hown, hts⟩ (c_X6_trip l g adM (WC g ad sC2 ++ [(qo, OutE cJ (if k0 = 0 then vp_updL o 0 r0.toInt64 else o))]) _ sM (xs (nI (5 * i) + 1).toNatClampNeg) (xs (nI (5 * i) + 2).toNatClampNeg) bb sM2 hq) (cwV 2 hts gl_L_100 rfl rfl rfl yd_X6_trip ⟨Nat.le_of_ble_eq_true rfl, Nat.le_of_ble_eq_true rfl⟩) (preV_of hK hP (dd_D hD9) (dd_at (by decide) cm_0) rfl) rfl rfl hl.1 rfl (lv_room (Nat.le_of_ble_eq_true rfl)) dL_law_356 ⟨(show k + 1 + 0 ≤ 601024 by omega), (show n + 6 + 0 ≤ 7293034 by omega)⟩) hS (fun q h => law_A hD9 hS.1 h) (fun q h => law_A hD9 hS.1 h) (fun H locs hP hS => ?_)
  have hP := P_rot2 hP
  refine W.widen (k := k + 1) (n := n + 6) (by omega) (by omega) ?_
  refine lv_istore (lv' := [(6, .int bb), (5, .int x5), (0, .ref b), (1, .ref (ad 30)), (2, .ref (adM 0)), (3, .ref qo), (4, .int (nI (5 * i)))]) hx hb dL_law_359 hl (by decide) rfl (fun ls hl => ?_)
  refine lv_aload_n hx hb dL_law_361 rfl (lv_at hl 4 rfl) ?_
  have hP := P_rot hP
  have hD9 := D_rot (hD sC2 sM2 (if k0 = 0 then vp_updL o 0 r0.toInt64 else o))
  refine cl_i (va_runV (As := []) (rest := []) ⟨hx, hb, hml, hown, hts⟩ (c_X6_thrown l g adM (WC g ad sC2 ++ [(qo, OutE cJ (if k0 = 0 then vp_updL o 0 r0.toInt64 else o))]) _ sM2 (sM2 0 0) rfl) (cwV 0 hts gl_L_90 rfl rfl rfl yd_X6_thrown ⟨Nat.le_of_ble_eq_true rfl, Nat.le_of_ble_eq_true rfl⟩) (preV_of hK hP hD9 (dd_at (by decide) cm_0) rfl) rfl rfl hl.1 rfl (lv_room (Nat.le_of_ble_eq_true rfl)) dL_law_362 ⟨(show k + 1 + 0 ≤ 601024 by omega), (show n + 6 + 0 ≤ 7293034 by omega)⟩) hS (fun q h => law_A hD9 hS.1 h) (fun q h => law_A hD9 hS.1 h) (fun H locs hP hS => ?_)
  have hP := P_rot2 hP
  refine W.widen (k := k + 1) (n := n + 6) (by omega) (by omega) ?_
  refine lv_iload hx hb dL_law_365 (lv_at hl 1 rfl) ?_
  refine lv_icmp_eq (tgt := 372) hx hb dL_law_367 (by decide) (fun _ => ?_) (fun c9 => absurd (hth.trans e5.symm) c9)
  refine lv_iload hx hb dL_law_372 (lv_at hl 1 rfl) ?_
  rcases hk0 with rfl | rfl
  · have e5 : x5 = 0 := e5
    refine lv_if_ne (tgt := 389) hx hb dL_law_374 (by decide) (fun c9 => absurd e5 c9) (fun _ => ?_)
    refine lv_aload_n hx hb dL_law_377 rfl (lv_at hl 5 rfl) ?_
    refine lv_iconst (v := 0) hx hb dL_law_378 (by decide) ?_
    refine va_lald hx hb hKJ hP 59 3 dd_first rfl (ix_in (i := 0) (n := 1) (by decide)) dL_law_379 ?_
    refine lv_iload hx hb dL_law_380 (lv_at hl 0 rfl) ?_
    refine lv_i2l hx hb dL_law_382 rfl ?_
    refine W.lcmp hx hb dL_law_383 ?_
    refine lv_if_eq (tgt := 389) hx hb dL_law_384 (by decide) (fun _ => ?_) (fun c9 => absurd (show lg_cmp r0.toInt64 bb.toInt64 = 0 by rw [hrb rfl]; exact law_self _) c9)
    refine lv_goto (tgt := 1594) hx hb dL_law_389 (by decide) ?_
    refine W.widen (k := k + 110) (n := n + 1000) (by omega) (by omega) ?_
    exact next sC2 sM2 _ _ _ _ hI2 hP hS (lv_sub hl [2, 3, 4, 5, 6] rfl)
  · have e5 : x5 = 1 := e5
    refine lv_if_ne (tgt := 389) hx hb dL_law_374 (by decide) (fun _ => ?_) (fun c9 => absurd (e5.symm.trans c9) (by decide))
    refine lv_goto (tgt := 1594) hx hb dL_law_389 (by decide) ?_
    refine W.widen (k := k + 110) (n := n + 1000) (by omega) (by omega) ?_
    exact next sC2 sM2 _ _ _ _ hI2 hP hS (lv_sub hl [2, 3, 4, 5, 6] rfl)
set_option maxHeartbeats 4000000 in
set_option maxRecDepth 100000 in
theorem law_setRules {p : Program} {l : Launch} {e : Env} {s : State} {m : MethodId} {below : List Frame} {meth : Method} {c : Code} {b L : Nat} {xs : Nat → Int32} {Q : State → Prop} {g : dd_G} {cJ : ClassId} {ad adM : Nat → Nat} {qo : Nat} (hst : l.stackTraces = false) (hx : p.tables.exec = Jvm.exec) (hb : c.code = cL_law) (hml : c.maxLocals = 9) (hown : s.vm.findClass RL = some m.cls) (hts : ∀ w ∈ lw_all, w.before #[Value.ref b] s = true) (hX : va_X b L xs s s.heap) (hbl : b < s.heap.size) (hK : KC g s) (hKJ : KJ g cJ s) (hNC : NC s) (hXF : XF (lA s) s s.heap) (hD : ∀ (sC sM : dd_S) (o : Nat → Int64), va_D (lA s) (LW g ad cJ qo adM sC sM o)) {Inv : dd_S → dd_S → Prop} (h : PO_setRules Inv) {sC sM : dd_S} {o : Nat → Int64} {H : Heap} {locs : List Loc} {ls : Array Slot} {k n i : Nat} (hI : Inv sC sM) (hi : 5 * i + 5 ≤ L) (hL : L ≤ 2560) (hk : k + 110 ≤ 601024) (hn : n + 1000 ≤ 7293034) (hP : va_P g.1 vwCl (LW g ad cJ qo adM sC sM o) H) (hS : va_S (lA s) s.heap H locs) (hl : lv_has ls 9 [(0, .ref b), (1, .ref (ad 30)), (2, .ref (adM 0)), (3, .ref qo), (4, .int (nI (5 * i)))]) (next : ∀ (sC2 sM2 : dd_S) (o2 : Nat → Int64) (H : Heap) (locs : List Loc) (ls : Array Slot), Inv sC2 sM2 → va_P g.1 vwCl (LW g ad cJ qo adM sC2 sM2 o2) H → va_S (lA s) s.heap H locs → lv_has ls 9 [(0, .ref b), (1, .ref (ad 30)), (2, .ref (adM 0)), (3, .ref qo), (4, .int (nI (5 * i)))] → W p l e room_1 s m #[Value.ref b] below meth c H locs (k + 110) (n + 1000) Q (F0 m 1594 ls [])) : W p l e room_1 s m #[Value.ref b] below meth c H locs k n Q (F0 m 392 ls []) := by
  obtain ⟨k0, r0, sC2, bb, sM2, hf, hk0, hq, hth, hrb, hI2⟩ := h sC sM (xs (nI (5 * i) + 1).toNatClampNeg) (xs (nI (5 * i) + 2).toNatClampNeg) (xs (nI (5 * i) + 3).toNatClampNeg) (xs (nI (5 * i) + 4).toNatClampNeg) hI
  have hbA : ¬ lA s b := Nat.not_le.mpr hbl
  refine lv_aload_n hx hb dL_law_392 rfl (lv_at hl 1 rfl) ?_
  refine lv_aload_n hx hb dL_law_393 rfl (lv_at hl 0 rfl) ?_
  refine lv_iload hx hb dL_law_394 (lv_at hl 4 rfl) ?_
  refine lv_iconst (v := 1) hx hb dL_law_396 (by decide) ?_
  refine lv_iadd hx hb dL_law_397 ?_
  refine va_sld hx hb hX hbl hbA hS (law_in hi hL 1 (by decide) (nI_1 _)) dL_law_398 ?_
  refine lv_aload_n hx hb dL_law_399 rfl (lv_at hl 0 rfl) ?_
  refine lv_iload hx hb dL_law_400 (lv_at hl 4 rfl) ?_
  refine lv_iconst (v := 2) hx hb dL_law_402 (by decide) ?_
  refine lv_iadd hx hb dL_law_403 ?_
  refine va_sld hx hb hX hbl hbA hS (law_in hi hL 2 (by decide) (nI_add _ 2)) dL_law_404 ?_
  refine lv_aload_n hx hb dL_law_405 rfl (lv_at hl 0 rfl) ?_
  refine lv_iload hx hb dL_law_406 (lv_at hl 4 rfl) ?_
  refine lv_iconst (v := 3) hx hb dL_law_408 (by decide) ?_
  refine lv_iadd hx hb dL_law_409 ?_
  refine va_sld hx hb hX hbl hbA hS (law_in hi hL 3 (by decide) (nI_add _ 3)) dL_law_410 ?_
  refine lv_aload_n hx hb dL_law_411 rfl (lv_at hl 0 rfl) ?_
  refine lv_iload hx hb dL_law_412 (lv_at hl 4 rfl) ?_
  refine lv_iconst (v := 4) hx hb dL_law_414 (by decide) ?_
  refine lv_iadd hx hb dL_law_415 ?_
  refine va_sld hx hb hX hbl hbA hS (law_in hi hL 4 (by decide) (nI_add _ 4)) dL_law_416 ?_
  refine lv_aload_n hx hb dL_law_417 rfl (lv_at hl 3 rfl) ?_
  refine cl_i (vx_runSW (As := [.ref (ad 30), .int (xs (nI (5 * i) + 1).toNatClampNeg), .int (xs (nI (5 * i) + 2).toNatClampNeg), .int (xs (nI (5 * i) + 3).toNatClampNeg), .int (xs (nI (5 * i) + 4).toNatClampNeg), .ref qo]) (rest := []) ⟨hx, hb, hml, hown, hts⟩ (c_L_setRules l hst g cJ ad (WM g adM sM) qo o _ sC (xs (nI (5 * i) + 1).toNatClampNeg) (xs (nI (5 * i) + 2).toNatClampNeg) (xs (nI (5 * i) + 3).toNatClampNeg) (xs (nI (5 * i) + 4).toNatClampNeg) k0 r0 sC2 hf hk0) (vx_cwSW 6 hts glw_setRules rfl rfl rfl ydl_setRules ⟨Nat.le_of_ble_eq_true rfl, Nat.le_of_ble_eq_true rfl⟩) (preSL_of hK hP (hD sC sM o) (law_XF hXF hS (hD sC sM o)) hKJ hNC) rfl rfl hl.1 rfl (lv_room (Nat.le_of_ble_eq_true rfl)) dL_law_418 ⟨(show k + 0 + 1 ≤ 601024 by omega), (show n + 0 + 6 ≤ 7293034 by omega)⟩) hS (fun q h => law_A (hD sC sM o) hS.1 h) (fun q h => law_A (hD sC sM o) hS.1 h) (fun H locs hP hS => ?_)
  refine W.widen (k := k + 1) (n := n + 6) (by omega) (by omega) ?_
  refine lv_topi (fun x5 e5 => ?_)
  refine lv_istore (lv' := [(5, .int x5), (0, .ref b), (1, .ref (ad 30)), (2, .ref (adM 0)), (3, .ref qo), (4, .int (nI (5 * i)))]) hx hb dL_law_421 hl (by decide) rfl (fun ls hl => ?_)
  refine lv_aload_n hx hb dL_law_423 rfl (lv_at hl 3 rfl) ?_
  refine lv_aload_n hx hb dL_law_424 rfl (lv_at hl 1 rfl) ?_
  refine lv_iload hx hb dL_law_425 (lv_at hl 5 rfl) ?_
  refine lv_iconst (v := 1) hx hb dL_law_427 (by decide) ?_
  refine lv_iadd hx hb dL_law_428 ?_
  refine va_sld hx hb hX hbl hbA hS (law_in hi hL 1 (by decide) (nI_1 _)) dL_law_429 ?_
  refine lv_aload_n hx hb dL_law_430 rfl (lv_at hl 1 rfl) ?_
  refine lv_iload hx hb dL_law_431 (lv_at hl 5 rfl) ?_
  refine lv_iconst (v := 2) hx hb dL_law_433 (by decide) ?_
  refine lv_iadd hx hb dL_law_434 ?_
  refine va_sld hx hb hX hbl hbA hS (law_in hi hL 2 (by decide) (nI_add _ 2)) dL_law_435 ?_
  refine lv_aload_n hx hb dL_law_436 rfl (lv_at hl 1 rfl) ?_
  refine lv_iload hx hb dL_law_437 (lv_at hl 5 rfl) ?_
  refine lv_iconst (v := 3) hx hb dL_law_439 (by decide) ?_
  refine lv_iadd hx hb dL_law_440 ?_
  refine va_sld hx hb hX hbl hbA hS (law_in hi hL 3 (by decide) (nI_add _ 3)) dL_law_441 ?_
  refine lv_aload_n hx hb dL_law_442 rfl (lv_at hl 1 rfl) ?_
  refine lv_iload hx hb dL_law_443 (lv_at hl 5 rfl) ?_
  refine lv_iconst (v := 4) hx hb dL_law_445 (by decide) ?_
  refine lv_iadd hx hb dL_law_446 ?_
  refine va_sld hx hb hX hbl hbA hS (law_in hi hL 4 (by decide) (nI_add _ 4)) dL_law_447 ?_
  have hP := P_rot hP
  have hD9 := D_rot (hD sC2 sM (if k0 = 0 then vp_updL o 0 r0.toInt64 else o))
  refine cl_i (va_runV (As := [.int (xs (nI (5 * i) + 1).toNatClampNeg), .int (xs (nI (5 * i) + 2).toNatClampNeg), .int (xs (nI (5 * i) + 3).toNatClampNeg), .int (xs (nI (5 * i) + 4).toNatClampNeg)]) (rest := []) ⟨hx, hb, hml, hown, hts⟩ (c_X6_setRules l g adM (WC g ad sC2 ++ [(qo, OutE cJ (if k0 = 0 then vp_updL o 0 r0.toInt64 else o))]) _ sM (xs (nI (5 * i) + 1).toNatClampNeg) (xs (nI (5 * i) + 2).toNatClampNeg) (xs (nI (5 * i) + 3).toNatClampNeg) (xs (nI (5 * i) + 4).toNatClampNeg) bb sM2 hq) (cwV 4 hts gl_L_103 rfl rfl rfl yd_X6_setRules ⟨Nat.le_of_ble_eq_true rfl, Nat.le_of_ble_eq_true rfl⟩) (preV_of hK hP (dd_D hD9) (dd_at (by decide) cm_0) rfl) rfl rfl hl.1 rfl (lv_room (Nat.le_of_ble_eq_true rfl)) dL_law_448 ⟨(show k + 1 + 0 ≤ 601024 by omega), (show n + 6 + 0 ≤ 7293034 by omega)⟩) hS (fun q h => law_A hD9 hS.1 h) (fun q h => law_A hD9 hS.1 h) (fun H locs hP hS => ?_)
  have hP := P_rot2 hP
  refine W.widen (k := k + 1) (n := n + 6) (by omega) (by omega) ?_
  refine lv_istore (lv' := [(6, .int bb), (5, .int x5), (0, .ref b), (1, .ref (ad 30)), (2, .ref (adM 0)), (3, .ref qo), (4, .int (nI (5 * i)))]) hx hb dL_law_451 hl (by decide) rfl (fun ls hl => ?_)
  refine lv_aload_n hx hb dL_law_453 rfl (lv_at hl 4 rfl) ?_
  have hP := P_rot hP
  have hD9 := D_rot (hD sC2 sM2 (if k0 = 0 then vp_updL o 0 r0.toInt64 else o))
  refine cl_i (va_runV (As := []) (rest := []) ⟨hx, hb, hml, hown, hts⟩ (c_X6_thrown l g adM (WC g ad sC2 ++ [(qo, OutE cJ (if k0 = 0 then vp_updL o 0 r0.toInt64 else o))]) _ sM2 (sM2 0 0) rfl) (cwV 0 hts gl_L_90 rfl rfl rfl yd_X6_thrown ⟨Nat.le_of_ble_eq_true rfl, Nat.le_of_ble_eq_true rfl⟩) (preV_of hK hP hD9 (dd_at (by decide) cm_0) rfl) rfl rfl hl.1 rfl (lv_room (Nat.le_of_ble_eq_true rfl)) dL_law_454 ⟨(show k + 1 + 0 ≤ 601024 by omega), (show n + 6 + 0 ≤ 7293034 by omega)⟩) hS (fun q h => law_A hD9 hS.1 h) (fun q h => law_A hD9 hS.1 h) (fun H locs hP hS => ?_)
  have hP := P_rot2 hP
  refine W.widen (k := k + 1) (n := n + 6) (by omega) (by omega) ?_
  refine lv_iload hx hb dL_law_457 (lv_at hl 1 rfl) ?_
  refine lv_icmp_eq (tgt := 464) hx hb dL_law_459 (by decide) (fun _ => ?_) (fun c9 => absurd (hth.trans e5.symm) c9)
  refine lv_iload hx hb dL_law_464 (lv_at hl 1 rfl) ?_
  rcases hk0 with rfl | rfl
  · have e5 : x5 = 0 := e5
    refine lv_if_ne (tgt := 481) hx hb dL_law_466 (by decide) (fun c9 => absurd e5 c9) (fun _ => ?_)
    refine lv_aload_n hx hb dL_law_469 rfl (lv_at hl 5 rfl) ?_
    refine lv_iconst (v := 0) hx hb dL_law_470 (by decide) ?_
    refine va_lald hx hb hKJ hP 59 3 dd_first rfl (ix_in (i := 0) (n := 1) (by decide)) dL_law_471 ?_
    refine lv_iload hx hb dL_law_472 (lv_at hl 0 rfl) ?_
    refine lv_i2l hx hb dL_law_474 rfl ?_
    refine W.lcmp hx hb dL_law_475 ?_
    refine lv_if_eq (tgt := 481) hx hb dL_law_476 (by decide) (fun _ => ?_) (fun c9 => absurd (show lg_cmp r0.toInt64 bb.toInt64 = 0 by rw [hrb rfl]; exact law_self _) c9)
    refine lv_goto (tgt := 1594) hx hb dL_law_481 (by decide) ?_
    refine W.widen (k := k + 110) (n := n + 1000) (by omega) (by omega) ?_
    exact next sC2 sM2 _ _ _ _ hI2 hP hS (lv_sub hl [2, 3, 4, 5, 6] rfl)
  · have e5 : x5 = 1 := e5
    refine lv_if_ne (tgt := 481) hx hb dL_law_466 (by decide) (fun _ => ?_) (fun c9 => absurd (e5.symm.trans c9) (by decide))
    refine lv_goto (tgt := 1594) hx hb dL_law_481 (by decide) ?_
    refine W.widen (k := k + 110) (n := n + 1000) (by omega) (by omega) ?_
    exact next sC2 sM2 _ _ _ _ hI2 hP hS (lv_sub hl [2, 3, 4, 5, 6] rfl)
set_option maxHeartbeats 4000000 in
set_option maxRecDepth 100000 in
theorem law_count {p : Program} {l : Launch} {e : Env} {s : State} {m : MethodId} {below : List Frame} {meth : Method} {c : Code} {b L : Nat} {xs : Nat → Int32} {Q : State → Prop} {g : dd_G} {cJ : ClassId} {ad adM : Nat → Nat} {qo : Nat} (hst : l.stackTraces = false) (hx : p.tables.exec = Jvm.exec) (hb : c.code = cL_law) (hml : c.maxLocals = 9) (hown : s.vm.findClass RL = some m.cls) (hts : ∀ w ∈ lw_all, w.before #[Value.ref b] s = true) (hX : va_X b L xs s s.heap) (hbl : b < s.heap.size) (hK : KC g s) (hKJ : KJ g cJ s) (hNC : NC s) (hXF : XF (lA s) s s.heap) (hD : ∀ (sC sM : dd_S) (o : Nat → Int64), va_D (lA s) (LW g ad cJ qo adM sC sM o)) {Inv : dd_S → dd_S → Prop} (h : PO_count Inv) {sC sM : dd_S} {o : Nat → Int64} {H : Heap} {locs : List Loc} {ls : Array Slot} {k n i : Nat} (hI : Inv sC sM) (hi : 5 * i + 5 ≤ L) (hL : L ≤ 2560) (hk : k + 110 ≤ 601024) (hn : n + 1000 ≤ 7293034) (hP : va_P g.1 vwCl (LW g ad cJ qo adM sC sM o) H) (hS : va_S (lA s) s.heap H locs) (hl : lv_has ls 9 [(0, .ref b), (1, .ref (ad 30)), (2, .ref (adM 0)), (3, .ref qo), (4, .int (nI (5 * i)))]) (next : ∀ (sC2 sM2 : dd_S) (o2 : Nat → Int64) (H : Heap) (locs : List Loc) (ls : Array Slot), Inv sC2 sM2 → va_P g.1 vwCl (LW g ad cJ qo adM sC2 sM2 o2) H → va_S (lA s) s.heap H locs → lv_has ls 9 [(0, .ref b), (1, .ref (ad 30)), (2, .ref (adM 0)), (3, .ref qo), (4, .int (nI (5 * i)))] → W p l e room_1 s m #[Value.ref b] below meth c H locs (k + 110) (n + 1000) Q (F0 m 1594 ls [])) : W p l e room_1 s m #[Value.ref b] below meth c H locs k n Q (F0 m 484 ls []) := by
  obtain ⟨k0, r0, sC2, bb, sM2, hf, hk0, hq, hth, hrb, hI2⟩ := h sC sM (xs (nI (5 * i) + 1).toNatClampNeg) hI
  have hbA : ¬ lA s b := Nat.not_le.mpr hbl
  refine lv_aload_n hx hb dL_law_484 rfl (lv_at hl 1 rfl) ?_
  refine lv_aload_n hx hb dL_law_485 rfl (lv_at hl 0 rfl) ?_
  refine lv_iload hx hb dL_law_486 (lv_at hl 4 rfl) ?_
  refine lv_iconst (v := 1) hx hb dL_law_488 (by decide) ?_
  refine lv_iadd hx hb dL_law_489 ?_
  refine va_sld hx hb hX hbl hbA hS (law_in hi hL 1 (by decide) (nI_1 _)) dL_law_490 ?_
  refine lv_aload_n hx hb dL_law_491 rfl (lv_at hl 3 rfl) ?_
  refine cl_i (vx_runSW (As := [.ref (ad 30), .int (xs (nI (5 * i) + 1).toNatClampNeg), .ref qo]) (rest := []) ⟨hx, hb, hml, hown, hts⟩ (c_L_count l hst g cJ ad (WM g adM sM) qo o _ sC (xs (nI (5 * i) + 1).toNatClampNeg) k0 r0 sC2 hf hk0) (vx_cwSW 3 hts glw_count rfl rfl rfl ydl_count ⟨Nat.le_of_ble_eq_true rfl, Nat.le_of_ble_eq_true rfl⟩) (preSL_of hK hP (hD sC sM o) (law_XF hXF hS (hD sC sM o)) hKJ hNC) rfl rfl hl.1 rfl (lv_room (Nat.le_of_ble_eq_true rfl)) dL_law_492 ⟨(show k + 0 + 1 ≤ 601024 by omega), (show n + 0 + 6 ≤ 7293034 by omega)⟩) hS (fun q h => law_A (hD sC sM o) hS.1 h) (fun q h => law_A (hD sC sM o) hS.1 h) (fun H locs hP hS => ?_)
  refine W.widen (k := k + 1) (n := n + 6) (by omega) (by omega) ?_
  refine lv_topi (fun x5 e5 => ?_)
  refine lv_istore (lv' := [(5, .int x5), (0, .ref b), (1, .ref (ad 30)), (2, .ref (adM 0)), (3, .ref qo), (4, .int (nI (5 * i)))]) hx hb dL_law_495 hl (by decide) rfl (fun ls hl => ?_)
  refine lv_aload_n hx hb dL_law_497 rfl (lv_at hl 3 rfl) ?_
  refine lv_aload_n hx hb dL_law_498 rfl (lv_at hl 1 rfl) ?_
  refine lv_iload hx hb dL_law_499 (lv_at hl 5 rfl) ?_
  refine lv_iconst (v := 1) hx hb dL_law_501 (by decide) ?_
  refine lv_iadd hx hb dL_law_502 ?_
  refine va_sld hx hb hX hbl hbA hS (law_in hi hL 1 (by decide) (nI_1 _)) dL_law_503 ?_
  have hP := P_rot hP
  have hD9 := D_rot (hD sC2 sM (if k0 = 0 then vp_updL o 0 r0.toInt64 else o))
  refine cl_i (va_runV (As := [.int (xs (nI (5 * i) + 1).toNatClampNeg)]) (rest := []) ⟨hx, hb, hml, hown, hts⟩ (c_X6_count l g adM (WC g ad sC2 ++ [(qo, OutE cJ (if k0 = 0 then vp_updL o 0 r0.toInt64 else o))]) _ sM (xs (nI (5 * i) + 1).toNatClampNeg) bb sM2 hq) (cwV 1 hts gl_L_107 rfl rfl rfl yd_X6_count ⟨Nat.le_of_ble_eq_true rfl, Nat.le_of_ble_eq_true rfl⟩) (preV_of hK hP (dd_D hD9) (dd_at (by decide) cm_0) rfl) rfl rfl hl.1 rfl (lv_room (Nat.le_of_ble_eq_true rfl)) dL_law_504 ⟨(show k + 1 + 0 ≤ 601024 by omega), (show n + 6 + 0 ≤ 7293034 by omega)⟩) hS (fun q h => law_A hD9 hS.1 h) (fun q h => law_A hD9 hS.1 h) (fun H locs hP hS => ?_)
  have hP := P_rot2 hP
  refine W.widen (k := k + 1) (n := n + 6) (by omega) (by omega) ?_
  refine lv_istore (lv' := [(6, .int bb), (5, .int x5), (0, .ref b), (1, .ref (ad 30)), (2, .ref (adM 0)), (3, .ref qo), (4, .int (nI (5 * i)))]) hx hb dL_law_507 hl (by decide) rfl (fun ls hl => ?_)
  refine lv_aload_n hx hb dL_law_509 rfl (lv_at hl 4 rfl) ?_
  have hP := P_rot hP
  have hD9 := D_rot (hD sC2 sM2 (if k0 = 0 then vp_updL o 0 r0.toInt64 else o))
  refine cl_i (va_runV (As := []) (rest := []) ⟨hx, hb, hml, hown, hts⟩ (c_X6_thrown l g adM (WC g ad sC2 ++ [(qo, OutE cJ (if k0 = 0 then vp_updL o 0 r0.toInt64 else o))]) _ sM2 (sM2 0 0) rfl) (cwV 0 hts gl_L_90 rfl rfl rfl yd_X6_thrown ⟨Nat.le_of_ble_eq_true rfl, Nat.le_of_ble_eq_true rfl⟩) (preV_of hK hP hD9 (dd_at (by decide) cm_0) rfl) rfl rfl hl.1 rfl (lv_room (Nat.le_of_ble_eq_true rfl)) dL_law_510 ⟨(show k + 1 + 0 ≤ 601024 by omega), (show n + 6 + 0 ≤ 7293034 by omega)⟩) hS (fun q h => law_A hD9 hS.1 h) (fun q h => law_A hD9 hS.1 h) (fun H locs hP hS => ?_)
  have hP := P_rot2 hP
  refine W.widen (k := k + 1) (n := n + 6) (by omega) (by omega) ?_
  refine lv_iload hx hb dL_law_513 (lv_at hl 1 rfl) ?_
  refine lv_icmp_eq (tgt := 520) hx hb dL_law_515 (by decide) (fun _ => ?_) (fun c9 => absurd (hth.trans e5.symm) c9)
  refine lv_iload hx hb dL_law_520 (lv_at hl 1 rfl) ?_
  rcases hk0 with rfl | rfl
  · have e5 : x5 = 0 := e5
    refine lv_if_ne (tgt := 537) hx hb dL_law_522 (by decide) (fun c9 => absurd e5 c9) (fun _ => ?_)
    refine lv_aload_n hx hb dL_law_525 rfl (lv_at hl 5 rfl) ?_
    refine lv_iconst (v := 0) hx hb dL_law_526 (by decide) ?_
    refine va_lald hx hb hKJ hP 59 3 dd_first rfl (ix_in (i := 0) (n := 1) (by decide)) dL_law_527 ?_
    refine lv_iload hx hb dL_law_528 (lv_at hl 0 rfl) ?_
    refine lv_i2l hx hb dL_law_530 rfl ?_
    refine W.lcmp hx hb dL_law_531 ?_
    refine lv_if_eq (tgt := 537) hx hb dL_law_532 (by decide) (fun _ => ?_) (fun c9 => absurd (show lg_cmp r0.toInt64 bb.toInt64 = 0 by rw [hrb rfl]; exact law_self _) c9)
    refine lv_goto (tgt := 1594) hx hb dL_law_537 (by decide) ?_
    refine W.widen (k := k + 110) (n := n + 1000) (by omega) (by omega) ?_
    exact next sC2 sM2 _ _ _ _ hI2 hP hS (lv_sub hl [2, 3, 4, 5, 6] rfl)
  · have e5 : x5 = 1 := e5
    refine lv_if_ne (tgt := 537) hx hb dL_law_522 (by decide) (fun _ => ?_) (fun c9 => absurd (e5.symm.trans c9) (by decide))
    refine lv_goto (tgt := 1594) hx hb dL_law_537 (by decide) ?_
    refine W.widen (k := k + 110) (n := n + 1000) (by omega) (by omega) ?_
    exact next sC2 sM2 _ _ _ _ hI2 hP hS (lv_sub hl [2, 3, 4, 5, 6] rfl)
set_option maxHeartbeats 4000000 in
set_option maxRecDepth 100000 in
theorem law_addDuty {p : Program} {l : Launch} {e : Env} {s : State} {m : MethodId} {below : List Frame} {meth : Method} {c : Code} {b L : Nat} {xs : Nat → Int32} {Q : State → Prop} {g : dd_G} {cJ : ClassId} {ad adM : Nat → Nat} {qo : Nat} (hst : l.stackTraces = false) (hx : p.tables.exec = Jvm.exec) (hb : c.code = cL_law) (hml : c.maxLocals = 9) (hown : s.vm.findClass RL = some m.cls) (hts : ∀ w ∈ lw_all, w.before #[Value.ref b] s = true) (hX : va_X b L xs s s.heap) (hbl : b < s.heap.size) (hK : KC g s) (hKJ : KJ g cJ s) (hNC : NC s) (hXF : XF (lA s) s s.heap) (hD : ∀ (sC sM : dd_S) (o : Nat → Int64), va_D (lA s) (LW g ad cJ qo adM sC sM o)) {Inv : dd_S → dd_S → Prop} (h : PO_addDuty Inv) {sC sM : dd_S} {o : Nat → Int64} {H : Heap} {locs : List Loc} {ls : Array Slot} {k n i : Nat} (hI : Inv sC sM) (hi : 5 * i + 5 ≤ L) (hL : L ≤ 2560) (hk : k + 110 ≤ 601024) (hn : n + 1000 ≤ 7293034) (hP : va_P g.1 vwCl (LW g ad cJ qo adM sC sM o) H) (hS : va_S (lA s) s.heap H locs) (hl : lv_has ls 9 [(0, .ref b), (1, .ref (ad 30)), (2, .ref (adM 0)), (3, .ref qo), (4, .int (nI (5 * i)))]) (next : ∀ (sC2 sM2 : dd_S) (o2 : Nat → Int64) (H : Heap) (locs : List Loc) (ls : Array Slot), Inv sC2 sM2 → va_P g.1 vwCl (LW g ad cJ qo adM sC2 sM2 o2) H → va_S (lA s) s.heap H locs → lv_has ls 9 [(0, .ref b), (1, .ref (ad 30)), (2, .ref (adM 0)), (3, .ref qo), (4, .int (nI (5 * i)))] → W p l e room_1 s m #[Value.ref b] below meth c H locs (k + 110) (n + 1000) Q (F0 m 1594 ls [])) : W p l e room_1 s m #[Value.ref b] below meth c H locs k n Q (F0 m 540 ls []) := by
  obtain ⟨k0, r0, sC2, bb, sM2, hf, hk0, hq, hth, hrb, hI2⟩ := h sC sM hI
  have hbA : ¬ lA s b := Nat.not_le.mpr hbl
  refine lv_aload_n hx hb dL_law_540 rfl (lv_at hl 1 rfl) ?_
  refine lv_aload_n hx hb dL_law_541 rfl (lv_at hl 3 rfl) ?_
  refine cl_i (vx_runSW (As := [.ref (ad 30), .ref qo]) (rest := []) ⟨hx, hb, hml, hown, hts⟩ (c_L_addDuty l hst g cJ ad (WM g adM sM) qo o _ sC k0 r0 sC2 hf hk0) (vx_cwSW 2 hts glw_addDuty rfl rfl rfl ydl_addDuty ⟨Nat.le_of_ble_eq_true rfl, Nat.le_of_ble_eq_true rfl⟩) (preSL_of hK hP (hD sC sM o) (law_XF hXF hS (hD sC sM o)) hKJ hNC) rfl rfl hl.1 rfl (lv_room (Nat.le_of_ble_eq_true rfl)) dL_law_542 ⟨(show k + 0 + 1 ≤ 601024 by omega), (show n + 0 + 6 ≤ 7293034 by omega)⟩) hS (fun q h => law_A (hD sC sM o) hS.1 h) (fun q h => law_A (hD sC sM o) hS.1 h) (fun H locs hP hS => ?_)
  refine W.widen (k := k + 1) (n := n + 6) (by omega) (by omega) ?_
  refine lv_topi (fun x5 e5 => ?_)
  refine lv_istore (lv' := [(5, .int x5), (0, .ref b), (1, .ref (ad 30)), (2, .ref (adM 0)), (3, .ref qo), (4, .int (nI (5 * i)))]) hx hb dL_law_545 hl (by decide) rfl (fun ls hl => ?_)
  refine lv_aload_n hx hb dL_law_547 rfl (lv_at hl 3 rfl) ?_
  have hP := P_rot hP
  have hD9 := D_rot (hD sC2 sM (if k0 = 0 then vp_updL o 0 r0.toInt64 else o))
  refine cl_i (va_runV (As := []) (rest := []) ⟨hx, hb, hml, hown, hts⟩ (c_X6_addDuty l g adM (WC g ad sC2 ++ [(qo, OutE cJ (if k0 = 0 then vp_updL o 0 r0.toInt64 else o))]) _ sM bb sM2 hq) (cwV 0 hts gl_L_111 rfl rfl rfl yd_X6_addDuty ⟨Nat.le_of_ble_eq_true rfl, Nat.le_of_ble_eq_true rfl⟩) (preV_of hK hP (dd_D hD9) (dd_at (by decide) cm_0) rfl) rfl rfl hl.1 rfl (lv_room (Nat.le_of_ble_eq_true rfl)) dL_law_548 ⟨(show k + 1 + 0 ≤ 601024 by omega), (show n + 6 + 0 ≤ 7293034 by omega)⟩) hS (fun q h => law_A hD9 hS.1 h) (fun q h => law_A hD9 hS.1 h) (fun H locs hP hS => ?_)
  have hP := P_rot2 hP
  refine W.widen (k := k + 1) (n := n + 6) (by omega) (by omega) ?_
  refine lv_istore (lv' := [(6, .int bb), (5, .int x5), (0, .ref b), (1, .ref (ad 30)), (2, .ref (adM 0)), (3, .ref qo), (4, .int (nI (5 * i)))]) hx hb dL_law_551 hl (by decide) rfl (fun ls hl => ?_)
  refine lv_aload_n hx hb dL_law_553 rfl (lv_at hl 4 rfl) ?_
  have hP := P_rot hP
  have hD9 := D_rot (hD sC2 sM2 (if k0 = 0 then vp_updL o 0 r0.toInt64 else o))
  refine cl_i (va_runV (As := []) (rest := []) ⟨hx, hb, hml, hown, hts⟩ (c_X6_thrown l g adM (WC g ad sC2 ++ [(qo, OutE cJ (if k0 = 0 then vp_updL o 0 r0.toInt64 else o))]) _ sM2 (sM2 0 0) rfl) (cwV 0 hts gl_L_90 rfl rfl rfl yd_X6_thrown ⟨Nat.le_of_ble_eq_true rfl, Nat.le_of_ble_eq_true rfl⟩) (preV_of hK hP hD9 (dd_at (by decide) cm_0) rfl) rfl rfl hl.1 rfl (lv_room (Nat.le_of_ble_eq_true rfl)) dL_law_554 ⟨(show k + 1 + 0 ≤ 601024 by omega), (show n + 6 + 0 ≤ 7293034 by omega)⟩) hS (fun q h => law_A hD9 hS.1 h) (fun q h => law_A hD9 hS.1 h) (fun H locs hP hS => ?_)
  have hP := P_rot2 hP
  refine W.widen (k := k + 1) (n := n + 6) (by omega) (by omega) ?_
  refine lv_iload hx hb dL_law_557 (lv_at hl 1 rfl) ?_
  refine lv_icmp_eq (tgt := 564) hx hb dL_law_559 (by decide) (fun _ => ?_) (fun c9 => absurd (hth.trans e5.symm) c9)
  refine lv_iload hx hb dL_law_564 (lv_at hl 1 rfl) ?_
  rcases hk0 with rfl | rfl
  · have e5 : x5 = 0 := e5
    refine lv_if_ne (tgt := 581) hx hb dL_law_566 (by decide) (fun c9 => absurd e5 c9) (fun _ => ?_)
    refine lv_aload_n hx hb dL_law_569 rfl (lv_at hl 5 rfl) ?_
    refine lv_iconst (v := 0) hx hb dL_law_570 (by decide) ?_
    refine va_lald hx hb hKJ hP 59 3 dd_first rfl (ix_in (i := 0) (n := 1) (by decide)) dL_law_571 ?_
    refine lv_iload hx hb dL_law_572 (lv_at hl 0 rfl) ?_
    refine lv_i2l hx hb dL_law_574 rfl ?_
    refine W.lcmp hx hb dL_law_575 ?_
    refine lv_if_eq (tgt := 581) hx hb dL_law_576 (by decide) (fun _ => ?_) (fun c9 => absurd (show lg_cmp r0.toInt64 bb.toInt64 = 0 by rw [hrb rfl]; exact law_self _) c9)
    refine lv_goto (tgt := 1594) hx hb dL_law_581 (by decide) ?_
    refine W.widen (k := k + 110) (n := n + 1000) (by omega) (by omega) ?_
    exact next sC2 sM2 _ _ _ _ hI2 hP hS (lv_sub hl [2, 3, 4, 5, 6] rfl)
  · have e5 : x5 = 1 := e5
    refine lv_if_ne (tgt := 581) hx hb dL_law_566 (by decide) (fun _ => ?_) (fun c9 => absurd (e5.symm.trans c9) (by decide))
    refine lv_goto (tgt := 1594) hx hb dL_law_581 (by decide) ?_
    refine W.widen (k := k + 110) (n := n + 1000) (by omega) (by omega) ?_
    exact next sC2 sM2 _ _ _ _ hI2 hP hS (lv_sub hl [2, 3, 4, 5, 6] rfl)
set_option maxHeartbeats 4000000 in
set_option maxRecDepth 100000 in
theorem law_put {p : Program} {l : Launch} {e : Env} {s : State} {m : MethodId} {below : List Frame} {meth : Method} {c : Code} {b L : Nat} {xs : Nat → Int32} {Q : State → Prop} {g : dd_G} {cJ : ClassId} {ad adM : Nat → Nat} {qo : Nat} (hst : l.stackTraces = false) (hx : p.tables.exec = Jvm.exec) (hb : c.code = cL_law) (hml : c.maxLocals = 9) (hown : s.vm.findClass RL = some m.cls) (hts : ∀ w ∈ lw_all, w.before #[Value.ref b] s = true) (hX : va_X b L xs s s.heap) (hbl : b < s.heap.size) (hK : KC g s) (hKJ : KJ g cJ s) (hNC : NC s) (hXF : XF (lA s) s s.heap) (hD : ∀ (sC sM : dd_S) (o : Nat → Int64), va_D (lA s) (LW g ad cJ qo adM sC sM o)) {Inv : dd_S → dd_S → Prop} (h : PO_put Inv) {sC sM : dd_S} {o : Nat → Int64} {H : Heap} {locs : List Loc} {ls : Array Slot} {k n i : Nat} (hI : Inv sC sM) (hi : 5 * i + 5 ≤ L) (hL : L ≤ 2560) (hk : k + 110 ≤ 601024) (hn : n + 1000 ≤ 7293034) (hP : va_P g.1 vwCl (LW g ad cJ qo adM sC sM o) H) (hS : va_S (lA s) s.heap H locs) (hl : lv_has ls 9 [(0, .ref b), (1, .ref (ad 30)), (2, .ref (adM 0)), (3, .ref qo), (4, .int (nI (5 * i)))]) (next : ∀ (sC2 sM2 : dd_S) (o2 : Nat → Int64) (H : Heap) (locs : List Loc) (ls : Array Slot), Inv sC2 sM2 → va_P g.1 vwCl (LW g ad cJ qo adM sC2 sM2 o2) H → va_S (lA s) s.heap H locs → lv_has ls 9 [(0, .ref b), (1, .ref (ad 30)), (2, .ref (adM 0)), (3, .ref qo), (4, .int (nI (5 * i)))] → W p l e room_1 s m #[Value.ref b] below meth c H locs (k + 110) (n + 1000) Q (F0 m 1594 ls [])) : W p l e room_1 s m #[Value.ref b] below meth c H locs k n Q (F0 m 584 ls []) := by
  obtain ⟨k0, r0, sC2, bb, sM2, hf, hk0, hq, hth, hrb, hI2⟩ := h sC sM (xs (nI (5 * i) + 1).toNatClampNeg) (xs (nI (5 * i) + 2).toNatClampNeg) hI
  have hbA : ¬ lA s b := Nat.not_le.mpr hbl
  refine lv_aload_n hx hb dL_law_584 rfl (lv_at hl 1 rfl) ?_
  refine lv_aload_n hx hb dL_law_585 rfl (lv_at hl 0 rfl) ?_
  refine lv_iload hx hb dL_law_586 (lv_at hl 4 rfl) ?_
  refine lv_iconst (v := 1) hx hb dL_law_588 (by decide) ?_
  refine lv_iadd hx hb dL_law_589 ?_
  refine va_sld hx hb hX hbl hbA hS (law_in hi hL 1 (by decide) (nI_1 _)) dL_law_590 ?_
  refine lv_aload_n hx hb dL_law_591 rfl (lv_at hl 0 rfl) ?_
  refine lv_iload hx hb dL_law_592 (lv_at hl 4 rfl) ?_
  refine lv_iconst (v := 2) hx hb dL_law_594 (by decide) ?_
  refine lv_iadd hx hb dL_law_595 ?_
  refine va_sld hx hb hX hbl hbA hS (law_in hi hL 2 (by decide) (nI_add _ 2)) dL_law_596 ?_
  refine lv_aload_n hx hb dL_law_597 rfl (lv_at hl 3 rfl) ?_
  refine cl_i (vx_runSW (As := [.ref (ad 30), .int (xs (nI (5 * i) + 1).toNatClampNeg), .int (xs (nI (5 * i) + 2).toNatClampNeg), .ref qo]) (rest := []) ⟨hx, hb, hml, hown, hts⟩ (c_L_put l hst g cJ ad (WM g adM sM) qo o _ sC (xs (nI (5 * i) + 1).toNatClampNeg) (xs (nI (5 * i) + 2).toNatClampNeg) k0 r0 sC2 hf hk0) (vx_cwSW 4 hts glw_put rfl rfl rfl ydl_put ⟨Nat.le_of_ble_eq_true rfl, Nat.le_of_ble_eq_true rfl⟩) (preSL_of hK hP (hD sC sM o) (law_XF hXF hS (hD sC sM o)) hKJ hNC) rfl rfl hl.1 rfl (lv_room (Nat.le_of_ble_eq_true rfl)) dL_law_598 ⟨(show k + 0 + 1 ≤ 601024 by omega), (show n + 0 + 6 ≤ 7293034 by omega)⟩) hS (fun q h => law_A (hD sC sM o) hS.1 h) (fun q h => law_A (hD sC sM o) hS.1 h) (fun H locs hP hS => ?_)
  refine W.widen (k := k + 1) (n := n + 6) (by omega) (by omega) ?_
  refine lv_topi (fun x5 e5 => ?_)
  refine lv_istore (lv' := [(5, .int x5), (0, .ref b), (1, .ref (ad 30)), (2, .ref (adM 0)), (3, .ref qo), (4, .int (nI (5 * i)))]) hx hb dL_law_601 hl (by decide) rfl (fun ls hl => ?_)
  refine lv_aload_n hx hb dL_law_603 rfl (lv_at hl 3 rfl) ?_
  refine lv_aload_n hx hb dL_law_604 rfl (lv_at hl 1 rfl) ?_
  refine lv_iload hx hb dL_law_605 (lv_at hl 5 rfl) ?_
  refine lv_iconst (v := 1) hx hb dL_law_607 (by decide) ?_
  refine lv_iadd hx hb dL_law_608 ?_
  refine va_sld hx hb hX hbl hbA hS (law_in hi hL 1 (by decide) (nI_1 _)) dL_law_609 ?_
  refine lv_aload_n hx hb dL_law_610 rfl (lv_at hl 1 rfl) ?_
  refine lv_iload hx hb dL_law_611 (lv_at hl 5 rfl) ?_
  refine lv_iconst (v := 2) hx hb dL_law_613 (by decide) ?_
  refine lv_iadd hx hb dL_law_614 ?_
  refine va_sld hx hb hX hbl hbA hS (law_in hi hL 2 (by decide) (nI_add _ 2)) dL_law_615 ?_
  have hP := P_rot hP
  have hD9 := D_rot (hD sC2 sM (if k0 = 0 then vp_updL o 0 r0.toInt64 else o))
  refine cl_i (va_runV (As := [.int (xs (nI (5 * i) + 1).toNatClampNeg), .int (xs (nI (5 * i) + 2).toNatClampNeg)]) (rest := []) ⟨hx, hb, hml, hown, hts⟩ (c_X6_put l g adM (WC g ad sC2 ++ [(qo, OutE cJ (if k0 = 0 then vp_updL o 0 r0.toInt64 else o))]) _ sM (xs (nI (5 * i) + 1).toNatClampNeg) (xs (nI (5 * i) + 2).toNatClampNeg) bb sM2 hq) (cwV 2 hts gl_L_114 rfl rfl rfl yd_X6_put ⟨Nat.le_of_ble_eq_true rfl, Nat.le_of_ble_eq_true rfl⟩) (preV_of hK hP (dd_D hD9) (dd_at (by decide) cm_0) rfl) rfl rfl hl.1 rfl (lv_room (Nat.le_of_ble_eq_true rfl)) dL_law_616 ⟨(show k + 1 + 0 ≤ 601024 by omega), (show n + 6 + 0 ≤ 7293034 by omega)⟩) hS (fun q h => law_A hD9 hS.1 h) (fun q h => law_A hD9 hS.1 h) (fun H locs hP hS => ?_)
  have hP := P_rot2 hP
  refine W.widen (k := k + 1) (n := n + 6) (by omega) (by omega) ?_
  refine lv_istore (lv' := [(6, .int bb), (5, .int x5), (0, .ref b), (1, .ref (ad 30)), (2, .ref (adM 0)), (3, .ref qo), (4, .int (nI (5 * i)))]) hx hb dL_law_619 hl (by decide) rfl (fun ls hl => ?_)
  refine lv_aload_n hx hb dL_law_621 rfl (lv_at hl 4 rfl) ?_
  have hP := P_rot hP
  have hD9 := D_rot (hD sC2 sM2 (if k0 = 0 then vp_updL o 0 r0.toInt64 else o))
  refine cl_i (va_runV (As := []) (rest := []) ⟨hx, hb, hml, hown, hts⟩ (c_X6_thrown l g adM (WC g ad sC2 ++ [(qo, OutE cJ (if k0 = 0 then vp_updL o 0 r0.toInt64 else o))]) _ sM2 (sM2 0 0) rfl) (cwV 0 hts gl_L_90 rfl rfl rfl yd_X6_thrown ⟨Nat.le_of_ble_eq_true rfl, Nat.le_of_ble_eq_true rfl⟩) (preV_of hK hP hD9 (dd_at (by decide) cm_0) rfl) rfl rfl hl.1 rfl (lv_room (Nat.le_of_ble_eq_true rfl)) dL_law_622 ⟨(show k + 1 + 0 ≤ 601024 by omega), (show n + 6 + 0 ≤ 7293034 by omega)⟩) hS (fun q h => law_A hD9 hS.1 h) (fun q h => law_A hD9 hS.1 h) (fun H locs hP hS => ?_)
  have hP := P_rot2 hP
  refine W.widen (k := k + 1) (n := n + 6) (by omega) (by omega) ?_
  refine lv_iload hx hb dL_law_625 (lv_at hl 1 rfl) ?_
  refine lv_icmp_eq (tgt := 632) hx hb dL_law_627 (by decide) (fun _ => ?_) (fun c9 => absurd (hth.trans e5.symm) c9)
  refine lv_iload hx hb dL_law_632 (lv_at hl 1 rfl) ?_
  rcases hk0 with rfl | rfl | rfl
  · have e5 : x5 = 0 := e5
    refine lv_if_ne (tgt := 649) hx hb dL_law_634 (by decide) (fun c9 => absurd e5 c9) (fun _ => ?_)
    refine lv_aload_n hx hb dL_law_637 rfl (lv_at hl 5 rfl) ?_
    refine lv_iconst (v := 0) hx hb dL_law_638 (by decide) ?_
    refine va_lald hx hb hKJ hP 59 3 dd_first rfl (ix_in (i := 0) (n := 1) (by decide)) dL_law_639 ?_
    refine lv_iload hx hb dL_law_640 (lv_at hl 0 rfl) ?_
    refine lv_i2l hx hb dL_law_642 rfl ?_
    refine W.lcmp hx hb dL_law_643 ?_
    refine lv_if_eq (tgt := 649) hx hb dL_law_644 (by decide) (fun _ => ?_) (fun c9 => absurd (show lg_cmp r0.toInt64 bb.toInt64 = 0 by rw [hrb rfl]; exact law_self _) c9)
    refine lv_goto (tgt := 1594) hx hb dL_law_649 (by decide) ?_
    refine W.widen (k := k + 110) (n := n + 1000) (by omega) (by omega) ?_
    exact next sC2 sM2 _ _ _ _ hI2 hP hS (lv_sub hl [2, 3, 4, 5, 6] rfl)
  · have e5 : x5 = 1 := e5
    refine lv_if_ne (tgt := 649) hx hb dL_law_634 (by decide) (fun _ => ?_) (fun c9 => absurd (e5.symm.trans c9) (by decide))
    refine lv_goto (tgt := 1594) hx hb dL_law_649 (by decide) ?_
    refine W.widen (k := k + 110) (n := n + 1000) (by omega) (by omega) ?_
    exact next sC2 sM2 _ _ _ _ hI2 hP hS (lv_sub hl [2, 3, 4, 5, 6] rfl)
  · have e5 : x5 = 2 := e5
    refine lv_if_ne (tgt := 649) hx hb dL_law_634 (by decide) (fun _ => ?_) (fun c9 => absurd (e5.symm.trans c9) (by decide))
    refine lv_goto (tgt := 1594) hx hb dL_law_649 (by decide) ?_
    refine W.widen (k := k + 110) (n := n + 1000) (by omega) (by omega) ?_
    exact next sC2 sM2 _ _ _ _ hI2 hP hS (lv_sub hl [2, 3, 4, 5, 6] rfl)
set_option maxHeartbeats 4000000 in
set_option maxRecDepth 100000 in
theorem law_takeOut {p : Program} {l : Launch} {e : Env} {s : State} {m : MethodId} {below : List Frame} {meth : Method} {c : Code} {b L : Nat} {xs : Nat → Int32} {Q : State → Prop} {g : dd_G} {cJ : ClassId} {ad adM : Nat → Nat} {qo : Nat} (hst : l.stackTraces = false) (hx : p.tables.exec = Jvm.exec) (hb : c.code = cL_law) (hml : c.maxLocals = 9) (hown : s.vm.findClass RL = some m.cls) (hts : ∀ w ∈ lw_all, w.before #[Value.ref b] s = true) (hX : va_X b L xs s s.heap) (hbl : b < s.heap.size) (hK : KC g s) (hKJ : KJ g cJ s) (hNC : NC s) (hXF : XF (lA s) s s.heap) (hD : ∀ (sC sM : dd_S) (o : Nat → Int64), va_D (lA s) (LW g ad cJ qo adM sC sM o)) {Inv : dd_S → dd_S → Prop} (h : PO_takeOut Inv) {sC sM : dd_S} {o : Nat → Int64} {H : Heap} {locs : List Loc} {ls : Array Slot} {k n i : Nat} (hI : Inv sC sM) (hi : 5 * i + 5 ≤ L) (hL : L ≤ 2560) (hk : k + 110 ≤ 601024) (hn : n + 1000 ≤ 7293034) (hP : va_P g.1 vwCl (LW g ad cJ qo adM sC sM o) H) (hS : va_S (lA s) s.heap H locs) (hl : lv_has ls 9 [(0, .ref b), (1, .ref (ad 30)), (2, .ref (adM 0)), (3, .ref qo), (4, .int (nI (5 * i)))]) (next : ∀ (sC2 sM2 : dd_S) (o2 : Nat → Int64) (H : Heap) (locs : List Loc) (ls : Array Slot), Inv sC2 sM2 → va_P g.1 vwCl (LW g ad cJ qo adM sC2 sM2 o2) H → va_S (lA s) s.heap H locs → lv_has ls 9 [(0, .ref b), (1, .ref (ad 30)), (2, .ref (adM 0)), (3, .ref qo), (4, .int (nI (5 * i)))] → W p l e room_1 s m #[Value.ref b] below meth c H locs (k + 110) (n + 1000) Q (F0 m 1594 ls [])) : W p l e room_1 s m #[Value.ref b] below meth c H locs k n Q (F0 m 652 ls []) := by
  obtain ⟨k0, r0, sC2, bb, sM2, hf, hk0, hq, hth, hrb, hI2⟩ := h sC sM (xs (nI (5 * i) + 1).toNatClampNeg) hI
  have hbA : ¬ lA s b := Nat.not_le.mpr hbl
  refine lv_aload_n hx hb dL_law_652 rfl (lv_at hl 1 rfl) ?_
  refine lv_aload_n hx hb dL_law_653 rfl (lv_at hl 0 rfl) ?_
  refine lv_iload hx hb dL_law_654 (lv_at hl 4 rfl) ?_
  refine lv_iconst (v := 1) hx hb dL_law_656 (by decide) ?_
  refine lv_iadd hx hb dL_law_657 ?_
  refine va_sld hx hb hX hbl hbA hS (law_in hi hL 1 (by decide) (nI_1 _)) dL_law_658 ?_
  refine lv_aload_n hx hb dL_law_659 rfl (lv_at hl 3 rfl) ?_
  refine cl_i (vx_runSW (As := [.ref (ad 30), .int (xs (nI (5 * i) + 1).toNatClampNeg), .ref qo]) (rest := []) ⟨hx, hb, hml, hown, hts⟩ (c_L_takeOut l hst g cJ ad (WM g adM sM) qo o _ sC (xs (nI (5 * i) + 1).toNatClampNeg) k0 r0 sC2 hf hk0) (vx_cwSW 3 hts glw_takeOut rfl rfl rfl ydl_takeOut ⟨Nat.le_of_ble_eq_true rfl, Nat.le_of_ble_eq_true rfl⟩) (preSL_of hK hP (hD sC sM o) (law_XF hXF hS (hD sC sM o)) hKJ hNC) rfl rfl hl.1 rfl (lv_room (Nat.le_of_ble_eq_true rfl)) dL_law_660 ⟨(show k + 0 + 1 ≤ 601024 by omega), (show n + 0 + 6 ≤ 7293034 by omega)⟩) hS (fun q h => law_A (hD sC sM o) hS.1 h) (fun q h => law_A (hD sC sM o) hS.1 h) (fun H locs hP hS => ?_)
  refine W.widen (k := k + 1) (n := n + 6) (by omega) (by omega) ?_
  refine lv_topi (fun x5 e5 => ?_)
  refine lv_istore (lv' := [(5, .int x5), (0, .ref b), (1, .ref (ad 30)), (2, .ref (adM 0)), (3, .ref qo), (4, .int (nI (5 * i)))]) hx hb dL_law_663 hl (by decide) rfl (fun ls hl => ?_)
  refine lv_aload_n hx hb dL_law_665 rfl (lv_at hl 3 rfl) ?_
  refine lv_aload_n hx hb dL_law_666 rfl (lv_at hl 1 rfl) ?_
  refine lv_iload hx hb dL_law_667 (lv_at hl 5 rfl) ?_
  refine lv_iconst (v := 1) hx hb dL_law_669 (by decide) ?_
  refine lv_iadd hx hb dL_law_670 ?_
  refine va_sld hx hb hX hbl hbA hS (law_in hi hL 1 (by decide) (nI_1 _)) dL_law_671 ?_
  have hP := P_rot hP
  have hD9 := D_rot (hD sC2 sM (if k0 = 0 then vp_updL o 0 r0.toInt64 else o))
  refine cl_i (va_runV (As := [.int (xs (nI (5 * i) + 1).toNatClampNeg)]) (rest := []) ⟨hx, hb, hml, hown, hts⟩ (c_X6_takeOut l g adM (WC g ad sC2 ++ [(qo, OutE cJ (if k0 = 0 then vp_updL o 0 r0.toInt64 else o))]) _ sM (xs (nI (5 * i) + 1).toNatClampNeg) bb sM2 hq) (cwV 1 hts gl_L_117 rfl rfl rfl yd_X6_takeOut ⟨Nat.le_of_ble_eq_true rfl, Nat.le_of_ble_eq_true rfl⟩) (preV_of hK hP (dd_D hD9) (dd_at (by decide) cm_0) rfl) rfl rfl hl.1 rfl (lv_room (Nat.le_of_ble_eq_true rfl)) dL_law_672 ⟨(show k + 1 + 0 ≤ 601024 by omega), (show n + 6 + 0 ≤ 7293034 by omega)⟩) hS (fun q h => law_A hD9 hS.1 h) (fun q h => law_A hD9 hS.1 h) (fun H locs hP hS => ?_)
  have hP := P_rot2 hP
  refine W.widen (k := k + 1) (n := n + 6) (by omega) (by omega) ?_
  refine lv_istore (lv' := [(6, .int bb), (5, .int x5), (0, .ref b), (1, .ref (ad 30)), (2, .ref (adM 0)), (3, .ref qo), (4, .int (nI (5 * i)))]) hx hb dL_law_675 hl (by decide) rfl (fun ls hl => ?_)
  refine lv_aload_n hx hb dL_law_677 rfl (lv_at hl 4 rfl) ?_
  have hP := P_rot hP
  have hD9 := D_rot (hD sC2 sM2 (if k0 = 0 then vp_updL o 0 r0.toInt64 else o))
  refine cl_i (va_runV (As := []) (rest := []) ⟨hx, hb, hml, hown, hts⟩ (c_X6_thrown l g adM (WC g ad sC2 ++ [(qo, OutE cJ (if k0 = 0 then vp_updL o 0 r0.toInt64 else o))]) _ sM2 (sM2 0 0) rfl) (cwV 0 hts gl_L_90 rfl rfl rfl yd_X6_thrown ⟨Nat.le_of_ble_eq_true rfl, Nat.le_of_ble_eq_true rfl⟩) (preV_of hK hP hD9 (dd_at (by decide) cm_0) rfl) rfl rfl hl.1 rfl (lv_room (Nat.le_of_ble_eq_true rfl)) dL_law_678 ⟨(show k + 1 + 0 ≤ 601024 by omega), (show n + 6 + 0 ≤ 7293034 by omega)⟩) hS (fun q h => law_A hD9 hS.1 h) (fun q h => law_A hD9 hS.1 h) (fun H locs hP hS => ?_)
  have hP := P_rot2 hP
  refine W.widen (k := k + 1) (n := n + 6) (by omega) (by omega) ?_
  refine lv_iload hx hb dL_law_681 (lv_at hl 1 rfl) ?_
  refine lv_icmp_eq (tgt := 688) hx hb dL_law_683 (by decide) (fun _ => ?_) (fun c9 => absurd (hth.trans e5.symm) c9)
  refine lv_iload hx hb dL_law_688 (lv_at hl 1 rfl) ?_
  rcases hk0 with rfl | rfl | rfl
  · have e5 : x5 = 0 := e5
    refine lv_if_ne (tgt := 705) hx hb dL_law_690 (by decide) (fun c9 => absurd e5 c9) (fun _ => ?_)
    refine lv_aload_n hx hb dL_law_693 rfl (lv_at hl 5 rfl) ?_
    refine lv_iconst (v := 0) hx hb dL_law_694 (by decide) ?_
    refine va_lald hx hb hKJ hP 59 3 dd_first rfl (ix_in (i := 0) (n := 1) (by decide)) dL_law_695 ?_
    refine lv_iload hx hb dL_law_696 (lv_at hl 0 rfl) ?_
    refine lv_i2l hx hb dL_law_698 rfl ?_
    refine W.lcmp hx hb dL_law_699 ?_
    refine lv_if_eq (tgt := 705) hx hb dL_law_700 (by decide) (fun _ => ?_) (fun c9 => absurd (show lg_cmp r0.toInt64 bb.toInt64 = 0 by rw [hrb rfl]; exact law_self _) c9)
    refine lv_goto (tgt := 1594) hx hb dL_law_705 (by decide) ?_
    refine W.widen (k := k + 110) (n := n + 1000) (by omega) (by omega) ?_
    exact next sC2 sM2 _ _ _ _ hI2 hP hS (lv_sub hl [2, 3, 4, 5, 6] rfl)
  · have e5 : x5 = 1 := e5
    refine lv_if_ne (tgt := 705) hx hb dL_law_690 (by decide) (fun _ => ?_) (fun c9 => absurd (e5.symm.trans c9) (by decide))
    refine lv_goto (tgt := 1594) hx hb dL_law_705 (by decide) ?_
    refine W.widen (k := k + 110) (n := n + 1000) (by omega) (by omega) ?_
    exact next sC2 sM2 _ _ _ _ hI2 hP hS (lv_sub hl [2, 3, 4, 5, 6] rfl)
  · have e5 : x5 = 2 := e5
    refine lv_if_ne (tgt := 705) hx hb dL_law_690 (by decide) (fun _ => ?_) (fun c9 => absurd (e5.symm.trans c9) (by decide))
    refine lv_goto (tgt := 1594) hx hb dL_law_705 (by decide) ?_
    refine W.widen (k := k + 110) (n := n + 1000) (by omega) (by omega) ?_
    exact next sC2 sM2 _ _ _ _ hI2 hP hS (lv_sub hl [2, 3, 4, 5, 6] rfl)
set_option maxHeartbeats 4000000 in
set_option maxRecDepth 100000 in
theorem law_duty {p : Program} {l : Launch} {e : Env} {s : State} {m : MethodId} {below : List Frame} {meth : Method} {c : Code} {b L : Nat} {xs : Nat → Int32} {Q : State → Prop} {g : dd_G} {cJ : ClassId} {ad adM : Nat → Nat} {qo : Nat} (hst : l.stackTraces = false) (hx : p.tables.exec = Jvm.exec) (hb : c.code = cL_law) (hml : c.maxLocals = 9) (hown : s.vm.findClass RL = some m.cls) (hts : ∀ w ∈ lw_all, w.before #[Value.ref b] s = true) (hX : va_X b L xs s s.heap) (hbl : b < s.heap.size) (hK : KC g s) (hKJ : KJ g cJ s) (hNC : NC s) (hXF : XF (lA s) s s.heap) (hD : ∀ (sC sM : dd_S) (o : Nat → Int64), va_D (lA s) (LW g ad cJ qo adM sC sM o)) {Inv : dd_S → dd_S → Prop} (h : PO_duty Inv) {sC sM : dd_S} {o : Nat → Int64} {H : Heap} {locs : List Loc} {ls : Array Slot} {k n i : Nat} (hI : Inv sC sM) (hi : 5 * i + 5 ≤ L) (hL : L ≤ 2560) (hk : k + 110 ≤ 601024) (hn : n + 1000 ≤ 7293034) (hP : va_P g.1 vwCl (LW g ad cJ qo adM sC sM o) H) (hS : va_S (lA s) s.heap H locs) (hl : lv_has ls 9 [(0, .ref b), (1, .ref (ad 30)), (2, .ref (adM 0)), (3, .ref qo), (4, .int (nI (5 * i)))]) (next : ∀ (sC2 sM2 : dd_S) (o2 : Nat → Int64) (H : Heap) (locs : List Loc) (ls : Array Slot), Inv sC2 sM2 → va_P g.1 vwCl (LW g ad cJ qo adM sC2 sM2 o2) H → va_S (lA s) s.heap H locs → lv_has ls 9 [(0, .ref b), (1, .ref (ad 30)), (2, .ref (adM 0)), (3, .ref qo), (4, .int (nI (5 * i)))] → W p l e room_1 s m #[Value.ref b] below meth c H locs (k + 110) (n + 1000) Q (F0 m 1594 ls [])) : W p l e room_1 s m #[Value.ref b] below meth c H locs k n Q (F0 m 708 ls []) := by
  obtain ⟨k0, r0, sC2, bb, sM2, hf, hk0, hq, hth, hrb, hI2⟩ := h sC sM (xs (nI (5 * i) + 1).toNatClampNeg) (xs (nI (5 * i) + 2).toNatClampNeg) hI
  have hbA : ¬ lA s b := Nat.not_le.mpr hbl
  refine lv_aload_n hx hb dL_law_708 rfl (lv_at hl 1 rfl) ?_
  refine lv_aload_n hx hb dL_law_709 rfl (lv_at hl 0 rfl) ?_
  refine lv_iload hx hb dL_law_710 (lv_at hl 4 rfl) ?_
  refine lv_iconst (v := 1) hx hb dL_law_712 (by decide) ?_
  refine lv_iadd hx hb dL_law_713 ?_
  refine va_sld hx hb hX hbl hbA hS (law_in hi hL 1 (by decide) (nI_1 _)) dL_law_714 ?_
  refine lv_aload_n hx hb dL_law_715 rfl (lv_at hl 0 rfl) ?_
  refine lv_iload hx hb dL_law_716 (lv_at hl 4 rfl) ?_
  refine lv_iconst (v := 2) hx hb dL_law_718 (by decide) ?_
  refine lv_iadd hx hb dL_law_719 ?_
  refine va_sld hx hb hX hbl hbA hS (law_in hi hL 2 (by decide) (nI_add _ 2)) dL_law_720 ?_
  refine lv_aload_n hx hb dL_law_721 rfl (lv_at hl 3 rfl) ?_
  refine cl_i (vx_runSW (As := [.ref (ad 30), .int (xs (nI (5 * i) + 1).toNatClampNeg), .int (xs (nI (5 * i) + 2).toNatClampNeg), .ref qo]) (rest := []) ⟨hx, hb, hml, hown, hts⟩ (c_L_duty l hst g cJ ad (WM g adM sM) qo o _ sC (xs (nI (5 * i) + 1).toNatClampNeg) (xs (nI (5 * i) + 2).toNatClampNeg) k0 r0 sC2 hf hk0) (vx_cwSW 4 hts glw_duty rfl rfl rfl ydl_duty ⟨Nat.le_of_ble_eq_true rfl, Nat.le_of_ble_eq_true rfl⟩) (preSL_of hK hP (hD sC sM o) (law_XF hXF hS (hD sC sM o)) hKJ hNC) rfl rfl hl.1 rfl (lv_room (Nat.le_of_ble_eq_true rfl)) dL_law_722 ⟨(show k + 0 + 1 ≤ 601024 by omega), (show n + 0 + 6 ≤ 7293034 by omega)⟩) hS (fun q h => law_A (hD sC sM o) hS.1 h) (fun q h => law_A (hD sC sM o) hS.1 h) (fun H locs hP hS => ?_)
  refine W.widen (k := k + 1) (n := n + 6) (by omega) (by omega) ?_
  refine lv_topi (fun x5 e5 => ?_)
  refine lv_istore (lv' := [(5, .int x5), (0, .ref b), (1, .ref (ad 30)), (2, .ref (adM 0)), (3, .ref qo), (4, .int (nI (5 * i)))]) hx hb dL_law_725 hl (by decide) rfl (fun ls hl => ?_)
  refine lv_aload_n hx hb dL_law_727 rfl (lv_at hl 3 rfl) ?_
  refine lv_aload_n hx hb dL_law_728 rfl (lv_at hl 1 rfl) ?_
  refine lv_iload hx hb dL_law_729 (lv_at hl 5 rfl) ?_
  refine lv_iconst (v := 1) hx hb dL_law_731 (by decide) ?_
  refine lv_iadd hx hb dL_law_732 ?_
  refine va_sld hx hb hX hbl hbA hS (law_in hi hL 1 (by decide) (nI_1 _)) dL_law_733 ?_
  refine lv_aload_n hx hb dL_law_734 rfl (lv_at hl 1 rfl) ?_
  refine lv_iload hx hb dL_law_735 (lv_at hl 5 rfl) ?_
  refine lv_iconst (v := 2) hx hb dL_law_737 (by decide) ?_
  refine lv_iadd hx hb dL_law_738 ?_
  refine va_sld hx hb hX hbl hbA hS (law_in hi hL 2 (by decide) (nI_add _ 2)) dL_law_739 ?_
  have hP := P_rot hP
  have hD9 := D_rot (hD sC2 sM (if k0 = 0 then vp_updL o 0 r0.toInt64 else o))
  refine cl_i (va_runV (As := [.int (xs (nI (5 * i) + 1).toNatClampNeg), .int (xs (nI (5 * i) + 2).toNatClampNeg)]) (rest := []) ⟨hx, hb, hml, hown, hts⟩ (c_X6_duty l g adM (WC g ad sC2 ++ [(qo, OutE cJ (if k0 = 0 then vp_updL o 0 r0.toInt64 else o))]) _ sM (xs (nI (5 * i) + 1).toNatClampNeg) (xs (nI (5 * i) + 2).toNatClampNeg) bb sM2 hq) (cwV 2 hts gl_L_120 rfl rfl rfl yd_X6_duty ⟨Nat.le_of_ble_eq_true rfl, Nat.le_of_ble_eq_true rfl⟩) (preV_of hK hP (dd_D hD9) (dd_at (by decide) cm_0) rfl) rfl rfl hl.1 rfl (lv_room (Nat.le_of_ble_eq_true rfl)) dL_law_740 ⟨(show k + 1 + 1 ≤ 601024 by omega), (show n + 6 + 9 ≤ 7293034 by omega)⟩) hS (fun q h => law_A hD9 hS.1 h) (fun q h => law_A hD9 hS.1 h) (fun H locs hP hS => ?_)
  have hP := P_rot2 hP
  refine W.widen (k := k + 2) (n := n + 15) (by omega) (by omega) ?_
  refine lv_istore (lv' := [(6, .int bb), (5, .int x5), (0, .ref b), (1, .ref (ad 30)), (2, .ref (adM 0)), (3, .ref qo), (4, .int (nI (5 * i)))]) hx hb dL_law_743 hl (by decide) rfl (fun ls hl => ?_)
  refine lv_aload_n hx hb dL_law_745 rfl (lv_at hl 4 rfl) ?_
  have hP := P_rot hP
  have hD9 := D_rot (hD sC2 sM2 (if k0 = 0 then vp_updL o 0 r0.toInt64 else o))
  refine cl_i (va_runV (As := []) (rest := []) ⟨hx, hb, hml, hown, hts⟩ (c_X6_thrown l g adM (WC g ad sC2 ++ [(qo, OutE cJ (if k0 = 0 then vp_updL o 0 r0.toInt64 else o))]) _ sM2 (sM2 0 0) rfl) (cwV 0 hts gl_L_90 rfl rfl rfl yd_X6_thrown ⟨Nat.le_of_ble_eq_true rfl, Nat.le_of_ble_eq_true rfl⟩) (preV_of hK hP hD9 (dd_at (by decide) cm_0) rfl) rfl rfl hl.1 rfl (lv_room (Nat.le_of_ble_eq_true rfl)) dL_law_746 ⟨(show k + 2 + 0 ≤ 601024 by omega), (show n + 15 + 0 ≤ 7293034 by omega)⟩) hS (fun q h => law_A hD9 hS.1 h) (fun q h => law_A hD9 hS.1 h) (fun H locs hP hS => ?_)
  have hP := P_rot2 hP
  refine W.widen (k := k + 2) (n := n + 15) (by omega) (by omega) ?_
  refine lv_iload hx hb dL_law_749 (lv_at hl 1 rfl) ?_
  refine lv_icmp_eq (tgt := 756) hx hb dL_law_751 (by decide) (fun _ => ?_) (fun c9 => absurd (hth.trans e5.symm) c9)
  refine lv_iload hx hb dL_law_756 (lv_at hl 1 rfl) ?_
  rcases hk0 with rfl | rfl
  · have e5 : x5 = 0 := e5
    refine lv_if_ne (tgt := 773) hx hb dL_law_758 (by decide) (fun c9 => absurd e5 c9) (fun _ => ?_)
    refine lv_aload_n hx hb dL_law_761 rfl (lv_at hl 5 rfl) ?_
    refine lv_iconst (v := 0) hx hb dL_law_762 (by decide) ?_
    refine va_lald hx hb hKJ hP 59 3 dd_first rfl (ix_in (i := 0) (n := 1) (by decide)) dL_law_763 ?_
    refine lv_iload hx hb dL_law_764 (lv_at hl 0 rfl) ?_
    refine lv_i2l hx hb dL_law_766 rfl ?_
    refine W.lcmp hx hb dL_law_767 ?_
    refine lv_if_eq (tgt := 773) hx hb dL_law_768 (by decide) (fun _ => ?_) (fun c9 => absurd (show lg_cmp r0.toInt64 bb.toInt64 = 0 by rw [hrb rfl]; exact law_self _) c9)
    refine lv_goto (tgt := 1594) hx hb dL_law_773 (by decide) ?_
    refine W.widen (k := k + 110) (n := n + 1000) (by omega) (by omega) ?_
    exact next sC2 sM2 _ _ _ _ hI2 hP hS (lv_sub hl [2, 3, 4, 5, 6] rfl)
  · have e5 : x5 = 1 := e5
    refine lv_if_ne (tgt := 773) hx hb dL_law_758 (by decide) (fun _ => ?_) (fun c9 => absurd (e5.symm.trans c9) (by decide))
    refine lv_goto (tgt := 1594) hx hb dL_law_773 (by decide) ?_
    refine W.widen (k := k + 110) (n := n + 1000) (by omega) (by omega) ?_
    exact next sC2 sM2 _ _ _ _ hI2 hP hS (lv_sub hl [2, 3, 4, 5, 6] rfl)
set_option maxHeartbeats 4000000 in
set_option maxRecDepth 100000 in
theorem law_tripAt {p : Program} {l : Launch} {e : Env} {s : State} {m : MethodId} {below : List Frame} {meth : Method} {c : Code} {b L : Nat} {xs : Nat → Int32} {Q : State → Prop} {g : dd_G} {cJ : ClassId} {ad adM : Nat → Nat} {qo : Nat} (hst : l.stackTraces = false) (hx : p.tables.exec = Jvm.exec) (hb : c.code = cL_law) (hml : c.maxLocals = 9) (hown : s.vm.findClass RL = some m.cls) (hts : ∀ w ∈ lw_all, w.before #[Value.ref b] s = true) (hX : va_X b L xs s s.heap) (hbl : b < s.heap.size) (hK : KC g s) (hKJ : KJ g cJ s) (hNC : NC s) (hXF : XF (lA s) s s.heap) (hD : ∀ (sC sM : dd_S) (o : Nat → Int64), va_D (lA s) (LW g ad cJ qo adM sC sM o)) {Inv : dd_S → dd_S → Prop} (h : PO_tripAt Inv) {sC sM : dd_S} {o : Nat → Int64} {H : Heap} {locs : List Loc} {ls : Array Slot} {k n i : Nat} (hI : Inv sC sM) (hi : 5 * i + 5 ≤ L) (hL : L ≤ 2560) (hk : k + 110 ≤ 601024) (hn : n + 1000 ≤ 7293034) (hP : va_P g.1 vwCl (LW g ad cJ qo adM sC sM o) H) (hS : va_S (lA s) s.heap H locs) (hl : lv_has ls 9 [(0, .ref b), (1, .ref (ad 30)), (2, .ref (adM 0)), (3, .ref qo), (4, .int (nI (5 * i)))]) (next : ∀ (sC2 sM2 : dd_S) (o2 : Nat → Int64) (H : Heap) (locs : List Loc) (ls : Array Slot), Inv sC2 sM2 → va_P g.1 vwCl (LW g ad cJ qo adM sC2 sM2 o2) H → va_S (lA s) s.heap H locs → lv_has ls 9 [(0, .ref b), (1, .ref (ad 30)), (2, .ref (adM 0)), (3, .ref qo), (4, .int (nI (5 * i)))] → W p l e room_1 s m #[Value.ref b] below meth c H locs (k + 110) (n + 1000) Q (F0 m 1594 ls [])) : W p l e room_1 s m #[Value.ref b] below meth c H locs k n Q (F0 m 776 ls []) := by
  obtain ⟨k0, r0, sC2, bb, sM2, hf, hk0, hq, hth, hrb, hI2⟩ := h sC sM (xs (nI (5 * i) + 1).toNatClampNeg) (xs (nI (5 * i) + 2).toNatClampNeg) hI
  have hbA : ¬ lA s b := Nat.not_le.mpr hbl
  refine lv_aload_n hx hb dL_law_776 rfl (lv_at hl 1 rfl) ?_
  refine lv_aload_n hx hb dL_law_777 rfl (lv_at hl 0 rfl) ?_
  refine lv_iload hx hb dL_law_778 (lv_at hl 4 rfl) ?_
  refine lv_iconst (v := 1) hx hb dL_law_780 (by decide) ?_
  refine lv_iadd hx hb dL_law_781 ?_
  refine va_sld hx hb hX hbl hbA hS (law_in hi hL 1 (by decide) (nI_1 _)) dL_law_782 ?_
  refine lv_aload_n hx hb dL_law_783 rfl (lv_at hl 0 rfl) ?_
  refine lv_iload hx hb dL_law_784 (lv_at hl 4 rfl) ?_
  refine lv_iconst (v := 2) hx hb dL_law_786 (by decide) ?_
  refine lv_iadd hx hb dL_law_787 ?_
  refine va_sld hx hb hX hbl hbA hS (law_in hi hL 2 (by decide) (nI_add _ 2)) dL_law_788 ?_
  refine lv_aload_n hx hb dL_law_789 rfl (lv_at hl 3 rfl) ?_
  refine cl_i (vx_runSW (As := [.ref (ad 30), .int (xs (nI (5 * i) + 1).toNatClampNeg), .int (xs (nI (5 * i) + 2).toNatClampNeg), .ref qo]) (rest := []) ⟨hx, hb, hml, hown, hts⟩ (c_L_tripAt l hst g cJ ad (WM g adM sM) qo o _ sC (xs (nI (5 * i) + 1).toNatClampNeg) (xs (nI (5 * i) + 2).toNatClampNeg) k0 r0 sC2 hf hk0) (vx_cwSW 4 hts glw_tripAt rfl rfl rfl ydl_tripAt ⟨Nat.le_of_ble_eq_true rfl, Nat.le_of_ble_eq_true rfl⟩) (preSL_of hK hP (hD sC sM o) (law_XF hXF hS (hD sC sM o)) hKJ hNC) rfl rfl hl.1 rfl (lv_room (Nat.le_of_ble_eq_true rfl)) dL_law_790 ⟨(show k + 0 + 1 ≤ 601024 by omega), (show n + 0 + 6 ≤ 7293034 by omega)⟩) hS (fun q h => law_A (hD sC sM o) hS.1 h) (fun q h => law_A (hD sC sM o) hS.1 h) (fun H locs hP hS => ?_)
  refine W.widen (k := k + 1) (n := n + 6) (by omega) (by omega) ?_
  refine lv_topi (fun x5 e5 => ?_)
  refine lv_istore (lv' := [(5, .int x5), (0, .ref b), (1, .ref (ad 30)), (2, .ref (adM 0)), (3, .ref qo), (4, .int (nI (5 * i)))]) hx hb dL_law_793 hl (by decide) rfl (fun ls hl => ?_)
  refine lv_aload_n hx hb dL_law_795 rfl (lv_at hl 3 rfl) ?_
  refine lv_aload_n hx hb dL_law_796 rfl (lv_at hl 1 rfl) ?_
  refine lv_iload hx hb dL_law_797 (lv_at hl 5 rfl) ?_
  refine lv_iconst (v := 1) hx hb dL_law_799 (by decide) ?_
  refine lv_iadd hx hb dL_law_800 ?_
  refine va_sld hx hb hX hbl hbA hS (law_in hi hL 1 (by decide) (nI_1 _)) dL_law_801 ?_
  refine lv_aload_n hx hb dL_law_802 rfl (lv_at hl 1 rfl) ?_
  refine lv_iload hx hb dL_law_803 (lv_at hl 5 rfl) ?_
  refine lv_iconst (v := 2) hx hb dL_law_805 (by decide) ?_
  refine lv_iadd hx hb dL_law_806 ?_
  refine va_sld hx hb hX hbl hbA hS (law_in hi hL 2 (by decide) (nI_add _ 2)) dL_law_807 ?_
  have hP := P_rot hP
  have hD9 := D_rot (hD sC2 sM (if k0 = 0 then vp_updL o 0 r0.toInt64 else o))
  refine cl_i (va_runV (As := [.int (xs (nI (5 * i) + 1).toNatClampNeg), .int (xs (nI (5 * i) + 2).toNatClampNeg)]) (rest := []) ⟨hx, hb, hml, hown, hts⟩ (c_X6_tripAt l g adM (WC g ad sC2 ++ [(qo, OutE cJ (if k0 = 0 then vp_updL o 0 r0.toInt64 else o))]) _ sM (xs (nI (5 * i) + 1).toNatClampNeg) (xs (nI (5 * i) + 2).toNatClampNeg) bb sM2 hq) (cwV 2 hts gl_L_123 rfl rfl rfl yd_X6_tripAt ⟨Nat.le_of_ble_eq_true rfl, Nat.le_of_ble_eq_true rfl⟩) (preV_of hK hP (dd_D hD9) (dd_at (by decide) cm_0) rfl) rfl rfl hl.1 rfl (lv_room (Nat.le_of_ble_eq_true rfl)) dL_law_808 ⟨(show k + 1 + 0 ≤ 601024 by omega), (show n + 6 + 0 ≤ 7293034 by omega)⟩) hS (fun q h => law_A hD9 hS.1 h) (fun q h => law_A hD9 hS.1 h) (fun H locs hP hS => ?_)
  have hP := P_rot2 hP
  refine W.widen (k := k + 1) (n := n + 6) (by omega) (by omega) ?_
  refine lv_istore (lv' := [(6, .int bb), (5, .int x5), (0, .ref b), (1, .ref (ad 30)), (2, .ref (adM 0)), (3, .ref qo), (4, .int (nI (5 * i)))]) hx hb dL_law_811 hl (by decide) rfl (fun ls hl => ?_)
  refine lv_aload_n hx hb dL_law_813 rfl (lv_at hl 4 rfl) ?_
  have hP := P_rot hP
  have hD9 := D_rot (hD sC2 sM2 (if k0 = 0 then vp_updL o 0 r0.toInt64 else o))
  refine cl_i (va_runV (As := []) (rest := []) ⟨hx, hb, hml, hown, hts⟩ (c_X6_thrown l g adM (WC g ad sC2 ++ [(qo, OutE cJ (if k0 = 0 then vp_updL o 0 r0.toInt64 else o))]) _ sM2 (sM2 0 0) rfl) (cwV 0 hts gl_L_90 rfl rfl rfl yd_X6_thrown ⟨Nat.le_of_ble_eq_true rfl, Nat.le_of_ble_eq_true rfl⟩) (preV_of hK hP hD9 (dd_at (by decide) cm_0) rfl) rfl rfl hl.1 rfl (lv_room (Nat.le_of_ble_eq_true rfl)) dL_law_814 ⟨(show k + 1 + 0 ≤ 601024 by omega), (show n + 6 + 0 ≤ 7293034 by omega)⟩) hS (fun q h => law_A hD9 hS.1 h) (fun q h => law_A hD9 hS.1 h) (fun H locs hP hS => ?_)
  have hP := P_rot2 hP
  refine W.widen (k := k + 1) (n := n + 6) (by omega) (by omega) ?_
  refine lv_iload hx hb dL_law_817 (lv_at hl 1 rfl) ?_
  refine lv_icmp_eq (tgt := 824) hx hb dL_law_819 (by decide) (fun _ => ?_) (fun c9 => absurd (hth.trans e5.symm) c9)
  refine lv_iload hx hb dL_law_824 (lv_at hl 1 rfl) ?_
  rcases hk0 with rfl | rfl
  · have e5 : x5 = 0 := e5
    refine lv_if_ne (tgt := 841) hx hb dL_law_826 (by decide) (fun c9 => absurd e5 c9) (fun _ => ?_)
    refine lv_aload_n hx hb dL_law_829 rfl (lv_at hl 5 rfl) ?_
    refine lv_iconst (v := 0) hx hb dL_law_830 (by decide) ?_
    refine va_lald hx hb hKJ hP 59 3 dd_first rfl (ix_in (i := 0) (n := 1) (by decide)) dL_law_831 ?_
    refine lv_iload hx hb dL_law_832 (lv_at hl 0 rfl) ?_
    refine lv_i2l hx hb dL_law_834 rfl ?_
    refine W.lcmp hx hb dL_law_835 ?_
    refine lv_if_eq (tgt := 841) hx hb dL_law_836 (by decide) (fun _ => ?_) (fun c9 => absurd (show lg_cmp r0.toInt64 bb.toInt64 = 0 by rw [hrb rfl]; exact law_self _) c9)
    refine lv_goto (tgt := 1594) hx hb dL_law_841 (by decide) ?_
    refine W.widen (k := k + 110) (n := n + 1000) (by omega) (by omega) ?_
    exact next sC2 sM2 _ _ _ _ hI2 hP hS (lv_sub hl [2, 3, 4, 5, 6] rfl)
  · have e5 : x5 = 1 := e5
    refine lv_if_ne (tgt := 841) hx hb dL_law_826 (by decide) (fun _ => ?_) (fun c9 => absurd (e5.symm.trans c9) (by decide))
    refine lv_goto (tgt := 1594) hx hb dL_law_841 (by decide) ?_
    refine W.widen (k := k + 110) (n := n + 1000) (by omega) (by omega) ?_
    exact next sC2 sM2 _ _ _ _ hI2 hP hS (lv_sub hl [2, 3, 4, 5, 6] rfl)
set_option maxHeartbeats 4000000 in
set_option maxRecDepth 100000 in
theorem law_bestFor {p : Program} {l : Launch} {e : Env} {s : State} {m : MethodId} {below : List Frame} {meth : Method} {c : Code} {b L : Nat} {xs : Nat → Int32} {Q : State → Prop} {g : dd_G} {cJ : ClassId} {ad adM : Nat → Nat} {qo : Nat} (hst : l.stackTraces = false) (hx : p.tables.exec = Jvm.exec) (hb : c.code = cL_law) (hml : c.maxLocals = 9) (hown : s.vm.findClass RL = some m.cls) (hts : ∀ w ∈ lw_all, w.before #[Value.ref b] s = true) (hX : va_X b L xs s s.heap) (hbl : b < s.heap.size) (hK : KC g s) (hKJ : KJ g cJ s) (hNC : NC s) (hXF : XF (lA s) s s.heap) (hD : ∀ (sC sM : dd_S) (o : Nat → Int64), va_D (lA s) (LW g ad cJ qo adM sC sM o)) {Inv : dd_S → dd_S → Prop} (h : PO_bestFor Inv) {sC sM : dd_S} {o : Nat → Int64} {H : Heap} {locs : List Loc} {ls : Array Slot} {k n i : Nat} (hI : Inv sC sM) (hi : 5 * i + 5 ≤ L) (hL : L ≤ 2560) (hk : k + 110 ≤ 601024) (hn : n + 1000 ≤ 7293034) (hP : va_P g.1 vwCl (LW g ad cJ qo adM sC sM o) H) (hS : va_S (lA s) s.heap H locs) (hl : lv_has ls 9 [(0, .ref b), (1, .ref (ad 30)), (2, .ref (adM 0)), (3, .ref qo), (4, .int (nI (5 * i)))]) (next : ∀ (sC2 sM2 : dd_S) (o2 : Nat → Int64) (H : Heap) (locs : List Loc) (ls : Array Slot), Inv sC2 sM2 → va_P g.1 vwCl (LW g ad cJ qo adM sC2 sM2 o2) H → va_S (lA s) s.heap H locs → lv_has ls 9 [(0, .ref b), (1, .ref (ad 30)), (2, .ref (adM 0)), (3, .ref qo), (4, .int (nI (5 * i)))] → W p l e room_1 s m #[Value.ref b] below meth c H locs (k + 110) (n + 1000) Q (F0 m 1594 ls [])) : W p l e room_1 s m #[Value.ref b] below meth c H locs k n Q (F0 m 844 ls []) := by
  obtain ⟨k0, r0, sC2, bb, sM2, hf, hk0, hq, hth, hrb, hI2⟩ := h sC sM (xs (nI (5 * i) + 1).toNatClampNeg) hI
  have hbA : ¬ lA s b := Nat.not_le.mpr hbl
  refine lv_aload_n hx hb dL_law_844 rfl (lv_at hl 1 rfl) ?_
  refine lv_aload_n hx hb dL_law_845 rfl (lv_at hl 0 rfl) ?_
  refine lv_iload hx hb dL_law_846 (lv_at hl 4 rfl) ?_
  refine lv_iconst (v := 1) hx hb dL_law_848 (by decide) ?_
  refine lv_iadd hx hb dL_law_849 ?_
  refine va_sld hx hb hX hbl hbA hS (law_in hi hL 1 (by decide) (nI_1 _)) dL_law_850 ?_
  refine lv_aload_n hx hb dL_law_851 rfl (lv_at hl 3 rfl) ?_
  refine cl_i (vx_runSW (As := [.ref (ad 30), .int (xs (nI (5 * i) + 1).toNatClampNeg), .ref qo]) (rest := []) ⟨hx, hb, hml, hown, hts⟩ (c_L_bestFor l hst g cJ ad (WM g adM sM) qo o _ sC (xs (nI (5 * i) + 1).toNatClampNeg) k0 r0 sC2 hf hk0) (vx_cwSW 3 hts glw_bestFor rfl rfl rfl ydl_bestFor ⟨Nat.le_of_ble_eq_true rfl, Nat.le_of_ble_eq_true rfl⟩) (preSL_of hK hP (hD sC sM o) (law_XF hXF hS (hD sC sM o)) hKJ hNC) rfl rfl hl.1 rfl (lv_room (Nat.le_of_ble_eq_true rfl)) dL_law_852 ⟨(show k + 0 + 1 ≤ 601024 by omega), (show n + 0 + 6 ≤ 7293034 by omega)⟩) hS (fun q h => law_A (hD sC sM o) hS.1 h) (fun q h => law_A (hD sC sM o) hS.1 h) (fun H locs hP hS => ?_)
  refine W.widen (k := k + 1) (n := n + 6) (by omega) (by omega) ?_
  refine lv_topi (fun x5 e5 => ?_)
  refine lv_istore (lv' := [(5, .int x5), (0, .ref b), (1, .ref (ad 30)), (2, .ref (adM 0)), (3, .ref qo), (4, .int (nI (5 * i)))]) hx hb dL_law_855 hl (by decide) rfl (fun ls hl => ?_)
  refine lv_aload_n hx hb dL_law_857 rfl (lv_at hl 3 rfl) ?_
  refine lv_aload_n hx hb dL_law_858 rfl (lv_at hl 1 rfl) ?_
  refine lv_iload hx hb dL_law_859 (lv_at hl 5 rfl) ?_
  refine lv_iconst (v := 1) hx hb dL_law_861 (by decide) ?_
  refine lv_iadd hx hb dL_law_862 ?_
  refine va_sld hx hb hX hbl hbA hS (law_in hi hL 1 (by decide) (nI_1 _)) dL_law_863 ?_
  have hP := P_rot hP
  have hD9 := D_rot (hD sC2 sM (if k0 = 0 then vp_updL o 0 r0.toInt64 else o))
  refine cl_i (va_runV (As := [.int (xs (nI (5 * i) + 1).toNatClampNeg)]) (rest := []) ⟨hx, hb, hml, hown, hts⟩ (c_X6_bestFor l g adM (WC g ad sC2 ++ [(qo, OutE cJ (if k0 = 0 then vp_updL o 0 r0.toInt64 else o))]) _ sM (xs (nI (5 * i) + 1).toNatClampNeg) bb sM2 hq) (cwV 1 hts gl_L_126 rfl rfl rfl yd_X6_bestFor ⟨Nat.le_of_ble_eq_true rfl, Nat.le_of_ble_eq_true rfl⟩) (preV_of hK hP (dd_D hD9) (dd_at (by decide) cm_0) rfl) rfl rfl hl.1 rfl (lv_room (Nat.le_of_ble_eq_true rfl)) dL_law_864 ⟨(show k + 1 + 0 ≤ 601024 by omega), (show n + 6 + 0 ≤ 7293034 by omega)⟩) hS (fun q h => law_A hD9 hS.1 h) (fun q h => law_A hD9 hS.1 h) (fun H locs hP hS => ?_)
  have hP := P_rot2 hP
  refine W.widen (k := k + 1) (n := n + 6) (by omega) (by omega) ?_
  refine lv_istore (lv' := [(6, .int bb), (5, .int x5), (0, .ref b), (1, .ref (ad 30)), (2, .ref (adM 0)), (3, .ref qo), (4, .int (nI (5 * i)))]) hx hb dL_law_867 hl (by decide) rfl (fun ls hl => ?_)
  refine lv_aload_n hx hb dL_law_869 rfl (lv_at hl 4 rfl) ?_
  have hP := P_rot hP
  have hD9 := D_rot (hD sC2 sM2 (if k0 = 0 then vp_updL o 0 r0.toInt64 else o))
  refine cl_i (va_runV (As := []) (rest := []) ⟨hx, hb, hml, hown, hts⟩ (c_X6_thrown l g adM (WC g ad sC2 ++ [(qo, OutE cJ (if k0 = 0 then vp_updL o 0 r0.toInt64 else o))]) _ sM2 (sM2 0 0) rfl) (cwV 0 hts gl_L_90 rfl rfl rfl yd_X6_thrown ⟨Nat.le_of_ble_eq_true rfl, Nat.le_of_ble_eq_true rfl⟩) (preV_of hK hP hD9 (dd_at (by decide) cm_0) rfl) rfl rfl hl.1 rfl (lv_room (Nat.le_of_ble_eq_true rfl)) dL_law_870 ⟨(show k + 1 + 0 ≤ 601024 by omega), (show n + 6 + 0 ≤ 7293034 by omega)⟩) hS (fun q h => law_A hD9 hS.1 h) (fun q h => law_A hD9 hS.1 h) (fun H locs hP hS => ?_)
  have hP := P_rot2 hP
  refine W.widen (k := k + 1) (n := n + 6) (by omega) (by omega) ?_
  refine lv_iload hx hb dL_law_873 (lv_at hl 1 rfl) ?_
  refine lv_icmp_eq (tgt := 880) hx hb dL_law_875 (by decide) (fun _ => ?_) (fun c9 => absurd (hth.trans e5.symm) c9)
  refine lv_iload hx hb dL_law_880 (lv_at hl 1 rfl) ?_
  rcases hk0 with rfl | rfl
  · have e5 : x5 = 0 := e5
    refine lv_if_ne (tgt := 897) hx hb dL_law_882 (by decide) (fun c9 => absurd e5 c9) (fun _ => ?_)
    refine lv_aload_n hx hb dL_law_885 rfl (lv_at hl 5 rfl) ?_
    refine lv_iconst (v := 0) hx hb dL_law_886 (by decide) ?_
    refine va_lald hx hb hKJ hP 59 3 dd_first rfl (ix_in (i := 0) (n := 1) (by decide)) dL_law_887 ?_
    refine lv_iload hx hb dL_law_888 (lv_at hl 0 rfl) ?_
    refine lv_i2l hx hb dL_law_890 rfl ?_
    refine W.lcmp hx hb dL_law_891 ?_
    refine lv_if_eq (tgt := 897) hx hb dL_law_892 (by decide) (fun _ => ?_) (fun c9 => absurd (show lg_cmp r0.toInt64 bb.toInt64 = 0 by rw [hrb rfl]; exact law_self _) c9)
    refine lv_goto (tgt := 1594) hx hb dL_law_897 (by decide) ?_
    refine W.widen (k := k + 110) (n := n + 1000) (by omega) (by omega) ?_
    exact next sC2 sM2 _ _ _ _ hI2 hP hS (lv_sub hl [2, 3, 4, 5, 6] rfl)
  · have e5 : x5 = 1 := e5
    refine lv_if_ne (tgt := 897) hx hb dL_law_882 (by decide) (fun _ => ?_) (fun c9 => absurd (e5.symm.trans c9) (by decide))
    refine lv_goto (tgt := 1594) hx hb dL_law_897 (by decide) ?_
    refine W.widen (k := k + 110) (n := n + 1000) (by omega) (by omega) ?_
    exact next sC2 sM2 _ _ _ _ hI2 hP hS (lv_sub hl [2, 3, 4, 5, 6] rfl)
set_option maxHeartbeats 4000000 in
set_option maxRecDepth 100000 in
theorem law_swap {p : Program} {l : Launch} {e : Env} {s : State} {m : MethodId} {below : List Frame} {meth : Method} {c : Code} {b L : Nat} {xs : Nat → Int32} {Q : State → Prop} {g : dd_G} {cJ : ClassId} {ad adM : Nat → Nat} {qo : Nat} (hst : l.stackTraces = false) (hx : p.tables.exec = Jvm.exec) (hb : c.code = cL_law) (hml : c.maxLocals = 9) (hown : s.vm.findClass RL = some m.cls) (hts : ∀ w ∈ lw_all, w.before #[Value.ref b] s = true) (hX : va_X b L xs s s.heap) (hbl : b < s.heap.size) (hK : KC g s) (hKJ : KJ g cJ s) (hNC : NC s) (hXF : XF (lA s) s s.heap) (hD : ∀ (sC sM : dd_S) (o : Nat → Int64), va_D (lA s) (LW g ad cJ qo adM sC sM o)) {Inv : dd_S → dd_S → Prop} (h : PO_swap Inv) {sC sM : dd_S} {o : Nat → Int64} {H : Heap} {locs : List Loc} {ls : Array Slot} {k n i : Nat} (hI : Inv sC sM) (hi : 5 * i + 5 ≤ L) (hL : L ≤ 2560) (hk : k + 110 ≤ 601024) (hn : n + 1000 ≤ 7293034) (hP : va_P g.1 vwCl (LW g ad cJ qo adM sC sM o) H) (hS : va_S (lA s) s.heap H locs) (hl : lv_has ls 9 [(0, .ref b), (1, .ref (ad 30)), (2, .ref (adM 0)), (3, .ref qo), (4, .int (nI (5 * i)))]) (next : ∀ (sC2 sM2 : dd_S) (o2 : Nat → Int64) (H : Heap) (locs : List Loc) (ls : Array Slot), Inv sC2 sM2 → va_P g.1 vwCl (LW g ad cJ qo adM sC2 sM2 o2) H → va_S (lA s) s.heap H locs → lv_has ls 9 [(0, .ref b), (1, .ref (ad 30)), (2, .ref (adM 0)), (3, .ref qo), (4, .int (nI (5 * i)))] → W p l e room_1 s m #[Value.ref b] below meth c H locs (k + 110) (n + 1000) Q (F0 m 1594 ls [])) : W p l e room_1 s m #[Value.ref b] below meth c H locs k n Q (F0 m 913 ls []) := by
  obtain ⟨k0, r0, sC2, bb, sM2, hf, hk0, hq, hth, hrb, hI2⟩ := h sC sM (xs (nI (5 * i) + 1).toNatClampNeg) (xs (nI (5 * i) + 2).toNatClampNeg) (xs (nI (5 * i) + 3).toNatClampNeg) hI
  have hbA : ¬ lA s b := Nat.not_le.mpr hbl
  refine lv_aload_n hx hb dL_law_913 rfl (lv_at hl 1 rfl) ?_
  refine lv_aload_n hx hb dL_law_914 rfl (lv_at hl 0 rfl) ?_
  refine lv_iload hx hb dL_law_915 (lv_at hl 4 rfl) ?_
  refine lv_iconst (v := 1) hx hb dL_law_917 (by decide) ?_
  refine lv_iadd hx hb dL_law_918 ?_
  refine va_sld hx hb hX hbl hbA hS (law_in hi hL 1 (by decide) (nI_1 _)) dL_law_919 ?_
  refine lv_aload_n hx hb dL_law_920 rfl (lv_at hl 0 rfl) ?_
  refine lv_iload hx hb dL_law_921 (lv_at hl 4 rfl) ?_
  refine lv_iconst (v := 2) hx hb dL_law_923 (by decide) ?_
  refine lv_iadd hx hb dL_law_924 ?_
  refine va_sld hx hb hX hbl hbA hS (law_in hi hL 2 (by decide) (nI_add _ 2)) dL_law_925 ?_
  refine lv_aload_n hx hb dL_law_926 rfl (lv_at hl 0 rfl) ?_
  refine lv_iload hx hb dL_law_927 (lv_at hl 4 rfl) ?_
  refine lv_iconst (v := 3) hx hb dL_law_929 (by decide) ?_
  refine lv_iadd hx hb dL_law_930 ?_
  refine va_sld hx hb hX hbl hbA hS (law_in hi hL 3 (by decide) (nI_add _ 3)) dL_law_931 ?_
  refine lv_aload_n hx hb dL_law_932 rfl (lv_at hl 3 rfl) ?_
  refine cl_i (vx_runSW (As := [.ref (ad 30), .int (xs (nI (5 * i) + 1).toNatClampNeg), .int (xs (nI (5 * i) + 2).toNatClampNeg), .int (xs (nI (5 * i) + 3).toNatClampNeg), .ref qo]) (rest := []) ⟨hx, hb, hml, hown, hts⟩ (c_L_swap l hst g cJ ad (WM g adM sM) qo o _ sC (xs (nI (5 * i) + 1).toNatClampNeg) (xs (nI (5 * i) + 2).toNatClampNeg) (xs (nI (5 * i) + 3).toNatClampNeg) k0 r0 sC2 hf hk0) (vx_cwSW 5 hts glw_swap rfl rfl rfl ydl_swap ⟨Nat.le_of_ble_eq_true rfl, Nat.le_of_ble_eq_true rfl⟩) (preSL_of hK hP (hD sC sM o) (law_XF hXF hS (hD sC sM o)) hKJ hNC) rfl rfl hl.1 rfl (lv_room (Nat.le_of_ble_eq_true rfl)) dL_law_933 ⟨(show k + 0 + 1 ≤ 601024 by omega), (show n + 0 + 6 ≤ 7293034 by omega)⟩) hS (fun q h => law_A (hD sC sM o) hS.1 h) (fun q h => law_A (hD sC sM o) hS.1 h) (fun H locs hP hS => ?_)
  refine W.widen (k := k + 1) (n := n + 6) (by omega) (by omega) ?_
  refine lv_topi (fun x5 e5 => ?_)
  refine lv_istore (lv' := [(5, .int x5), (0, .ref b), (1, .ref (ad 30)), (2, .ref (adM 0)), (3, .ref qo), (4, .int (nI (5 * i)))]) hx hb dL_law_936 hl (by decide) rfl (fun ls hl => ?_)
  refine lv_aload_n hx hb dL_law_938 rfl (lv_at hl 3 rfl) ?_
  refine lv_aload_n hx hb dL_law_939 rfl (lv_at hl 1 rfl) ?_
  refine lv_iload hx hb dL_law_940 (lv_at hl 5 rfl) ?_
  refine lv_iconst (v := 1) hx hb dL_law_942 (by decide) ?_
  refine lv_iadd hx hb dL_law_943 ?_
  refine va_sld hx hb hX hbl hbA hS (law_in hi hL 1 (by decide) (nI_1 _)) dL_law_944 ?_
  refine lv_aload_n hx hb dL_law_945 rfl (lv_at hl 1 rfl) ?_
  refine lv_iload hx hb dL_law_946 (lv_at hl 5 rfl) ?_
  refine lv_iconst (v := 2) hx hb dL_law_948 (by decide) ?_
  refine lv_iadd hx hb dL_law_949 ?_
  refine va_sld hx hb hX hbl hbA hS (law_in hi hL 2 (by decide) (nI_add _ 2)) dL_law_950 ?_
  refine lv_aload_n hx hb dL_law_951 rfl (lv_at hl 1 rfl) ?_
  refine lv_iload hx hb dL_law_952 (lv_at hl 5 rfl) ?_
  refine lv_iconst (v := 3) hx hb dL_law_954 (by decide) ?_
  refine lv_iadd hx hb dL_law_955 ?_
  refine va_sld hx hb hX hbl hbA hS (law_in hi hL 3 (by decide) (nI_add _ 3)) dL_law_956 ?_
  have hP := P_rot hP
  have hD9 := D_rot (hD sC2 sM (if k0 = 0 then vp_updL o 0 r0.toInt64 else o))
  refine cl_i (va_runV (As := [.int (xs (nI (5 * i) + 1).toNatClampNeg), .int (xs (nI (5 * i) + 2).toNatClampNeg), .int (xs (nI (5 * i) + 3).toNatClampNeg)]) (rest := []) ⟨hx, hb, hml, hown, hts⟩ (c_X6_swap l g adM (WC g ad sC2 ++ [(qo, OutE cJ (if k0 = 0 then vp_updL o 0 r0.toInt64 else o))]) _ sM (xs (nI (5 * i) + 1).toNatClampNeg) (xs (nI (5 * i) + 2).toNatClampNeg) (xs (nI (5 * i) + 3).toNatClampNeg) bb sM2 hq) (cwV 3 hts gl_L_133 rfl rfl rfl yd_X6_swap ⟨Nat.le_of_ble_eq_true rfl, Nat.le_of_ble_eq_true rfl⟩) (preV_of hK hP (dd_D hD9) (dd_at (by decide) cm_0) rfl) rfl rfl hl.1 rfl (lv_room (Nat.le_of_ble_eq_true rfl)) dL_law_957 ⟨(show k + 1 + 0 ≤ 601024 by omega), (show n + 6 + 0 ≤ 7293034 by omega)⟩) hS (fun q h => law_A hD9 hS.1 h) (fun q h => law_A hD9 hS.1 h) (fun H locs hP hS => ?_)
  have hP := P_rot2 hP
  refine W.widen (k := k + 1) (n := n + 6) (by omega) (by omega) ?_
  refine lv_istore (lv' := [(6, .int bb), (5, .int x5), (0, .ref b), (1, .ref (ad 30)), (2, .ref (adM 0)), (3, .ref qo), (4, .int (nI (5 * i)))]) hx hb dL_law_960 hl (by decide) rfl (fun ls hl => ?_)
  refine lv_aload_n hx hb dL_law_962 rfl (lv_at hl 4 rfl) ?_
  have hP := P_rot hP
  have hD9 := D_rot (hD sC2 sM2 (if k0 = 0 then vp_updL o 0 r0.toInt64 else o))
  refine cl_i (va_runV (As := []) (rest := []) ⟨hx, hb, hml, hown, hts⟩ (c_X6_thrown l g adM (WC g ad sC2 ++ [(qo, OutE cJ (if k0 = 0 then vp_updL o 0 r0.toInt64 else o))]) _ sM2 (sM2 0 0) rfl) (cwV 0 hts gl_L_90 rfl rfl rfl yd_X6_thrown ⟨Nat.le_of_ble_eq_true rfl, Nat.le_of_ble_eq_true rfl⟩) (preV_of hK hP hD9 (dd_at (by decide) cm_0) rfl) rfl rfl hl.1 rfl (lv_room (Nat.le_of_ble_eq_true rfl)) dL_law_963 ⟨(show k + 1 + 0 ≤ 601024 by omega), (show n + 6 + 0 ≤ 7293034 by omega)⟩) hS (fun q h => law_A hD9 hS.1 h) (fun q h => law_A hD9 hS.1 h) (fun H locs hP hS => ?_)
  have hP := P_rot2 hP
  refine W.widen (k := k + 1) (n := n + 6) (by omega) (by omega) ?_
  refine lv_iload hx hb dL_law_966 (lv_at hl 1 rfl) ?_
  refine lv_icmp_eq (tgt := 973) hx hb dL_law_968 (by decide) (fun _ => ?_) (fun c9 => absurd (hth.trans e5.symm) c9)
  refine lv_iload hx hb dL_law_973 (lv_at hl 1 rfl) ?_
  rcases hk0 with rfl | rfl | rfl | rfl
  · have e5 : x5 = 0 := e5
    refine lv_if_ne (tgt := 990) hx hb dL_law_975 (by decide) (fun c9 => absurd e5 c9) (fun _ => ?_)
    refine lv_aload_n hx hb dL_law_978 rfl (lv_at hl 5 rfl) ?_
    refine lv_iconst (v := 0) hx hb dL_law_979 (by decide) ?_
    refine va_lald hx hb hKJ hP 59 3 dd_first rfl (ix_in (i := 0) (n := 1) (by decide)) dL_law_980 ?_
    refine lv_iload hx hb dL_law_981 (lv_at hl 0 rfl) ?_
    refine lv_i2l hx hb dL_law_983 rfl ?_
    refine W.lcmp hx hb dL_law_984 ?_
    refine lv_if_eq (tgt := 990) hx hb dL_law_985 (by decide) (fun _ => ?_) (fun c9 => absurd (show lg_cmp r0.toInt64 bb.toInt64 = 0 by rw [hrb rfl]; exact law_self _) c9)
    refine lv_goto (tgt := 1594) hx hb dL_law_990 (by decide) ?_
    refine W.widen (k := k + 110) (n := n + 1000) (by omega) (by omega) ?_
    exact next sC2 sM2 _ _ _ _ hI2 hP hS (lv_sub hl [2, 3, 4, 5, 6] rfl)
  · have e5 : x5 = 1 := e5
    refine lv_if_ne (tgt := 990) hx hb dL_law_975 (by decide) (fun _ => ?_) (fun c9 => absurd (e5.symm.trans c9) (by decide))
    refine lv_goto (tgt := 1594) hx hb dL_law_990 (by decide) ?_
    refine W.widen (k := k + 110) (n := n + 1000) (by omega) (by omega) ?_
    exact next sC2 sM2 _ _ _ _ hI2 hP hS (lv_sub hl [2, 3, 4, 5, 6] rfl)
  · have e5 : x5 = 2 := e5
    refine lv_if_ne (tgt := 990) hx hb dL_law_975 (by decide) (fun _ => ?_) (fun c9 => absurd (e5.symm.trans c9) (by decide))
    refine lv_goto (tgt := 1594) hx hb dL_law_990 (by decide) ?_
    refine W.widen (k := k + 110) (n := n + 1000) (by omega) (by omega) ?_
    exact next sC2 sM2 _ _ _ _ hI2 hP hS (lv_sub hl [2, 3, 4, 5, 6] rfl)
  · have e5 : x5 = 3 := e5
    refine lv_if_ne (tgt := 990) hx hb dL_law_975 (by decide) (fun _ => ?_) (fun c9 => absurd (e5.symm.trans c9) (by decide))
    refine lv_goto (tgt := 1594) hx hb dL_law_990 (by decide) ?_
    refine W.widen (k := k + 110) (n := n + 1000) (by omega) (by omega) ?_
    exact next sC2 sM2 _ _ _ _ hI2 hP hS (lv_sub hl [2, 3, 4, 5, 6] rfl)
set_option maxHeartbeats 4000000 in
set_option maxRecDepth 100000 in
theorem law_addDriver {p : Program} {l : Launch} {e : Env} {s : State} {m : MethodId} {below : List Frame} {meth : Method} {c : Code} {b L : Nat} {xs : Nat → Int32} {Q : State → Prop} {g : dd_G} {cJ : ClassId} {ad adM : Nat → Nat} {qo : Nat} (hst : l.stackTraces = false) (hx : p.tables.exec = Jvm.exec) (hb : c.code = cL_law) (hml : c.maxLocals = 9) (hown : s.vm.findClass RL = some m.cls) (hts : ∀ w ∈ lw_all, w.before #[Value.ref b] s = true) (hX : va_X b L xs s s.heap) (hbl : b < s.heap.size) (hK : KC g s) (hKJ : KJ g cJ s) (hNC : NC s) (hXF : XF (lA s) s s.heap) (hD : ∀ (sC sM : dd_S) (o : Nat → Int64), va_D (lA s) (LW g ad cJ qo adM sC sM o)) {Inv : dd_S → dd_S → Prop} (h : PO_addDriver Inv) {sC sM : dd_S} {o : Nat → Int64} {H : Heap} {locs : List Loc} {ls : Array Slot} {k n i : Nat} (hI : Inv sC sM) (hi : 5 * i + 5 ≤ L) (hL : L ≤ 2560) (hk : k + 110 ≤ 601024) (hn : n + 1000 ≤ 7293034) (hP : va_P g.1 vwCl (LW g ad cJ qo adM sC sM o) H) (hS : va_S (lA s) s.heap H locs) (hl : lv_has ls 9 [(0, .ref b), (1, .ref (ad 30)), (2, .ref (adM 0)), (3, .ref qo), (4, .int (nI (5 * i)))]) (next : ∀ (sC2 sM2 : dd_S) (o2 : Nat → Int64) (H : Heap) (locs : List Loc) (ls : Array Slot), Inv sC2 sM2 → va_P g.1 vwCl (LW g ad cJ qo adM sC2 sM2 o2) H → va_S (lA s) s.heap H locs → lv_has ls 9 [(0, .ref b), (1, .ref (ad 30)), (2, .ref (adM 0)), (3, .ref qo), (4, .int (nI (5 * i)))] → W p l e room_1 s m #[Value.ref b] below meth c H locs (k + 110) (n + 1000) Q (F0 m 1594 ls [])) : W p l e room_1 s m #[Value.ref b] below meth c H locs k n Q (F0 m 1060 ls []) := by
  obtain ⟨k0, r0, sC2, bb, sM2, hf, hk0, hq, hth, hrb, hI2⟩ := h sC sM hI
  have hbA : ¬ lA s b := Nat.not_le.mpr hbl
  refine lv_aload_n hx hb dL_law_1060 rfl (lv_at hl 1 rfl) ?_
  refine lv_aload_n hx hb dL_law_1061 rfl (lv_at hl 3 rfl) ?_
  refine cl_i (vx_runSW (As := [.ref (ad 30), .ref qo]) (rest := []) ⟨hx, hb, hml, hown, hts⟩ (c_L_addDriver l hst g cJ ad (WM g adM sM) qo o _ sC k0 r0 sC2 hf hk0) (vx_cwSW 2 hts glw_addDriver rfl rfl rfl ydl_addDriver ⟨Nat.le_of_ble_eq_true rfl, Nat.le_of_ble_eq_true rfl⟩) (preSL_of hK hP (hD sC sM o) (law_XF hXF hS (hD sC sM o)) hKJ hNC) rfl rfl hl.1 rfl (lv_room (Nat.le_of_ble_eq_true rfl)) dL_law_1062 ⟨(show k + 0 + 1 ≤ 601024 by omega), (show n + 0 + 6 ≤ 7293034 by omega)⟩) hS (fun q h => law_A (hD sC sM o) hS.1 h) (fun q h => law_A (hD sC sM o) hS.1 h) (fun H locs hP hS => ?_)
  refine W.widen (k := k + 1) (n := n + 6) (by omega) (by omega) ?_
  refine lv_topi (fun x5 e5 => ?_)
  refine lv_istore (lv' := [(5, .int x5), (0, .ref b), (1, .ref (ad 30)), (2, .ref (adM 0)), (3, .ref qo), (4, .int (nI (5 * i)))]) hx hb dL_law_1065 hl (by decide) rfl (fun ls hl => ?_)
  refine lv_aload_n hx hb dL_law_1067 rfl (lv_at hl 3 rfl) ?_
  have hP := P_rot hP
  have hD9 := D_rot (hD sC2 sM (if k0 = 0 then vp_updL o 0 r0.toInt64 else o))
  refine cl_i (va_runV (As := []) (rest := []) ⟨hx, hb, hml, hown, hts⟩ (c_X6_addDriver l g adM (WC g ad sC2 ++ [(qo, OutE cJ (if k0 = 0 then vp_updL o 0 r0.toInt64 else o))]) _ sM bb sM2 hq) (cwV 0 hts gl_L_149 rfl rfl rfl yd_X6_addDriver ⟨Nat.le_of_ble_eq_true rfl, Nat.le_of_ble_eq_true rfl⟩) (preV_of hK hP (dd_D hD9) (dd_at (by decide) cm_0) rfl) rfl rfl hl.1 rfl (lv_room (Nat.le_of_ble_eq_true rfl)) dL_law_1068 ⟨(show k + 1 + 0 ≤ 601024 by omega), (show n + 6 + 0 ≤ 7293034 by omega)⟩) hS (fun q h => law_A hD9 hS.1 h) (fun q h => law_A hD9 hS.1 h) (fun H locs hP hS => ?_)
  have hP := P_rot2 hP
  refine W.widen (k := k + 1) (n := n + 6) (by omega) (by omega) ?_
  refine lv_istore (lv' := [(6, .int bb), (5, .int x5), (0, .ref b), (1, .ref (ad 30)), (2, .ref (adM 0)), (3, .ref qo), (4, .int (nI (5 * i)))]) hx hb dL_law_1071 hl (by decide) rfl (fun ls hl => ?_)
  refine lv_aload_n hx hb dL_law_1073 rfl (lv_at hl 4 rfl) ?_
  have hP := P_rot hP
  have hD9 := D_rot (hD sC2 sM2 (if k0 = 0 then vp_updL o 0 r0.toInt64 else o))
  refine cl_i (va_runV (As := []) (rest := []) ⟨hx, hb, hml, hown, hts⟩ (c_X6_thrown l g adM (WC g ad sC2 ++ [(qo, OutE cJ (if k0 = 0 then vp_updL o 0 r0.toInt64 else o))]) _ sM2 (sM2 0 0) rfl) (cwV 0 hts gl_L_90 rfl rfl rfl yd_X6_thrown ⟨Nat.le_of_ble_eq_true rfl, Nat.le_of_ble_eq_true rfl⟩) (preV_of hK hP hD9 (dd_at (by decide) cm_0) rfl) rfl rfl hl.1 rfl (lv_room (Nat.le_of_ble_eq_true rfl)) dL_law_1074 ⟨(show k + 1 + 0 ≤ 601024 by omega), (show n + 6 + 0 ≤ 7293034 by omega)⟩) hS (fun q h => law_A hD9 hS.1 h) (fun q h => law_A hD9 hS.1 h) (fun H locs hP hS => ?_)
  have hP := P_rot2 hP
  refine W.widen (k := k + 1) (n := n + 6) (by omega) (by omega) ?_
  refine lv_iload hx hb dL_law_1077 (lv_at hl 1 rfl) ?_
  refine lv_icmp_eq (tgt := 1084) hx hb dL_law_1079 (by decide) (fun _ => ?_) (fun c9 => absurd (hth.trans e5.symm) c9)
  refine lv_iload hx hb dL_law_1084 (lv_at hl 1 rfl) ?_
  rcases hk0 with rfl | rfl
  · have e5 : x5 = 0 := e5
    refine lv_if_ne (tgt := 1101) hx hb dL_law_1086 (by decide) (fun c9 => absurd e5 c9) (fun _ => ?_)
    refine lv_aload_n hx hb dL_law_1089 rfl (lv_at hl 5 rfl) ?_
    refine lv_iconst (v := 0) hx hb dL_law_1090 (by decide) ?_
    refine va_lald hx hb hKJ hP 59 3 dd_first rfl (ix_in (i := 0) (n := 1) (by decide)) dL_law_1091 ?_
    refine lv_iload hx hb dL_law_1092 (lv_at hl 0 rfl) ?_
    refine lv_i2l hx hb dL_law_1094 rfl ?_
    refine W.lcmp hx hb dL_law_1095 ?_
    refine lv_if_eq (tgt := 1101) hx hb dL_law_1096 (by decide) (fun _ => ?_) (fun c9 => absurd (show lg_cmp r0.toInt64 bb.toInt64 = 0 by rw [hrb rfl]; exact law_self _) c9)
    refine lv_goto (tgt := 1594) hx hb dL_law_1101 (by decide) ?_
    refine W.widen (k := k + 110) (n := n + 1000) (by omega) (by omega) ?_
    exact next sC2 sM2 _ _ _ _ hI2 hP hS (lv_sub hl [2, 3, 4, 5, 6] rfl)
  · have e5 : x5 = 1 := e5
    refine lv_if_ne (tgt := 1101) hx hb dL_law_1086 (by decide) (fun _ => ?_) (fun c9 => absurd (e5.symm.trans c9) (by decide))
    refine lv_goto (tgt := 1594) hx hb dL_law_1101 (by decide) ?_
    refine W.widen (k := k + 110) (n := n + 1000) (by omega) (by omega) ?_
    exact next sC2 sM2 _ _ _ _ hI2 hP hS (lv_sub hl [2, 3, 4, 5, 6] rfl)
set_option maxHeartbeats 4000000 in
set_option maxRecDepth 100000 in
theorem law_reason {p : Program} {l : Launch} {e : Env} {s : State} {m : MethodId} {below : List Frame} {meth : Method} {c : Code} {b L : Nat} {xs : Nat → Int32} {Q : State → Prop} {g : dd_G} {cJ : ClassId} {ad adM : Nat → Nat} {qo : Nat} (hst : l.stackTraces = false) (hx : p.tables.exec = Jvm.exec) (hb : c.code = cL_law) (hml : c.maxLocals = 9) (hown : s.vm.findClass RL = some m.cls) (hts : ∀ w ∈ lw_all, w.before #[Value.ref b] s = true) (hX : va_X b L xs s s.heap) (hbl : b < s.heap.size) (hK : KC g s) (hKJ : KJ g cJ s) (hNC : NC s) (hXF : XF (lA s) s s.heap) (hD : ∀ (sC sM : dd_S) (o : Nat → Int64), va_D (lA s) (LW g ad cJ qo adM sC sM o)) {Inv : dd_S → dd_S → Prop} (h : PO_reason Inv) {sC sM : dd_S} {o : Nat → Int64} {H : Heap} {locs : List Loc} {ls : Array Slot} {k n i : Nat} (hI : Inv sC sM) (hi : 5 * i + 5 ≤ L) (hL : L ≤ 2560) (hk : k + 110 ≤ 601024) (hn : n + 1000 ≤ 7293034) (hP : va_P g.1 vwCl (LW g ad cJ qo adM sC sM o) H) (hS : va_S (lA s) s.heap H locs) (hl : lv_has ls 9 [(0, .ref b), (1, .ref (ad 30)), (2, .ref (adM 0)), (3, .ref qo), (4, .int (nI (5 * i)))]) (next : ∀ (sC2 sM2 : dd_S) (o2 : Nat → Int64) (H : Heap) (locs : List Loc) (ls : Array Slot), Inv sC2 sM2 → va_P g.1 vwCl (LW g ad cJ qo adM sC2 sM2 o2) H → va_S (lA s) s.heap H locs → lv_has ls 9 [(0, .ref b), (1, .ref (ad 30)), (2, .ref (adM 0)), (3, .ref qo), (4, .int (nI (5 * i)))] → W p l e room_1 s m #[Value.ref b] below meth c H locs (k + 110) (n + 1000) Q (F0 m 1594 ls [])) : W p l e room_1 s m #[Value.ref b] below meth c H locs k n Q (F0 m 1104 ls []) := by
  obtain ⟨k0, r0, sC2, bb, sM2, hf, hk0, hq, hth, hrb, hI2⟩ := h sC sM (xs (nI (5 * i) + 1).toNatClampNeg) (xs (nI (5 * i) + 2).toNatClampNeg) (xs (nI (5 * i) + 3).toNatClampNeg) hI
  have hbA : ¬ lA s b := Nat.not_le.mpr hbl
  refine lv_aload_n hx hb dL_law_1104 rfl (lv_at hl 1 rfl) ?_
  refine lv_aload_n hx hb dL_law_1105 rfl (lv_at hl 0 rfl) ?_
  refine lv_iload hx hb dL_law_1106 (lv_at hl 4 rfl) ?_
  refine lv_iconst (v := 1) hx hb dL_law_1108 (by decide) ?_
  refine lv_iadd hx hb dL_law_1109 ?_
  refine va_sld hx hb hX hbl hbA hS (law_in hi hL 1 (by decide) (nI_1 _)) dL_law_1110 ?_
  refine lv_aload_n hx hb dL_law_1111 rfl (lv_at hl 0 rfl) ?_
  refine lv_iload hx hb dL_law_1112 (lv_at hl 4 rfl) ?_
  refine lv_iconst (v := 2) hx hb dL_law_1114 (by decide) ?_
  refine lv_iadd hx hb dL_law_1115 ?_
  refine va_sld hx hb hX hbl hbA hS (law_in hi hL 2 (by decide) (nI_add _ 2)) dL_law_1116 ?_
  refine lv_aload_n hx hb dL_law_1117 rfl (lv_at hl 0 rfl) ?_
  refine lv_iload hx hb dL_law_1118 (lv_at hl 4 rfl) ?_
  refine lv_iconst (v := 3) hx hb dL_law_1120 (by decide) ?_
  refine lv_iadd hx hb dL_law_1121 ?_
  refine va_sld hx hb hX hbl hbA hS (law_in hi hL 3 (by decide) (nI_add _ 3)) dL_law_1122 ?_
  refine lv_aload_n hx hb dL_law_1123 rfl (lv_at hl 3 rfl) ?_
  refine cl_i (vx_runSW (As := [.ref (ad 30), .int (xs (nI (5 * i) + 1).toNatClampNeg), .int (xs (nI (5 * i) + 2).toNatClampNeg), .int (xs (nI (5 * i) + 3).toNatClampNeg), .ref qo]) (rest := []) ⟨hx, hb, hml, hown, hts⟩ (c_L_reason l hst g cJ ad (WM g adM sM) qo o _ sC (xs (nI (5 * i) + 1).toNatClampNeg) (xs (nI (5 * i) + 2).toNatClampNeg) (xs (nI (5 * i) + 3).toNatClampNeg) k0 r0 sC2 hf hk0) (vx_cwSW 5 hts glw_reason rfl rfl rfl ydl_reason ⟨Nat.le_of_ble_eq_true rfl, Nat.le_of_ble_eq_true rfl⟩) (preSL_of hK hP (hD sC sM o) (law_XF hXF hS (hD sC sM o)) hKJ hNC) rfl rfl hl.1 rfl (lv_room (Nat.le_of_ble_eq_true rfl)) dL_law_1124 ⟨(show k + 0 + 1 ≤ 601024 by omega), (show n + 0 + 6 ≤ 7293034 by omega)⟩) hS (fun q h => law_A (hD sC sM o) hS.1 h) (fun q h => law_A (hD sC sM o) hS.1 h) (fun H locs hP hS => ?_)
  refine W.widen (k := k + 1) (n := n + 6) (by omega) (by omega) ?_
  refine lv_topi (fun x5 e5 => ?_)
  refine lv_istore (lv' := [(5, .int x5), (0, .ref b), (1, .ref (ad 30)), (2, .ref (adM 0)), (3, .ref qo), (4, .int (nI (5 * i)))]) hx hb dL_law_1127 hl (by decide) rfl (fun ls hl => ?_)
  refine lv_aload_n hx hb dL_law_1129 rfl (lv_at hl 3 rfl) ?_
  refine lv_aload_n hx hb dL_law_1130 rfl (lv_at hl 1 rfl) ?_
  refine lv_iload hx hb dL_law_1131 (lv_at hl 5 rfl) ?_
  refine lv_iconst (v := 1) hx hb dL_law_1133 (by decide) ?_
  refine lv_iadd hx hb dL_law_1134 ?_
  refine va_sld hx hb hX hbl hbA hS (law_in hi hL 1 (by decide) (nI_1 _)) dL_law_1135 ?_
  refine lv_aload_n hx hb dL_law_1136 rfl (lv_at hl 1 rfl) ?_
  refine lv_iload hx hb dL_law_1137 (lv_at hl 5 rfl) ?_
  refine lv_iconst (v := 2) hx hb dL_law_1139 (by decide) ?_
  refine lv_iadd hx hb dL_law_1140 ?_
  refine va_sld hx hb hX hbl hbA hS (law_in hi hL 2 (by decide) (nI_add _ 2)) dL_law_1141 ?_
  refine lv_aload_n hx hb dL_law_1142 rfl (lv_at hl 1 rfl) ?_
  refine lv_iload hx hb dL_law_1143 (lv_at hl 5 rfl) ?_
  refine lv_iconst (v := 3) hx hb dL_law_1145 (by decide) ?_
  refine lv_iadd hx hb dL_law_1146 ?_
  refine va_sld hx hb hX hbl hbA hS (law_in hi hL 3 (by decide) (nI_add _ 3)) dL_law_1147 ?_
  have hP := P_rot hP
  have hD9 := D_rot (hD sC2 sM (if k0 = 0 then vp_updL o 0 r0.toInt64 else o))
  refine cl_i (va_runV (As := [.int (xs (nI (5 * i) + 1).toNatClampNeg), .int (xs (nI (5 * i) + 2).toNatClampNeg), .int (xs (nI (5 * i) + 3).toNatClampNeg)]) (rest := []) ⟨hx, hb, hml, hown, hts⟩ (c_X6_reason l g adM (WC g ad sC2 ++ [(qo, OutE cJ (if k0 = 0 then vp_updL o 0 r0.toInt64 else o))]) _ sM (xs (nI (5 * i) + 1).toNatClampNeg) (xs (nI (5 * i) + 2).toNatClampNeg) (xs (nI (5 * i) + 3).toNatClampNeg) bb sM2 hq) (cwV 3 hts gl_L_152 rfl rfl rfl yd_X6_reason ⟨Nat.le_of_ble_eq_true rfl, Nat.le_of_ble_eq_true rfl⟩) (preV_of hK hP (dd_D hD9) (dd_at (by decide) cm_0) rfl) rfl rfl hl.1 rfl (lv_room (Nat.le_of_ble_eq_true rfl)) dL_law_1148 ⟨(show k + 1 + 0 ≤ 601024 by omega), (show n + 6 + 0 ≤ 7293034 by omega)⟩) hS (fun q h => law_A hD9 hS.1 h) (fun q h => law_A hD9 hS.1 h) (fun H locs hP hS => ?_)
  have hP := P_rot2 hP
  refine W.widen (k := k + 1) (n := n + 6) (by omega) (by omega) ?_
  refine lv_istore (lv' := [(6, .int bb), (5, .int x5), (0, .ref b), (1, .ref (ad 30)), (2, .ref (adM 0)), (3, .ref qo), (4, .int (nI (5 * i)))]) hx hb dL_law_1151 hl (by decide) rfl (fun ls hl => ?_)
  refine lv_aload_n hx hb dL_law_1153 rfl (lv_at hl 4 rfl) ?_
  have hP := P_rot hP
  have hD9 := D_rot (hD sC2 sM2 (if k0 = 0 then vp_updL o 0 r0.toInt64 else o))
  refine cl_i (va_runV (As := []) (rest := []) ⟨hx, hb, hml, hown, hts⟩ (c_X6_thrown l g adM (WC g ad sC2 ++ [(qo, OutE cJ (if k0 = 0 then vp_updL o 0 r0.toInt64 else o))]) _ sM2 (sM2 0 0) rfl) (cwV 0 hts gl_L_90 rfl rfl rfl yd_X6_thrown ⟨Nat.le_of_ble_eq_true rfl, Nat.le_of_ble_eq_true rfl⟩) (preV_of hK hP hD9 (dd_at (by decide) cm_0) rfl) rfl rfl hl.1 rfl (lv_room (Nat.le_of_ble_eq_true rfl)) dL_law_1154 ⟨(show k + 1 + 0 ≤ 601024 by omega), (show n + 6 + 0 ≤ 7293034 by omega)⟩) hS (fun q h => law_A hD9 hS.1 h) (fun q h => law_A hD9 hS.1 h) (fun H locs hP hS => ?_)
  have hP := P_rot2 hP
  refine W.widen (k := k + 1) (n := n + 6) (by omega) (by omega) ?_
  refine lv_iload hx hb dL_law_1157 (lv_at hl 1 rfl) ?_
  refine lv_icmp_eq (tgt := 1164) hx hb dL_law_1159 (by decide) (fun _ => ?_) (fun c9 => absurd (hth.trans e5.symm) c9)
  refine lv_iload hx hb dL_law_1164 (lv_at hl 1 rfl) ?_
  rcases hk0 with rfl | rfl
  · have e5 : x5 = 0 := e5
    refine lv_if_ne (tgt := 1181) hx hb dL_law_1166 (by decide) (fun c9 => absurd e5 c9) (fun _ => ?_)
    refine lv_aload_n hx hb dL_law_1169 rfl (lv_at hl 5 rfl) ?_
    refine lv_iconst (v := 0) hx hb dL_law_1170 (by decide) ?_
    refine va_lald hx hb hKJ hP 59 3 dd_first rfl (ix_in (i := 0) (n := 1) (by decide)) dL_law_1171 ?_
    refine lv_iload hx hb dL_law_1172 (lv_at hl 0 rfl) ?_
    refine lv_i2l hx hb dL_law_1174 rfl ?_
    refine W.lcmp hx hb dL_law_1175 ?_
    refine lv_if_eq (tgt := 1181) hx hb dL_law_1176 (by decide) (fun _ => ?_) (fun c9 => absurd (show lg_cmp r0.toInt64 bb.toInt64 = 0 by rw [hrb rfl]; exact law_self _) c9)
    refine lv_goto (tgt := 1594) hx hb dL_law_1181 (by decide) ?_
    refine W.widen (k := k + 110) (n := n + 1000) (by omega) (by omega) ?_
    exact next sC2 sM2 _ _ _ _ hI2 hP hS (lv_sub hl [2, 3, 4, 5, 6] rfl)
  · have e5 : x5 = 1 := e5
    refine lv_if_ne (tgt := 1181) hx hb dL_law_1166 (by decide) (fun _ => ?_) (fun c9 => absurd (e5.symm.trans c9) (by decide))
    refine lv_goto (tgt := 1594) hx hb dL_law_1181 (by decide) ?_
    refine W.widen (k := k + 110) (n := n + 1000) (by omega) (by omega) ?_
    exact next sC2 sM2 _ _ _ _ hI2 hP hS (lv_sub hl [2, 3, 4, 5, 6] rfl)
set_option maxHeartbeats 4000000 in
set_option maxRecDepth 100000 in
theorem law_give {p : Program} {l : Launch} {e : Env} {s : State} {m : MethodId} {below : List Frame} {meth : Method} {c : Code} {b L : Nat} {xs : Nat → Int32} {Q : State → Prop} {g : dd_G} {cJ : ClassId} {ad adM : Nat → Nat} {qo : Nat} (hst : l.stackTraces = false) (hx : p.tables.exec = Jvm.exec) (hb : c.code = cL_law) (hml : c.maxLocals = 9) (hown : s.vm.findClass RL = some m.cls) (hts : ∀ w ∈ lw_all, w.before #[Value.ref b] s = true) (hX : va_X b L xs s s.heap) (hbl : b < s.heap.size) (hK : KC g s) (hKJ : KJ g cJ s) (hNC : NC s) (hXF : XF (lA s) s s.heap) (hD : ∀ (sC sM : dd_S) (o : Nat → Int64), va_D (lA s) (LW g ad cJ qo adM sC sM o)) {Inv : dd_S → dd_S → Prop} (h : PO_give Inv) {sC sM : dd_S} {o : Nat → Int64} {H : Heap} {locs : List Loc} {ls : Array Slot} {k n i : Nat} (hI : Inv sC sM) (hi : 5 * i + 5 ≤ L) (hL : L ≤ 2560) (hk : k + 110 ≤ 601024) (hn : n + 1000 ≤ 7293034) (hP : va_P g.1 vwCl (LW g ad cJ qo adM sC sM o) H) (hS : va_S (lA s) s.heap H locs) (hl : lv_has ls 9 [(0, .ref b), (1, .ref (ad 30)), (2, .ref (adM 0)), (3, .ref qo), (4, .int (nI (5 * i)))]) (next : ∀ (sC2 sM2 : dd_S) (o2 : Nat → Int64) (H : Heap) (locs : List Loc) (ls : Array Slot), Inv sC2 sM2 → va_P g.1 vwCl (LW g ad cJ qo adM sC2 sM2 o2) H → va_S (lA s) s.heap H locs → lv_has ls 9 [(0, .ref b), (1, .ref (ad 30)), (2, .ref (adM 0)), (3, .ref qo), (4, .int (nI (5 * i)))] → W p l e room_1 s m #[Value.ref b] below meth c H locs (k + 110) (n + 1000) Q (F0 m 1594 ls [])) : W p l e room_1 s m #[Value.ref b] below meth c H locs k n Q (F0 m 1184 ls []) := by
  obtain ⟨k0, r0, sC2, bb, sM2, hf, hk0, hq, hth, hrb, hI2⟩ := h sC sM (xs (nI (5 * i) + 1).toNatClampNeg) (xs (nI (5 * i) + 2).toNatClampNeg) (xs (nI (5 * i) + 3).toNatClampNeg) hI
  have hbA : ¬ lA s b := Nat.not_le.mpr hbl
  refine lv_aload_n hx hb dL_law_1184 rfl (lv_at hl 1 rfl) ?_
  refine lv_aload_n hx hb dL_law_1185 rfl (lv_at hl 0 rfl) ?_
  refine lv_iload hx hb dL_law_1186 (lv_at hl 4 rfl) ?_
  refine lv_iconst (v := 1) hx hb dL_law_1188 (by decide) ?_
  refine lv_iadd hx hb dL_law_1189 ?_
  refine va_sld hx hb hX hbl hbA hS (law_in hi hL 1 (by decide) (nI_1 _)) dL_law_1190 ?_
  refine lv_aload_n hx hb dL_law_1191 rfl (lv_at hl 0 rfl) ?_
  refine lv_iload hx hb dL_law_1192 (lv_at hl 4 rfl) ?_
  refine lv_iconst (v := 2) hx hb dL_law_1194 (by decide) ?_
  refine lv_iadd hx hb dL_law_1195 ?_
  refine va_sld hx hb hX hbl hbA hS (law_in hi hL 2 (by decide) (nI_add _ 2)) dL_law_1196 ?_
  refine lv_aload_n hx hb dL_law_1197 rfl (lv_at hl 0 rfl) ?_
  refine lv_iload hx hb dL_law_1198 (lv_at hl 4 rfl) ?_
  refine lv_iconst (v := 3) hx hb dL_law_1200 (by decide) ?_
  refine lv_iadd hx hb dL_law_1201 ?_
  refine va_sld hx hb hX hbl hbA hS (law_in hi hL 3 (by decide) (nI_add _ 3)) dL_law_1202 ?_
  refine lv_aload_n hx hb dL_law_1203 rfl (lv_at hl 3 rfl) ?_
  refine cl_i (vx_runSW (As := [.ref (ad 30), .int (xs (nI (5 * i) + 1).toNatClampNeg), .int (xs (nI (5 * i) + 2).toNatClampNeg), .int (xs (nI (5 * i) + 3).toNatClampNeg), .ref qo]) (rest := []) ⟨hx, hb, hml, hown, hts⟩ (c_L_give l hst g cJ ad (WM g adM sM) qo o _ sC (xs (nI (5 * i) + 1).toNatClampNeg) (xs (nI (5 * i) + 2).toNatClampNeg) (xs (nI (5 * i) + 3).toNatClampNeg) k0 r0 sC2 hf hk0) (vx_cwSW 5 hts glw_give rfl rfl rfl ydl_give ⟨Nat.le_of_ble_eq_true rfl, Nat.le_of_ble_eq_true rfl⟩) (preSL_of hK hP (hD sC sM o) (law_XF hXF hS (hD sC sM o)) hKJ hNC) rfl rfl hl.1 rfl (lv_room (Nat.le_of_ble_eq_true rfl)) dL_law_1204 ⟨(show k + 0 + 1 ≤ 601024 by omega), (show n + 0 + 6 ≤ 7293034 by omega)⟩) hS (fun q h => law_A (hD sC sM o) hS.1 h) (fun q h => law_A (hD sC sM o) hS.1 h) (fun H locs hP hS => ?_)
  refine W.widen (k := k + 1) (n := n + 6) (by omega) (by omega) ?_
  refine lv_topi (fun x5 e5 => ?_)
  refine lv_istore (lv' := [(5, .int x5), (0, .ref b), (1, .ref (ad 30)), (2, .ref (adM 0)), (3, .ref qo), (4, .int (nI (5 * i)))]) hx hb dL_law_1207 hl (by decide) rfl (fun ls hl => ?_)
  refine lv_aload_n hx hb dL_law_1209 rfl (lv_at hl 3 rfl) ?_
  refine lv_aload_n hx hb dL_law_1210 rfl (lv_at hl 1 rfl) ?_
  refine lv_iload hx hb dL_law_1211 (lv_at hl 5 rfl) ?_
  refine lv_iconst (v := 1) hx hb dL_law_1213 (by decide) ?_
  refine lv_iadd hx hb dL_law_1214 ?_
  refine va_sld hx hb hX hbl hbA hS (law_in hi hL 1 (by decide) (nI_1 _)) dL_law_1215 ?_
  refine lv_aload_n hx hb dL_law_1216 rfl (lv_at hl 1 rfl) ?_
  refine lv_iload hx hb dL_law_1217 (lv_at hl 5 rfl) ?_
  refine lv_iconst (v := 2) hx hb dL_law_1219 (by decide) ?_
  refine lv_iadd hx hb dL_law_1220 ?_
  refine va_sld hx hb hX hbl hbA hS (law_in hi hL 2 (by decide) (nI_add _ 2)) dL_law_1221 ?_
  refine lv_aload_n hx hb dL_law_1222 rfl (lv_at hl 1 rfl) ?_
  refine lv_iload hx hb dL_law_1223 (lv_at hl 5 rfl) ?_
  refine lv_iconst (v := 3) hx hb dL_law_1225 (by decide) ?_
  refine lv_iadd hx hb dL_law_1226 ?_
  refine va_sld hx hb hX hbl hbA hS (law_in hi hL 3 (by decide) (nI_add _ 3)) dL_law_1227 ?_
  have hP := P_rot hP
  have hD9 := D_rot (hD sC2 sM (if k0 = 0 then vp_updL o 0 r0.toInt64 else o))
  refine cl_i (va_runV (As := [.int (xs (nI (5 * i) + 1).toNatClampNeg), .int (xs (nI (5 * i) + 2).toNatClampNeg), .int (xs (nI (5 * i) + 3).toNatClampNeg)]) (rest := []) ⟨hx, hb, hml, hown, hts⟩ (c_X6_give l g adM (WC g ad sC2 ++ [(qo, OutE cJ (if k0 = 0 then vp_updL o 0 r0.toInt64 else o))]) _ sM (xs (nI (5 * i) + 1).toNatClampNeg) (xs (nI (5 * i) + 2).toNatClampNeg) (xs (nI (5 * i) + 3).toNatClampNeg) bb sM2 hq) (cwV 3 hts gl_L_155 rfl rfl rfl yd_X6_give ⟨Nat.le_of_ble_eq_true rfl, Nat.le_of_ble_eq_true rfl⟩) (preV_of hK hP (dd_D hD9) (dd_at (by decide) cm_0) rfl) rfl rfl hl.1 rfl (lv_room (Nat.le_of_ble_eq_true rfl)) dL_law_1228 ⟨(show k + 1 + 0 ≤ 601024 by omega), (show n + 6 + 0 ≤ 7293034 by omega)⟩) hS (fun q h => law_A hD9 hS.1 h) (fun q h => law_A hD9 hS.1 h) (fun H locs hP hS => ?_)
  have hP := P_rot2 hP
  refine W.widen (k := k + 1) (n := n + 6) (by omega) (by omega) ?_
  refine lv_istore (lv' := [(6, .int bb), (5, .int x5), (0, .ref b), (1, .ref (ad 30)), (2, .ref (adM 0)), (3, .ref qo), (4, .int (nI (5 * i)))]) hx hb dL_law_1231 hl (by decide) rfl (fun ls hl => ?_)
  refine lv_aload_n hx hb dL_law_1233 rfl (lv_at hl 4 rfl) ?_
  have hP := P_rot hP
  have hD9 := D_rot (hD sC2 sM2 (if k0 = 0 then vp_updL o 0 r0.toInt64 else o))
  refine cl_i (va_runV (As := []) (rest := []) ⟨hx, hb, hml, hown, hts⟩ (c_X6_thrown l g adM (WC g ad sC2 ++ [(qo, OutE cJ (if k0 = 0 then vp_updL o 0 r0.toInt64 else o))]) _ sM2 (sM2 0 0) rfl) (cwV 0 hts gl_L_90 rfl rfl rfl yd_X6_thrown ⟨Nat.le_of_ble_eq_true rfl, Nat.le_of_ble_eq_true rfl⟩) (preV_of hK hP hD9 (dd_at (by decide) cm_0) rfl) rfl rfl hl.1 rfl (lv_room (Nat.le_of_ble_eq_true rfl)) dL_law_1234 ⟨(show k + 1 + 0 ≤ 601024 by omega), (show n + 6 + 0 ≤ 7293034 by omega)⟩) hS (fun q h => law_A hD9 hS.1 h) (fun q h => law_A hD9 hS.1 h) (fun H locs hP hS => ?_)
  have hP := P_rot2 hP
  refine W.widen (k := k + 1) (n := n + 6) (by omega) (by omega) ?_
  refine lv_iload hx hb dL_law_1237 (lv_at hl 1 rfl) ?_
  refine lv_icmp_eq (tgt := 1244) hx hb dL_law_1239 (by decide) (fun _ => ?_) (fun c9 => absurd (hth.trans e5.symm) c9)
  refine lv_iload hx hb dL_law_1244 (lv_at hl 1 rfl) ?_
  rcases hk0 with rfl | rfl | rfl
  · have e5 : x5 = 0 := e5
    refine lv_if_ne (tgt := 1261) hx hb dL_law_1246 (by decide) (fun c9 => absurd e5 c9) (fun _ => ?_)
    refine lv_aload_n hx hb dL_law_1249 rfl (lv_at hl 5 rfl) ?_
    refine lv_iconst (v := 0) hx hb dL_law_1250 (by decide) ?_
    refine va_lald hx hb hKJ hP 59 3 dd_first rfl (ix_in (i := 0) (n := 1) (by decide)) dL_law_1251 ?_
    refine lv_iload hx hb dL_law_1252 (lv_at hl 0 rfl) ?_
    refine lv_i2l hx hb dL_law_1254 rfl ?_
    refine W.lcmp hx hb dL_law_1255 ?_
    refine lv_if_eq (tgt := 1261) hx hb dL_law_1256 (by decide) (fun _ => ?_) (fun c9 => absurd (show lg_cmp r0.toInt64 bb.toInt64 = 0 by rw [hrb rfl]; exact law_self _) c9)
    refine lv_goto (tgt := 1594) hx hb dL_law_1261 (by decide) ?_
    refine W.widen (k := k + 110) (n := n + 1000) (by omega) (by omega) ?_
    exact next sC2 sM2 _ _ _ _ hI2 hP hS (lv_sub hl [2, 3, 4, 5, 6] rfl)
  · have e5 : x5 = 1 := e5
    refine lv_if_ne (tgt := 1261) hx hb dL_law_1246 (by decide) (fun _ => ?_) (fun c9 => absurd (e5.symm.trans c9) (by decide))
    refine lv_goto (tgt := 1594) hx hb dL_law_1261 (by decide) ?_
    refine W.widen (k := k + 110) (n := n + 1000) (by omega) (by omega) ?_
    exact next sC2 sM2 _ _ _ _ hI2 hP hS (lv_sub hl [2, 3, 4, 5, 6] rfl)
  · have e5 : x5 = 2 := e5
    refine lv_if_ne (tgt := 1261) hx hb dL_law_1246 (by decide) (fun _ => ?_) (fun c9 => absurd (e5.symm.trans c9) (by decide))
    refine lv_goto (tgt := 1594) hx hb dL_law_1261 (by decide) ?_
    refine W.widen (k := k + 110) (n := n + 1000) (by omega) (by omega) ?_
    exact next sC2 sM2 _ _ _ _ hI2 hP hS (lv_sub hl [2, 3, 4, 5, 6] rfl)
set_option maxHeartbeats 4000000 in
set_option maxRecDepth 100000 in
theorem law_takeBack {p : Program} {l : Launch} {e : Env} {s : State} {m : MethodId} {below : List Frame} {meth : Method} {c : Code} {b L : Nat} {xs : Nat → Int32} {Q : State → Prop} {g : dd_G} {cJ : ClassId} {ad adM : Nat → Nat} {qo : Nat} (hst : l.stackTraces = false) (hx : p.tables.exec = Jvm.exec) (hb : c.code = cL_law) (hml : c.maxLocals = 9) (hown : s.vm.findClass RL = some m.cls) (hts : ∀ w ∈ lw_all, w.before #[Value.ref b] s = true) (hX : va_X b L xs s s.heap) (hbl : b < s.heap.size) (hK : KC g s) (hKJ : KJ g cJ s) (hNC : NC s) (hXF : XF (lA s) s s.heap) (hD : ∀ (sC sM : dd_S) (o : Nat → Int64), va_D (lA s) (LW g ad cJ qo adM sC sM o)) {Inv : dd_S → dd_S → Prop} (h : PO_takeBack Inv) {sC sM : dd_S} {o : Nat → Int64} {H : Heap} {locs : List Loc} {ls : Array Slot} {k n i : Nat} (hI : Inv sC sM) (hi : 5 * i + 5 ≤ L) (hL : L ≤ 2560) (hk : k + 110 ≤ 601024) (hn : n + 1000 ≤ 7293034) (hP : va_P g.1 vwCl (LW g ad cJ qo adM sC sM o) H) (hS : va_S (lA s) s.heap H locs) (hl : lv_has ls 9 [(0, .ref b), (1, .ref (ad 30)), (2, .ref (adM 0)), (3, .ref qo), (4, .int (nI (5 * i)))]) (next : ∀ (sC2 sM2 : dd_S) (o2 : Nat → Int64) (H : Heap) (locs : List Loc) (ls : Array Slot), Inv sC2 sM2 → va_P g.1 vwCl (LW g ad cJ qo adM sC2 sM2 o2) H → va_S (lA s) s.heap H locs → lv_has ls 9 [(0, .ref b), (1, .ref (ad 30)), (2, .ref (adM 0)), (3, .ref qo), (4, .int (nI (5 * i)))] → W p l e room_1 s m #[Value.ref b] below meth c H locs (k + 110) (n + 1000) Q (F0 m 1594 ls [])) : W p l e room_1 s m #[Value.ref b] below meth c H locs k n Q (F0 m 1264 ls []) := by
  obtain ⟨k0, r0, sC2, bb, sM2, hf, hk0, hq, hth, hrb, hI2⟩ := h sC sM (xs (nI (5 * i) + 1).toNatClampNeg) (xs (nI (5 * i) + 2).toNatClampNeg) hI
  have hbA : ¬ lA s b := Nat.not_le.mpr hbl
  refine lv_aload_n hx hb dL_law_1264 rfl (lv_at hl 1 rfl) ?_
  refine lv_aload_n hx hb dL_law_1265 rfl (lv_at hl 0 rfl) ?_
  refine lv_iload hx hb dL_law_1266 (lv_at hl 4 rfl) ?_
  refine lv_iconst (v := 1) hx hb dL_law_1268 (by decide) ?_
  refine lv_iadd hx hb dL_law_1269 ?_
  refine va_sld hx hb hX hbl hbA hS (law_in hi hL 1 (by decide) (nI_1 _)) dL_law_1270 ?_
  refine lv_aload_n hx hb dL_law_1271 rfl (lv_at hl 0 rfl) ?_
  refine lv_iload hx hb dL_law_1272 (lv_at hl 4 rfl) ?_
  refine lv_iconst (v := 2) hx hb dL_law_1274 (by decide) ?_
  refine lv_iadd hx hb dL_law_1275 ?_
  refine va_sld hx hb hX hbl hbA hS (law_in hi hL 2 (by decide) (nI_add _ 2)) dL_law_1276 ?_
  refine lv_aload_n hx hb dL_law_1277 rfl (lv_at hl 3 rfl) ?_
  refine cl_i (vx_runSW (As := [.ref (ad 30), .int (xs (nI (5 * i) + 1).toNatClampNeg), .int (xs (nI (5 * i) + 2).toNatClampNeg), .ref qo]) (rest := []) ⟨hx, hb, hml, hown, hts⟩ (c_L_takeBack l hst g cJ ad (WM g adM sM) qo o _ sC (xs (nI (5 * i) + 1).toNatClampNeg) (xs (nI (5 * i) + 2).toNatClampNeg) k0 r0 sC2 hf hk0) (vx_cwSW 4 hts glw_takeBack rfl rfl rfl ydl_takeBack ⟨Nat.le_of_ble_eq_true rfl, Nat.le_of_ble_eq_true rfl⟩) (preSL_of hK hP (hD sC sM o) (law_XF hXF hS (hD sC sM o)) hKJ hNC) rfl rfl hl.1 rfl (lv_room (Nat.le_of_ble_eq_true rfl)) dL_law_1278 ⟨(show k + 0 + 1 ≤ 601024 by omega), (show n + 0 + 6 ≤ 7293034 by omega)⟩) hS (fun q h => law_A (hD sC sM o) hS.1 h) (fun q h => law_A (hD sC sM o) hS.1 h) (fun H locs hP hS => ?_)
  refine W.widen (k := k + 1) (n := n + 6) (by omega) (by omega) ?_
  refine lv_topi (fun x5 e5 => ?_)
  refine lv_istore (lv' := [(5, .int x5), (0, .ref b), (1, .ref (ad 30)), (2, .ref (adM 0)), (3, .ref qo), (4, .int (nI (5 * i)))]) hx hb dL_law_1281 hl (by decide) rfl (fun ls hl => ?_)
  refine lv_aload_n hx hb dL_law_1283 rfl (lv_at hl 3 rfl) ?_
  refine lv_aload_n hx hb dL_law_1284 rfl (lv_at hl 1 rfl) ?_
  refine lv_iload hx hb dL_law_1285 (lv_at hl 5 rfl) ?_
  refine lv_iconst (v := 1) hx hb dL_law_1287 (by decide) ?_
  refine lv_iadd hx hb dL_law_1288 ?_
  refine va_sld hx hb hX hbl hbA hS (law_in hi hL 1 (by decide) (nI_1 _)) dL_law_1289 ?_
  refine lv_aload_n hx hb dL_law_1290 rfl (lv_at hl 1 rfl) ?_
  refine lv_iload hx hb dL_law_1291 (lv_at hl 5 rfl) ?_
  refine lv_iconst (v := 2) hx hb dL_law_1293 (by decide) ?_
  refine lv_iadd hx hb dL_law_1294 ?_
  refine va_sld hx hb hX hbl hbA hS (law_in hi hL 2 (by decide) (nI_add _ 2)) dL_law_1295 ?_
  have hP := P_rot hP
  have hD9 := D_rot (hD sC2 sM (if k0 = 0 then vp_updL o 0 r0.toInt64 else o))
  refine cl_i (va_runV (As := [.int (xs (nI (5 * i) + 1).toNatClampNeg), .int (xs (nI (5 * i) + 2).toNatClampNeg)]) (rest := []) ⟨hx, hb, hml, hown, hts⟩ (c_X6_takeBack l g adM (WC g ad sC2 ++ [(qo, OutE cJ (if k0 = 0 then vp_updL o 0 r0.toInt64 else o))]) _ sM (xs (nI (5 * i) + 1).toNatClampNeg) (xs (nI (5 * i) + 2).toNatClampNeg) bb sM2 hq) (cwV 2 hts gl_L_158 rfl rfl rfl yd_X6_takeBack ⟨Nat.le_of_ble_eq_true rfl, Nat.le_of_ble_eq_true rfl⟩) (preV_of hK hP (dd_D hD9) (dd_at (by decide) cm_0) rfl) rfl rfl hl.1 rfl (lv_room (Nat.le_of_ble_eq_true rfl)) dL_law_1296 ⟨(show k + 1 + 0 ≤ 601024 by omega), (show n + 6 + 0 ≤ 7293034 by omega)⟩) hS (fun q h => law_A hD9 hS.1 h) (fun q h => law_A hD9 hS.1 h) (fun H locs hP hS => ?_)
  have hP := P_rot2 hP
  refine W.widen (k := k + 1) (n := n + 6) (by omega) (by omega) ?_
  refine lv_istore (lv' := [(6, .int bb), (5, .int x5), (0, .ref b), (1, .ref (ad 30)), (2, .ref (adM 0)), (3, .ref qo), (4, .int (nI (5 * i)))]) hx hb dL_law_1299 hl (by decide) rfl (fun ls hl => ?_)
  refine lv_aload_n hx hb dL_law_1301 rfl (lv_at hl 4 rfl) ?_
  have hP := P_rot hP
  have hD9 := D_rot (hD sC2 sM2 (if k0 = 0 then vp_updL o 0 r0.toInt64 else o))
  refine cl_i (va_runV (As := []) (rest := []) ⟨hx, hb, hml, hown, hts⟩ (c_X6_thrown l g adM (WC g ad sC2 ++ [(qo, OutE cJ (if k0 = 0 then vp_updL o 0 r0.toInt64 else o))]) _ sM2 (sM2 0 0) rfl) (cwV 0 hts gl_L_90 rfl rfl rfl yd_X6_thrown ⟨Nat.le_of_ble_eq_true rfl, Nat.le_of_ble_eq_true rfl⟩) (preV_of hK hP hD9 (dd_at (by decide) cm_0) rfl) rfl rfl hl.1 rfl (lv_room (Nat.le_of_ble_eq_true rfl)) dL_law_1302 ⟨(show k + 1 + 0 ≤ 601024 by omega), (show n + 6 + 0 ≤ 7293034 by omega)⟩) hS (fun q h => law_A hD9 hS.1 h) (fun q h => law_A hD9 hS.1 h) (fun H locs hP hS => ?_)
  have hP := P_rot2 hP
  refine W.widen (k := k + 1) (n := n + 6) (by omega) (by omega) ?_
  refine lv_iload hx hb dL_law_1305 (lv_at hl 1 rfl) ?_
  refine lv_icmp_eq (tgt := 1312) hx hb dL_law_1307 (by decide) (fun _ => ?_) (fun c9 => absurd (hth.trans e5.symm) c9)
  refine lv_iload hx hb dL_law_1312 (lv_at hl 1 rfl) ?_
  rcases hk0 with rfl | rfl | rfl
  · have e5 : x5 = 0 := e5
    refine lv_if_ne (tgt := 1329) hx hb dL_law_1314 (by decide) (fun c9 => absurd e5 c9) (fun _ => ?_)
    refine lv_aload_n hx hb dL_law_1317 rfl (lv_at hl 5 rfl) ?_
    refine lv_iconst (v := 0) hx hb dL_law_1318 (by decide) ?_
    refine va_lald hx hb hKJ hP 59 3 dd_first rfl (ix_in (i := 0) (n := 1) (by decide)) dL_law_1319 ?_
    refine lv_iload hx hb dL_law_1320 (lv_at hl 0 rfl) ?_
    refine lv_i2l hx hb dL_law_1322 rfl ?_
    refine W.lcmp hx hb dL_law_1323 ?_
    refine lv_if_eq (tgt := 1329) hx hb dL_law_1324 (by decide) (fun _ => ?_) (fun c9 => absurd (show lg_cmp r0.toInt64 bb.toInt64 = 0 by rw [hrb rfl]; exact law_self _) c9)
    refine lv_goto (tgt := 1594) hx hb dL_law_1329 (by decide) ?_
    refine W.widen (k := k + 110) (n := n + 1000) (by omega) (by omega) ?_
    exact next sC2 sM2 _ _ _ _ hI2 hP hS (lv_sub hl [2, 3, 4, 5, 6] rfl)
  · have e5 : x5 = 1 := e5
    refine lv_if_ne (tgt := 1329) hx hb dL_law_1314 (by decide) (fun _ => ?_) (fun c9 => absurd (e5.symm.trans c9) (by decide))
    refine lv_goto (tgt := 1594) hx hb dL_law_1329 (by decide) ?_
    refine W.widen (k := k + 110) (n := n + 1000) (by omega) (by omega) ?_
    exact next sC2 sM2 _ _ _ _ hI2 hP hS (lv_sub hl [2, 3, 4, 5, 6] rfl)
  · have e5 : x5 = 2 := e5
    refine lv_if_ne (tgt := 1329) hx hb dL_law_1314 (by decide) (fun _ => ?_) (fun c9 => absurd (e5.symm.trans c9) (by decide))
    refine lv_goto (tgt := 1594) hx hb dL_law_1329 (by decide) ?_
    refine W.widen (k := k + 110) (n := n + 1000) (by omega) (by omega) ?_
    exact next sC2 sM2 _ _ _ _ hI2 hP hS (lv_sub hl [2, 3, 4, 5, 6] rfl)
set_option maxHeartbeats 4000000 in
set_option maxRecDepth 100000 in
theorem law_given {p : Program} {l : Launch} {e : Env} {s : State} {m : MethodId} {below : List Frame} {meth : Method} {c : Code} {b L : Nat} {xs : Nat → Int32} {Q : State → Prop} {g : dd_G} {cJ : ClassId} {ad adM : Nat → Nat} {qo : Nat} (hst : l.stackTraces = false) (hx : p.tables.exec = Jvm.exec) (hb : c.code = cL_law) (hml : c.maxLocals = 9) (hown : s.vm.findClass RL = some m.cls) (hts : ∀ w ∈ lw_all, w.before #[Value.ref b] s = true) (hX : va_X b L xs s s.heap) (hbl : b < s.heap.size) (hK : KC g s) (hKJ : KJ g cJ s) (hNC : NC s) (hXF : XF (lA s) s s.heap) (hD : ∀ (sC sM : dd_S) (o : Nat → Int64), va_D (lA s) (LW g ad cJ qo adM sC sM o)) {Inv : dd_S → dd_S → Prop} (h : PO_given Inv) {sC sM : dd_S} {o : Nat → Int64} {H : Heap} {locs : List Loc} {ls : Array Slot} {k n i : Nat} (hI : Inv sC sM) (hi : 5 * i + 5 ≤ L) (hL : L ≤ 2560) (hk : k + 110 ≤ 601024) (hn : n + 1000 ≤ 7293034) (hP : va_P g.1 vwCl (LW g ad cJ qo adM sC sM o) H) (hS : va_S (lA s) s.heap H locs) (hl : lv_has ls 9 [(0, .ref b), (1, .ref (ad 30)), (2, .ref (adM 0)), (3, .ref qo), (4, .int (nI (5 * i)))]) (next : ∀ (sC2 sM2 : dd_S) (o2 : Nat → Int64) (H : Heap) (locs : List Loc) (ls : Array Slot), Inv sC2 sM2 → va_P g.1 vwCl (LW g ad cJ qo adM sC2 sM2 o2) H → va_S (lA s) s.heap H locs → lv_has ls 9 [(0, .ref b), (1, .ref (ad 30)), (2, .ref (adM 0)), (3, .ref qo), (4, .int (nI (5 * i)))] → W p l e room_1 s m #[Value.ref b] below meth c H locs (k + 110) (n + 1000) Q (F0 m 1594 ls [])) : W p l e room_1 s m #[Value.ref b] below meth c H locs k n Q (F0 m 1332 ls []) := by
  obtain ⟨k0, r0, sC2, bb, sM2, hf, hk0, hq, hth, hrb, hI2⟩ := h sC sM (xs (nI (5 * i) + 1).toNatClampNeg) (xs (nI (5 * i) + 2).toNatClampNeg) hI
  have hbA : ¬ lA s b := Nat.not_le.mpr hbl
  refine lv_aload_n hx hb dL_law_1332 rfl (lv_at hl 1 rfl) ?_
  refine lv_aload_n hx hb dL_law_1333 rfl (lv_at hl 0 rfl) ?_
  refine lv_iload hx hb dL_law_1334 (lv_at hl 4 rfl) ?_
  refine lv_iconst (v := 1) hx hb dL_law_1336 (by decide) ?_
  refine lv_iadd hx hb dL_law_1337 ?_
  refine va_sld hx hb hX hbl hbA hS (law_in hi hL 1 (by decide) (nI_1 _)) dL_law_1338 ?_
  refine lv_aload_n hx hb dL_law_1339 rfl (lv_at hl 0 rfl) ?_
  refine lv_iload hx hb dL_law_1340 (lv_at hl 4 rfl) ?_
  refine lv_iconst (v := 2) hx hb dL_law_1342 (by decide) ?_
  refine lv_iadd hx hb dL_law_1343 ?_
  refine va_sld hx hb hX hbl hbA hS (law_in hi hL 2 (by decide) (nI_add _ 2)) dL_law_1344 ?_
  refine lv_aload_n hx hb dL_law_1345 rfl (lv_at hl 3 rfl) ?_
  refine cl_i (vx_runSW (As := [.ref (ad 30), .int (xs (nI (5 * i) + 1).toNatClampNeg), .int (xs (nI (5 * i) + 2).toNatClampNeg), .ref qo]) (rest := []) ⟨hx, hb, hml, hown, hts⟩ (c_L_given l hst g cJ ad (WM g adM sM) qo o _ sC (xs (nI (5 * i) + 1).toNatClampNeg) (xs (nI (5 * i) + 2).toNatClampNeg) k0 r0 sC2 hf hk0) (vx_cwSW 4 hts glw_given rfl rfl rfl ydl_given ⟨Nat.le_of_ble_eq_true rfl, Nat.le_of_ble_eq_true rfl⟩) (preSL_of hK hP (hD sC sM o) (law_XF hXF hS (hD sC sM o)) hKJ hNC) rfl rfl hl.1 rfl (lv_room (Nat.le_of_ble_eq_true rfl)) dL_law_1346 ⟨(show k + 0 + 1 ≤ 601024 by omega), (show n + 0 + 6 ≤ 7293034 by omega)⟩) hS (fun q h => law_A (hD sC sM o) hS.1 h) (fun q h => law_A (hD sC sM o) hS.1 h) (fun H locs hP hS => ?_)
  refine W.widen (k := k + 1) (n := n + 6) (by omega) (by omega) ?_
  refine lv_topi (fun x5 e5 => ?_)
  refine lv_istore (lv' := [(5, .int x5), (0, .ref b), (1, .ref (ad 30)), (2, .ref (adM 0)), (3, .ref qo), (4, .int (nI (5 * i)))]) hx hb dL_law_1349 hl (by decide) rfl (fun ls hl => ?_)
  refine lv_aload_n hx hb dL_law_1351 rfl (lv_at hl 3 rfl) ?_
  refine lv_aload_n hx hb dL_law_1352 rfl (lv_at hl 1 rfl) ?_
  refine lv_iload hx hb dL_law_1353 (lv_at hl 5 rfl) ?_
  refine lv_iconst (v := 1) hx hb dL_law_1355 (by decide) ?_
  refine lv_iadd hx hb dL_law_1356 ?_
  refine va_sld hx hb hX hbl hbA hS (law_in hi hL 1 (by decide) (nI_1 _)) dL_law_1357 ?_
  refine lv_aload_n hx hb dL_law_1358 rfl (lv_at hl 1 rfl) ?_
  refine lv_iload hx hb dL_law_1359 (lv_at hl 5 rfl) ?_
  refine lv_iconst (v := 2) hx hb dL_law_1361 (by decide) ?_
  refine lv_iadd hx hb dL_law_1362 ?_
  refine va_sld hx hb hX hbl hbA hS (law_in hi hL 2 (by decide) (nI_add _ 2)) dL_law_1363 ?_
  have hP := P_rot hP
  have hD9 := D_rot (hD sC2 sM (if k0 = 0 then vp_updL o 0 r0.toInt64 else o))
  refine cl_i (va_runV (As := [.int (xs (nI (5 * i) + 1).toNatClampNeg), .int (xs (nI (5 * i) + 2).toNatClampNeg)]) (rest := []) ⟨hx, hb, hml, hown, hts⟩ (c_X6_given l g adM (WC g ad sC2 ++ [(qo, OutE cJ (if k0 = 0 then vp_updL o 0 r0.toInt64 else o))]) _ sM (xs (nI (5 * i) + 1).toNatClampNeg) (xs (nI (5 * i) + 2).toNatClampNeg) bb sM2 hq) (cwV 2 hts gl_L_161 rfl rfl rfl yd_X6_given ⟨Nat.le_of_ble_eq_true rfl, Nat.le_of_ble_eq_true rfl⟩) (preV_of hK hP (dd_D hD9) (dd_at (by decide) cm_0) rfl) rfl rfl hl.1 rfl (lv_room (Nat.le_of_ble_eq_true rfl)) dL_law_1364 ⟨(show k + 1 + 0 ≤ 601024 by omega), (show n + 6 + 0 ≤ 7293034 by omega)⟩) hS (fun q h => law_A hD9 hS.1 h) (fun q h => law_A hD9 hS.1 h) (fun H locs hP hS => ?_)
  have hP := P_rot2 hP
  refine W.widen (k := k + 1) (n := n + 6) (by omega) (by omega) ?_
  refine lv_istore (lv' := [(6, .int bb), (5, .int x5), (0, .ref b), (1, .ref (ad 30)), (2, .ref (adM 0)), (3, .ref qo), (4, .int (nI (5 * i)))]) hx hb dL_law_1367 hl (by decide) rfl (fun ls hl => ?_)
  refine lv_aload_n hx hb dL_law_1369 rfl (lv_at hl 4 rfl) ?_
  have hP := P_rot hP
  have hD9 := D_rot (hD sC2 sM2 (if k0 = 0 then vp_updL o 0 r0.toInt64 else o))
  refine cl_i (va_runV (As := []) (rest := []) ⟨hx, hb, hml, hown, hts⟩ (c_X6_thrown l g adM (WC g ad sC2 ++ [(qo, OutE cJ (if k0 = 0 then vp_updL o 0 r0.toInt64 else o))]) _ sM2 (sM2 0 0) rfl) (cwV 0 hts gl_L_90 rfl rfl rfl yd_X6_thrown ⟨Nat.le_of_ble_eq_true rfl, Nat.le_of_ble_eq_true rfl⟩) (preV_of hK hP hD9 (dd_at (by decide) cm_0) rfl) rfl rfl hl.1 rfl (lv_room (Nat.le_of_ble_eq_true rfl)) dL_law_1370 ⟨(show k + 1 + 0 ≤ 601024 by omega), (show n + 6 + 0 ≤ 7293034 by omega)⟩) hS (fun q h => law_A hD9 hS.1 h) (fun q h => law_A hD9 hS.1 h) (fun H locs hP hS => ?_)
  have hP := P_rot2 hP
  refine W.widen (k := k + 1) (n := n + 6) (by omega) (by omega) ?_
  refine lv_iload hx hb dL_law_1373 (lv_at hl 1 rfl) ?_
  refine lv_icmp_eq (tgt := 1380) hx hb dL_law_1375 (by decide) (fun _ => ?_) (fun c9 => absurd (hth.trans e5.symm) c9)
  refine lv_iload hx hb dL_law_1380 (lv_at hl 1 rfl) ?_
  rcases hk0 with rfl | rfl
  · have e5 : x5 = 0 := e5
    refine lv_if_ne (tgt := 1397) hx hb dL_law_1382 (by decide) (fun c9 => absurd e5 c9) (fun _ => ?_)
    refine lv_aload_n hx hb dL_law_1385 rfl (lv_at hl 5 rfl) ?_
    refine lv_iconst (v := 0) hx hb dL_law_1386 (by decide) ?_
    refine va_lald hx hb hKJ hP 59 3 dd_first rfl (ix_in (i := 0) (n := 1) (by decide)) dL_law_1387 ?_
    refine lv_iload hx hb dL_law_1388 (lv_at hl 0 rfl) ?_
    refine lv_i2l hx hb dL_law_1390 rfl ?_
    refine W.lcmp hx hb dL_law_1391 ?_
    refine lv_if_eq (tgt := 1397) hx hb dL_law_1392 (by decide) (fun _ => ?_) (fun c9 => absurd (show lg_cmp r0.toInt64 bb.toInt64 = 0 by rw [hrb rfl]; exact law_self _) c9)
    refine lv_goto (tgt := 1594) hx hb dL_law_1397 (by decide) ?_
    refine W.widen (k := k + 110) (n := n + 1000) (by omega) (by omega) ?_
    exact next sC2 sM2 _ _ _ _ hI2 hP hS (lv_sub hl [2, 3, 4, 5, 6] rfl)
  · have e5 : x5 = 1 := e5
    refine lv_if_ne (tgt := 1397) hx hb dL_law_1382 (by decide) (fun _ => ?_) (fun c9 => absurd (e5.symm.trans c9) (by decide))
    refine lv_goto (tgt := 1594) hx hb dL_law_1397 (by decide) ?_
    refine W.widen (k := k + 110) (n := n + 1000) (by omega) (by omega) ?_
    exact next sC2 sM2 _ _ _ _ hI2 hP hS (lv_sub hl [2, 3, 4, 5, 6] rfl)
set_option maxHeartbeats 4000000 in
set_option maxRecDepth 100000 in
theorem law_fill {p : Program} {l : Launch} {e : Env} {s : State} {m : MethodId} {below : List Frame} {meth : Method} {c : Code} {b L : Nat} {xs : Nat → Int32} {Q : State → Prop} {g : dd_G} {cJ : ClassId} {ad adM : Nat → Nat} {qo : Nat} (hst : l.stackTraces = false) (hx : p.tables.exec = Jvm.exec) (hb : c.code = cL_law) (hml : c.maxLocals = 9) (hown : s.vm.findClass RL = some m.cls) (hts : ∀ w ∈ lw_all, w.before #[Value.ref b] s = true) (hX : va_X b L xs s s.heap) (hbl : b < s.heap.size) (hK : KC g s) (hKJ : KJ g cJ s) (hNC : NC s) (hXF : XF (lA s) s s.heap) (hD : ∀ (sC sM : dd_S) (o : Nat → Int64), va_D (lA s) (LW g ad cJ qo adM sC sM o)) {Inv : dd_S → dd_S → Prop} (h : PO_fill Inv) {sC sM : dd_S} {o : Nat → Int64} {H : Heap} {locs : List Loc} {ls : Array Slot} {k n i : Nat} (hI : Inv sC sM) (hi : 5 * i + 5 ≤ L) (hL : L ≤ 2560) (hk : k + 110 ≤ 601024) (hn : n + 1000 ≤ 7293034) (hP : va_P g.1 vwCl (LW g ad cJ qo adM sC sM o) H) (hS : va_S (lA s) s.heap H locs) (hl : lv_has ls 9 [(0, .ref b), (1, .ref (ad 30)), (2, .ref (adM 0)), (3, .ref qo), (4, .int (nI (5 * i)))]) (next : ∀ (sC2 sM2 : dd_S) (o2 : Nat → Int64) (H : Heap) (locs : List Loc) (ls : Array Slot), Inv sC2 sM2 → va_P g.1 vwCl (LW g ad cJ qo adM sC2 sM2 o2) H → va_S (lA s) s.heap H locs → lv_has ls 9 [(0, .ref b), (1, .ref (ad 30)), (2, .ref (adM 0)), (3, .ref qo), (4, .int (nI (5 * i)))] → W p l e room_1 s m #[Value.ref b] below meth c H locs (k + 110) (n + 1000) Q (F0 m 1594 ls [])) : W p l e room_1 s m #[Value.ref b] below meth c H locs k n Q (F0 m 1400 ls []) := by
  obtain ⟨k0, r0, sC2, bb, sM2, hf, hk0, hq, hth, hrb, hI2⟩ := h sC sM (xs (nI (5 * i) + 1).toNatClampNeg) hI
  have hbA : ¬ lA s b := Nat.not_le.mpr hbl
  refine lv_aload_n hx hb dL_law_1400 rfl (lv_at hl 1 rfl) ?_
  refine lv_aload_n hx hb dL_law_1401 rfl (lv_at hl 0 rfl) ?_
  refine lv_iload hx hb dL_law_1402 (lv_at hl 4 rfl) ?_
  refine lv_iconst (v := 1) hx hb dL_law_1404 (by decide) ?_
  refine lv_iadd hx hb dL_law_1405 ?_
  refine va_sld hx hb hX hbl hbA hS (law_in hi hL 1 (by decide) (nI_1 _)) dL_law_1406 ?_
  refine lv_aload_n hx hb dL_law_1407 rfl (lv_at hl 3 rfl) ?_
  refine cl_i (vx_runSW (As := [.ref (ad 30), .int (xs (nI (5 * i) + 1).toNatClampNeg), .ref qo]) (rest := []) ⟨hx, hb, hml, hown, hts⟩ (c_L_fill l hst g cJ ad (WM g adM sM) qo o _ sC (xs (nI (5 * i) + 1).toNatClampNeg) k0 r0 sC2 hf hk0) (vx_cwSW 3 hts glw_fill rfl rfl rfl ydl_fill ⟨Nat.le_of_ble_eq_true rfl, Nat.le_of_ble_eq_true rfl⟩) (preSL_of hK hP (hD sC sM o) (law_XF hXF hS (hD sC sM o)) hKJ hNC) rfl rfl hl.1 rfl (lv_room (Nat.le_of_ble_eq_true rfl)) dL_law_1408 ⟨(show k + 0 + 1 ≤ 601024 by omega), (show n + 0 + 6 ≤ 7293034 by omega)⟩) hS (fun q h => law_A (hD sC sM o) hS.1 h) (fun q h => law_A (hD sC sM o) hS.1 h) (fun H locs hP hS => ?_)
  refine W.widen (k := k + 1) (n := n + 6) (by omega) (by omega) ?_
  refine lv_topi (fun x5 e5 => ?_)
  refine lv_istore (lv' := [(5, .int x5), (0, .ref b), (1, .ref (ad 30)), (2, .ref (adM 0)), (3, .ref qo), (4, .int (nI (5 * i)))]) hx hb dL_law_1411 hl (by decide) rfl (fun ls hl => ?_)
  refine lv_aload_n hx hb dL_law_1413 rfl (lv_at hl 3 rfl) ?_
  refine lv_aload_n hx hb dL_law_1414 rfl (lv_at hl 1 rfl) ?_
  refine lv_iload hx hb dL_law_1415 (lv_at hl 5 rfl) ?_
  refine lv_iconst (v := 1) hx hb dL_law_1417 (by decide) ?_
  refine lv_iadd hx hb dL_law_1418 ?_
  refine va_sld hx hb hX hbl hbA hS (law_in hi hL 1 (by decide) (nI_1 _)) dL_law_1419 ?_
  have hP := P_rot hP
  have hD9 := D_rot (hD sC2 sM (if k0 = 0 then vp_updL o 0 r0.toInt64 else o))
  refine cl_i (va_runV (As := [.int (xs (nI (5 * i) + 1).toNatClampNeg)]) (rest := []) ⟨hx, hb, hml, hown, hts⟩ (c_X6_fill l g adM (WC g ad sC2 ++ [(qo, OutE cJ (if k0 = 0 then vp_updL o 0 r0.toInt64 else o))]) _ sM (xs (nI (5 * i) + 1).toNatClampNeg) bb sM2 hq) (cwV 1 hts gl_L_164 rfl rfl rfl yd_X6_fill ⟨Nat.le_of_ble_eq_true rfl, Nat.le_of_ble_eq_true rfl⟩) (preV_of hK hP (dd_D hD9) (dd_at (by decide) cm_0) rfl) rfl rfl hl.1 rfl (lv_room (Nat.le_of_ble_eq_true rfl)) dL_law_1420 ⟨(show k + 1 + 1 ≤ 601024 by omega), (show n + 6 + 12 ≤ 7293034 by omega)⟩) hS (fun q h => law_A hD9 hS.1 h) (fun q h => law_A hD9 hS.1 h) (fun H locs hP hS => ?_)
  have hP := P_rot2 hP
  refine W.widen (k := k + 2) (n := n + 18) (by omega) (by omega) ?_
  refine lv_istore (lv' := [(6, .int bb), (5, .int x5), (0, .ref b), (1, .ref (ad 30)), (2, .ref (adM 0)), (3, .ref qo), (4, .int (nI (5 * i)))]) hx hb dL_law_1423 hl (by decide) rfl (fun ls hl => ?_)
  refine lv_aload_n hx hb dL_law_1425 rfl (lv_at hl 4 rfl) ?_
  have hP := P_rot hP
  have hD9 := D_rot (hD sC2 sM2 (if k0 = 0 then vp_updL o 0 r0.toInt64 else o))
  refine cl_i (va_runV (As := []) (rest := []) ⟨hx, hb, hml, hown, hts⟩ (c_X6_thrown l g adM (WC g ad sC2 ++ [(qo, OutE cJ (if k0 = 0 then vp_updL o 0 r0.toInt64 else o))]) _ sM2 (sM2 0 0) rfl) (cwV 0 hts gl_L_90 rfl rfl rfl yd_X6_thrown ⟨Nat.le_of_ble_eq_true rfl, Nat.le_of_ble_eq_true rfl⟩) (preV_of hK hP hD9 (dd_at (by decide) cm_0) rfl) rfl rfl hl.1 rfl (lv_room (Nat.le_of_ble_eq_true rfl)) dL_law_1426 ⟨(show k + 2 + 0 ≤ 601024 by omega), (show n + 18 + 0 ≤ 7293034 by omega)⟩) hS (fun q h => law_A hD9 hS.1 h) (fun q h => law_A hD9 hS.1 h) (fun H locs hP hS => ?_)
  have hP := P_rot2 hP
  refine W.widen (k := k + 2) (n := n + 18) (by omega) (by omega) ?_
  refine lv_iload hx hb dL_law_1429 (lv_at hl 1 rfl) ?_
  refine lv_icmp_eq (tgt := 1436) hx hb dL_law_1431 (by decide) (fun _ => ?_) (fun c9 => absurd (hth.trans e5.symm) c9)
  refine lv_iload hx hb dL_law_1436 (lv_at hl 1 rfl) ?_
  rcases hk0 with rfl | rfl
  · have e5 : x5 = 0 := e5
    refine lv_if_ne (tgt := 1453) hx hb dL_law_1438 (by decide) (fun c9 => absurd e5 c9) (fun _ => ?_)
    refine lv_aload_n hx hb dL_law_1441 rfl (lv_at hl 5 rfl) ?_
    refine lv_iconst (v := 0) hx hb dL_law_1442 (by decide) ?_
    refine va_lald hx hb hKJ hP 59 3 dd_first rfl (ix_in (i := 0) (n := 1) (by decide)) dL_law_1443 ?_
    refine lv_iload hx hb dL_law_1444 (lv_at hl 0 rfl) ?_
    refine lv_i2l hx hb dL_law_1446 rfl ?_
    refine W.lcmp hx hb dL_law_1447 ?_
    refine lv_if_eq (tgt := 1453) hx hb dL_law_1448 (by decide) (fun _ => ?_) (fun c9 => absurd (show lg_cmp r0.toInt64 bb.toInt64 = 0 by rw [hrb rfl]; exact law_self _) c9)
    refine lv_goto (tgt := 1594) hx hb dL_law_1453 (by decide) ?_
    refine W.widen (k := k + 110) (n := n + 1000) (by omega) (by omega) ?_
    exact next sC2 sM2 _ _ _ _ hI2 hP hS (lv_sub hl [2, 3, 4, 5, 6] rfl)
  · have e5 : x5 = 1 := e5
    refine lv_if_ne (tgt := 1453) hx hb dL_law_1438 (by decide) (fun _ => ?_) (fun c9 => absurd (e5.symm.trans c9) (by decide))
    refine lv_goto (tgt := 1594) hx hb dL_law_1453 (by decide) ?_
    refine W.widen (k := k + 110) (n := n + 1000) (by omega) (by omega) ?_
    exact next sC2 sM2 _ _ _ _ hI2 hP hS (lv_sub hl [2, 3, 4, 5, 6] rfl)
set_option maxHeartbeats 4000000 in
set_option maxRecDepth 100000 in
theorem law_week {p : Program} {l : Launch} {e : Env} {s : State} {m : MethodId} {below : List Frame} {meth : Method} {c : Code} {b L : Nat} {xs : Nat → Int32} {Q : State → Prop} {g : dd_G} {cJ : ClassId} {ad adM : Nat → Nat} {qo : Nat} (hst : l.stackTraces = false) (hx : p.tables.exec = Jvm.exec) (hb : c.code = cL_law) (hml : c.maxLocals = 9) (hown : s.vm.findClass RL = some m.cls) (hts : ∀ w ∈ lw_all, w.before #[Value.ref b] s = true) (hX : va_X b L xs s s.heap) (hbl : b < s.heap.size) (hK : KC g s) (hKJ : KJ g cJ s) (hNC : NC s) (hXF : XF (lA s) s s.heap) (hD : ∀ (sC sM : dd_S) (o : Nat → Int64), va_D (lA s) (LW g ad cJ qo adM sC sM o)) {Inv : dd_S → dd_S → Prop} (h : PO_week Inv) {sC sM : dd_S} {o : Nat → Int64} {H : Heap} {locs : List Loc} {ls : Array Slot} {k n i : Nat} (hI : Inv sC sM) (hi : 5 * i + 5 ≤ L) (hL : L ≤ 2560) (hk : k + 110 ≤ 601024) (hn : n + 1000 ≤ 7293034) (hP : va_P g.1 vwCl (LW g ad cJ qo adM sC sM o) H) (hS : va_S (lA s) s.heap H locs) (hl : lv_has ls 9 [(0, .ref b), (1, .ref (ad 30)), (2, .ref (adM 0)), (3, .ref qo), (4, .int (nI (5 * i)))]) (next : ∀ (sC2 sM2 : dd_S) (o2 : Nat → Int64) (H : Heap) (locs : List Loc) (ls : Array Slot), Inv sC2 sM2 → va_P g.1 vwCl (LW g ad cJ qo adM sC2 sM2 o2) H → va_S (lA s) s.heap H locs → lv_has ls 9 [(0, .ref b), (1, .ref (ad 30)), (2, .ref (adM 0)), (3, .ref qo), (4, .int (nI (5 * i)))] → W p l e room_1 s m #[Value.ref b] below meth c H locs (k + 110) (n + 1000) Q (F0 m 1594 ls [])) : W p l e room_1 s m #[Value.ref b] below meth c H locs k n Q (F0 m 1456 ls []) := by
  obtain ⟨k0, r0, sC2, bb, sM2, hf, hk0, hq, hth, hrb, hI2⟩ := h sC sM (xs (nI (5 * i) + 1).toNatClampNeg) hI
  have hbA : ¬ lA s b := Nat.not_le.mpr hbl
  refine lv_aload_n hx hb dL_law_1456 rfl (lv_at hl 1 rfl) ?_
  refine lv_aload_n hx hb dL_law_1457 rfl (lv_at hl 0 rfl) ?_
  refine lv_iload hx hb dL_law_1458 (lv_at hl 4 rfl) ?_
  refine lv_iconst (v := 1) hx hb dL_law_1460 (by decide) ?_
  refine lv_iadd hx hb dL_law_1461 ?_
  refine va_sld hx hb hX hbl hbA hS (law_in hi hL 1 (by decide) (nI_1 _)) dL_law_1462 ?_
  refine lv_aload_n hx hb dL_law_1463 rfl (lv_at hl 3 rfl) ?_
  refine cl_i (vx_runSW (As := [.ref (ad 30), .int (xs (nI (5 * i) + 1).toNatClampNeg), .ref qo]) (rest := []) ⟨hx, hb, hml, hown, hts⟩ (c_L_week l hst g cJ ad (WM g adM sM) qo o _ sC (xs (nI (5 * i) + 1).toNatClampNeg) k0 r0 sC2 hf hk0) (vx_cwSW 3 hts glw_week rfl rfl rfl ydl_week ⟨Nat.le_of_ble_eq_true rfl, Nat.le_of_ble_eq_true rfl⟩) (preSL_of hK hP (hD sC sM o) (law_XF hXF hS (hD sC sM o)) hKJ hNC) rfl rfl hl.1 rfl (lv_room (Nat.le_of_ble_eq_true rfl)) dL_law_1464 ⟨(show k + 0 + 1 ≤ 601024 by omega), (show n + 0 + 6 ≤ 7293034 by omega)⟩) hS (fun q h => law_A (hD sC sM o) hS.1 h) (fun q h => law_A (hD sC sM o) hS.1 h) (fun H locs hP hS => ?_)
  refine W.widen (k := k + 1) (n := n + 6) (by omega) (by omega) ?_
  refine lv_topi (fun x5 e5 => ?_)
  refine lv_istore (lv' := [(5, .int x5), (0, .ref b), (1, .ref (ad 30)), (2, .ref (adM 0)), (3, .ref qo), (4, .int (nI (5 * i)))]) hx hb dL_law_1467 hl (by decide) rfl (fun ls hl => ?_)
  refine lv_aload_n hx hb dL_law_1469 rfl (lv_at hl 3 rfl) ?_
  refine lv_aload_n hx hb dL_law_1470 rfl (lv_at hl 1 rfl) ?_
  refine lv_iload hx hb dL_law_1471 (lv_at hl 5 rfl) ?_
  refine lv_iconst (v := 1) hx hb dL_law_1473 (by decide) ?_
  refine lv_iadd hx hb dL_law_1474 ?_
  refine va_sld hx hb hX hbl hbA hS (law_in hi hL 1 (by decide) (nI_1 _)) dL_law_1475 ?_
  have hP := P_rot hP
  have hD9 := D_rot (hD sC2 sM (if k0 = 0 then vp_updL o 0 r0.toInt64 else o))
  refine cl_i (va_runV (As := [.int (xs (nI (5 * i) + 1).toNatClampNeg)]) (rest := []) ⟨hx, hb, hml, hown, hts⟩ (c_X6_week l g adM (WC g ad sC2 ++ [(qo, OutE cJ (if k0 = 0 then vp_updL o 0 r0.toInt64 else o))]) _ sM (xs (nI (5 * i) + 1).toNatClampNeg) bb sM2 hq) (cwV 1 hts gl_L_167 rfl rfl rfl yd_X6_week ⟨Nat.le_of_ble_eq_true rfl, Nat.le_of_ble_eq_true rfl⟩) (preV_of hK hP (dd_D hD9) (dd_at (by decide) cm_0) rfl) rfl rfl hl.1 rfl (lv_room (Nat.le_of_ble_eq_true rfl)) dL_law_1476 ⟨(show k + 1 + 0 ≤ 601024 by omega), (show n + 6 + 0 ≤ 7293034 by omega)⟩) hS (fun q h => law_A hD9 hS.1 h) (fun q h => law_A hD9 hS.1 h) (fun H locs hP hS => ?_)
  have hP := P_rot2 hP
  refine W.widen (k := k + 1) (n := n + 6) (by omega) (by omega) ?_
  refine lv_istore (lv' := [(6, .int bb), (5, .int x5), (0, .ref b), (1, .ref (ad 30)), (2, .ref (adM 0)), (3, .ref qo), (4, .int (nI (5 * i)))]) hx hb dL_law_1479 hl (by decide) rfl (fun ls hl => ?_)
  refine lv_aload_n hx hb dL_law_1481 rfl (lv_at hl 4 rfl) ?_
  have hP := P_rot hP
  have hD9 := D_rot (hD sC2 sM2 (if k0 = 0 then vp_updL o 0 r0.toInt64 else o))
  refine cl_i (va_runV (As := []) (rest := []) ⟨hx, hb, hml, hown, hts⟩ (c_X6_thrown l g adM (WC g ad sC2 ++ [(qo, OutE cJ (if k0 = 0 then vp_updL o 0 r0.toInt64 else o))]) _ sM2 (sM2 0 0) rfl) (cwV 0 hts gl_L_90 rfl rfl rfl yd_X6_thrown ⟨Nat.le_of_ble_eq_true rfl, Nat.le_of_ble_eq_true rfl⟩) (preV_of hK hP hD9 (dd_at (by decide) cm_0) rfl) rfl rfl hl.1 rfl (lv_room (Nat.le_of_ble_eq_true rfl)) dL_law_1482 ⟨(show k + 1 + 0 ≤ 601024 by omega), (show n + 6 + 0 ≤ 7293034 by omega)⟩) hS (fun q h => law_A hD9 hS.1 h) (fun q h => law_A hD9 hS.1 h) (fun H locs hP hS => ?_)
  have hP := P_rot2 hP
  refine W.widen (k := k + 1) (n := n + 6) (by omega) (by omega) ?_
  refine lv_iload hx hb dL_law_1485 (lv_at hl 1 rfl) ?_
  refine lv_icmp_eq (tgt := 1492) hx hb dL_law_1487 (by decide) (fun _ => ?_) (fun c9 => absurd (hth.trans e5.symm) c9)
  refine lv_iload hx hb dL_law_1492 (lv_at hl 1 rfl) ?_
  rcases hk0 with rfl | rfl
  · have e5 : x5 = 0 := e5
    refine lv_if_ne (tgt := 1509) hx hb dL_law_1494 (by decide) (fun c9 => absurd e5 c9) (fun _ => ?_)
    refine lv_aload_n hx hb dL_law_1497 rfl (lv_at hl 5 rfl) ?_
    refine lv_iconst (v := 0) hx hb dL_law_1498 (by decide) ?_
    refine va_lald hx hb hKJ hP 59 3 dd_first rfl (ix_in (i := 0) (n := 1) (by decide)) dL_law_1499 ?_
    refine lv_iload hx hb dL_law_1500 (lv_at hl 0 rfl) ?_
    refine lv_i2l hx hb dL_law_1502 rfl ?_
    refine W.lcmp hx hb dL_law_1503 ?_
    refine lv_if_eq (tgt := 1509) hx hb dL_law_1504 (by decide) (fun _ => ?_) (fun c9 => absurd (show lg_cmp r0.toInt64 bb.toInt64 = 0 by rw [hrb rfl]; exact law_self _) c9)
    refine lv_goto (tgt := 1594) hx hb dL_law_1509 (by decide) ?_
    refine W.widen (k := k + 110) (n := n + 1000) (by omega) (by omega) ?_
    exact next sC2 sM2 _ _ _ _ hI2 hP hS (lv_sub hl [2, 3, 4, 5, 6] rfl)
  · have e5 : x5 = 1 := e5
    refine lv_if_ne (tgt := 1509) hx hb dL_law_1494 (by decide) (fun _ => ?_) (fun c9 => absurd (e5.symm.trans c9) (by decide))
    refine lv_goto (tgt := 1594) hx hb dL_law_1509 (by decide) ?_
    refine W.widen (k := k + 110) (n := n + 1000) (by omega) (by omega) ?_
    exact next sC2 sM2 _ _ _ _ hI2 hP hS (lv_sub hl [2, 3, 4, 5, 6] rfl)
set_option maxHeartbeats 4000000 in
set_option maxRecDepth 100000 in
theorem law_rest {p : Program} {l : Launch} {e : Env} {s : State} {m : MethodId} {below : List Frame} {meth : Method} {c : Code} {b L : Nat} {xs : Nat → Int32} {Q : State → Prop} {g : dd_G} {cJ : ClassId} {ad adM : Nat → Nat} {qo : Nat} (hst : l.stackTraces = false) (hx : p.tables.exec = Jvm.exec) (hb : c.code = cL_law) (hml : c.maxLocals = 9) (hown : s.vm.findClass RL = some m.cls) (hts : ∀ w ∈ lw_all, w.before #[Value.ref b] s = true) (hX : va_X b L xs s s.heap) (hbl : b < s.heap.size) (hK : KC g s) (hKJ : KJ g cJ s) (hNC : NC s) (hXF : XF (lA s) s s.heap) (hD : ∀ (sC sM : dd_S) (o : Nat → Int64), va_D (lA s) (LW g ad cJ qo adM sC sM o)) {Inv : dd_S → dd_S → Prop} (h : PO_rest Inv) {sC sM : dd_S} {o : Nat → Int64} {H : Heap} {locs : List Loc} {ls : Array Slot} {k n i : Nat} (hI : Inv sC sM) (hi : 5 * i + 5 ≤ L) (hL : L ≤ 2560) (hk : k + 110 ≤ 601024) (hn : n + 1000 ≤ 7293034) (hP : va_P g.1 vwCl (LW g ad cJ qo adM sC sM o) H) (hS : va_S (lA s) s.heap H locs) (hl : lv_has ls 9 [(0, .ref b), (1, .ref (ad 30)), (2, .ref (adM 0)), (3, .ref qo), (4, .int (nI (5 * i)))]) (next : ∀ (sC2 sM2 : dd_S) (o2 : Nat → Int64) (H : Heap) (locs : List Loc) (ls : Array Slot), Inv sC2 sM2 → va_P g.1 vwCl (LW g ad cJ qo adM sC2 sM2 o2) H → va_S (lA s) s.heap H locs → lv_has ls 9 [(0, .ref b), (1, .ref (ad 30)), (2, .ref (adM 0)), (3, .ref qo), (4, .int (nI (5 * i)))] → W p l e room_1 s m #[Value.ref b] below meth c H locs (k + 110) (n + 1000) Q (F0 m 1594 ls [])) : W p l e room_1 s m #[Value.ref b] below meth c H locs k n Q (F0 m 1512 ls []) := by
  obtain ⟨k0, r0, sC2, bb, sM2, hf, hk0, hq, hth, hrb, hI2⟩ := h sC sM (xs (nI (5 * i) + 1).toNatClampNeg) (xs (nI (5 * i) + 2).toNatClampNeg) hI
  have hbA : ¬ lA s b := Nat.not_le.mpr hbl
  refine lv_aload_n hx hb dL_law_1512 rfl (lv_at hl 1 rfl) ?_
  refine lv_aload_n hx hb dL_law_1513 rfl (lv_at hl 0 rfl) ?_
  refine lv_iload hx hb dL_law_1514 (lv_at hl 4 rfl) ?_
  refine lv_iconst (v := 1) hx hb dL_law_1516 (by decide) ?_
  refine lv_iadd hx hb dL_law_1517 ?_
  refine va_sld hx hb hX hbl hbA hS (law_in hi hL 1 (by decide) (nI_1 _)) dL_law_1518 ?_
  refine lv_aload_n hx hb dL_law_1519 rfl (lv_at hl 0 rfl) ?_
  refine lv_iload hx hb dL_law_1520 (lv_at hl 4 rfl) ?_
  refine lv_iconst (v := 2) hx hb dL_law_1522 (by decide) ?_
  refine lv_iadd hx hb dL_law_1523 ?_
  refine va_sld hx hb hX hbl hbA hS (law_in hi hL 2 (by decide) (nI_add _ 2)) dL_law_1524 ?_
  refine lv_aload_n hx hb dL_law_1525 rfl (lv_at hl 3 rfl) ?_
  refine cl_i (vx_runSW (As := [.ref (ad 30), .int (xs (nI (5 * i) + 1).toNatClampNeg), .int (xs (nI (5 * i) + 2).toNatClampNeg), .ref qo]) (rest := []) ⟨hx, hb, hml, hown, hts⟩ (c_L_rest l hst g cJ ad (WM g adM sM) qo o _ sC (xs (nI (5 * i) + 1).toNatClampNeg) (xs (nI (5 * i) + 2).toNatClampNeg) k0 r0 sC2 hf hk0) (vx_cwSW 4 hts glw_rest rfl rfl rfl ydl_rest ⟨Nat.le_of_ble_eq_true rfl, Nat.le_of_ble_eq_true rfl⟩) (preSL_of hK hP (hD sC sM o) (law_XF hXF hS (hD sC sM o)) hKJ hNC) rfl rfl hl.1 rfl (lv_room (Nat.le_of_ble_eq_true rfl)) dL_law_1526 ⟨(show k + 0 + 1 ≤ 601024 by omega), (show n + 0 + 6 ≤ 7293034 by omega)⟩) hS (fun q h => law_A (hD sC sM o) hS.1 h) (fun q h => law_A (hD sC sM o) hS.1 h) (fun H locs hP hS => ?_)
  refine W.widen (k := k + 1) (n := n + 6) (by omega) (by omega) ?_
  refine lv_topi (fun x5 e5 => ?_)
  refine lv_istore (lv' := [(5, .int x5), (0, .ref b), (1, .ref (ad 30)), (2, .ref (adM 0)), (3, .ref qo), (4, .int (nI (5 * i)))]) hx hb dL_law_1529 hl (by decide) rfl (fun ls hl => ?_)
  refine lv_aload_n hx hb dL_law_1531 rfl (lv_at hl 3 rfl) ?_
  refine lv_aload_n hx hb dL_law_1532 rfl (lv_at hl 1 rfl) ?_
  refine lv_iload hx hb dL_law_1533 (lv_at hl 5 rfl) ?_
  refine lv_iconst (v := 1) hx hb dL_law_1535 (by decide) ?_
  refine lv_iadd hx hb dL_law_1536 ?_
  refine va_sld hx hb hX hbl hbA hS (law_in hi hL 1 (by decide) (nI_1 _)) dL_law_1537 ?_
  refine lv_aload_n hx hb dL_law_1538 rfl (lv_at hl 1 rfl) ?_
  refine lv_iload hx hb dL_law_1539 (lv_at hl 5 rfl) ?_
  refine lv_iconst (v := 2) hx hb dL_law_1541 (by decide) ?_
  refine lv_iadd hx hb dL_law_1542 ?_
  refine va_sld hx hb hX hbl hbA hS (law_in hi hL 2 (by decide) (nI_add _ 2)) dL_law_1543 ?_
  have hP := P_rot hP
  have hD9 := D_rot (hD sC2 sM (if k0 = 0 then vp_updL o 0 r0.toInt64 else o))
  refine cl_i (va_runV (As := [.int (xs (nI (5 * i) + 1).toNatClampNeg), .int (xs (nI (5 * i) + 2).toNatClampNeg)]) (rest := []) ⟨hx, hb, hml, hown, hts⟩ (c_X6_rest l g adM (WC g ad sC2 ++ [(qo, OutE cJ (if k0 = 0 then vp_updL o 0 r0.toInt64 else o))]) _ sM (xs (nI (5 * i) + 1).toNatClampNeg) (xs (nI (5 * i) + 2).toNatClampNeg) bb sM2 hq) (cwV 2 hts gl_L_170 rfl rfl rfl yd_X6_rest ⟨Nat.le_of_ble_eq_true rfl, Nat.le_of_ble_eq_true rfl⟩) (preV_of hK hP (dd_D hD9) (dd_at (by decide) cm_0) rfl) rfl rfl hl.1 rfl (lv_room (Nat.le_of_ble_eq_true rfl)) dL_law_1544 ⟨(show k + 1 + 0 ≤ 601024 by omega), (show n + 6 + 0 ≤ 7293034 by omega)⟩) hS (fun q h => law_A hD9 hS.1 h) (fun q h => law_A hD9 hS.1 h) (fun H locs hP hS => ?_)
  have hP := P_rot2 hP
  refine W.widen (k := k + 1) (n := n + 6) (by omega) (by omega) ?_
  refine lv_istore (lv' := [(6, .int bb), (5, .int x5), (0, .ref b), (1, .ref (ad 30)), (2, .ref (adM 0)), (3, .ref qo), (4, .int (nI (5 * i)))]) hx hb dL_law_1547 hl (by decide) rfl (fun ls hl => ?_)
  refine lv_aload_n hx hb dL_law_1549 rfl (lv_at hl 4 rfl) ?_
  have hP := P_rot hP
  have hD9 := D_rot (hD sC2 sM2 (if k0 = 0 then vp_updL o 0 r0.toInt64 else o))
  refine cl_i (va_runV (As := []) (rest := []) ⟨hx, hb, hml, hown, hts⟩ (c_X6_thrown l g adM (WC g ad sC2 ++ [(qo, OutE cJ (if k0 = 0 then vp_updL o 0 r0.toInt64 else o))]) _ sM2 (sM2 0 0) rfl) (cwV 0 hts gl_L_90 rfl rfl rfl yd_X6_thrown ⟨Nat.le_of_ble_eq_true rfl, Nat.le_of_ble_eq_true rfl⟩) (preV_of hK hP hD9 (dd_at (by decide) cm_0) rfl) rfl rfl hl.1 rfl (lv_room (Nat.le_of_ble_eq_true rfl)) dL_law_1550 ⟨(show k + 1 + 0 ≤ 601024 by omega), (show n + 6 + 0 ≤ 7293034 by omega)⟩) hS (fun q h => law_A hD9 hS.1 h) (fun q h => law_A hD9 hS.1 h) (fun H locs hP hS => ?_)
  have hP := P_rot2 hP
  refine W.widen (k := k + 1) (n := n + 6) (by omega) (by omega) ?_
  refine lv_iload hx hb dL_law_1553 (lv_at hl 1 rfl) ?_
  refine lv_icmp_eq (tgt := 1560) hx hb dL_law_1555 (by decide) (fun _ => ?_) (fun c9 => absurd (hth.trans e5.symm) c9)
  refine lv_iload hx hb dL_law_1560 (lv_at hl 1 rfl) ?_
  rcases hk0 with rfl | rfl
  · have e5 : x5 = 0 := e5
    refine lv_if_ne (tgt := 1577) hx hb dL_law_1562 (by decide) (fun c9 => absurd e5 c9) (fun _ => ?_)
    refine lv_aload_n hx hb dL_law_1565 rfl (lv_at hl 5 rfl) ?_
    refine lv_iconst (v := 0) hx hb dL_law_1566 (by decide) ?_
    refine va_lald hx hb hKJ hP 59 3 dd_first rfl (ix_in (i := 0) (n := 1) (by decide)) dL_law_1567 ?_
    refine lv_iload hx hb dL_law_1568 (lv_at hl 0 rfl) ?_
    refine lv_i2l hx hb dL_law_1570 rfl ?_
    refine W.lcmp hx hb dL_law_1571 ?_
    refine lv_if_eq (tgt := 1577) hx hb dL_law_1572 (by decide) (fun _ => ?_) (fun c9 => absurd (show lg_cmp r0.toInt64 bb.toInt64 = 0 by rw [hrb rfl]; exact law_self _) c9)
    refine lv_goto (tgt := 1594) hx hb dL_law_1577 (by decide) ?_
    refine W.widen (k := k + 110) (n := n + 1000) (by omega) (by omega) ?_
    exact next sC2 sM2 _ _ _ _ hI2 hP hS (lv_sub hl [2, 3, 4, 5, 6] rfl)
  · have e5 : x5 = 1 := e5
    refine lv_if_ne (tgt := 1577) hx hb dL_law_1562 (by decide) (fun _ => ?_) (fun c9 => absurd (e5.symm.trans c9) (by decide))
    refine lv_goto (tgt := 1594) hx hb dL_law_1577 (by decide) ?_
    refine W.widen (k := k + 110) (n := n + 1000) (by omega) (by omega) ?_
    exact next sC2 sM2 _ _ _ _ hI2 hP hS (lv_sub hl [2, 3, 4, 5, 6] rfl)
set_option maxHeartbeats 4000000 in
set_option maxRecDepth 100000 in
theorem law_plan {p : Program} {l : Launch} {e : Env} {s : State} {m : MethodId} {below : List Frame} {meth : Method} {c : Code} {b L : Nat} {xs : Nat → Int32} {Q : State → Prop} {g : dd_G} {cJ : ClassId} {ad adM : Nat → Nat} {qo : Nat} (hst : l.stackTraces = false) (hx : p.tables.exec = Jvm.exec) (hb : c.code = cL_law) (hml : c.maxLocals = 9) (hown : s.vm.findClass RL = some m.cls) (hts : ∀ w ∈ lw_all, w.before #[Value.ref b] s = true) (hX : va_X b L xs s s.heap) (hbl : b < s.heap.size) (hK : KC g s) (hKJ : KJ g cJ s) (hNC : NC s) (hXF : XF (lA s) s s.heap) (hD : ∀ (sC sM : dd_S) (o : Nat → Int64), va_D (lA s) (LW g ad cJ qo adM sC sM o)) {Inv : dd_S → dd_S → Prop} (h : PO_plan Inv) {sC sM : dd_S} {o : Nat → Int64} {H : Heap} {locs : List Loc} {ls : Array Slot} {k n i : Nat} (hI : Inv sC sM) (hi : 5 * i + 5 ≤ L) (hL : L ≤ 2560) (hk : k + 110 ≤ 601024) (hn : n + 1000 ≤ 7293034) (hP : va_P g.1 vwCl (LW g ad cJ qo adM sC sM o) H) (hS : va_S (lA s) s.heap H locs) (hl : lv_has ls 9 [(0, .ref b), (1, .ref (ad 30)), (2, .ref (adM 0)), (3, .ref qo), (4, .int (nI (5 * i)))]) (next : ∀ (sC2 sM2 : dd_S) (o2 : Nat → Int64) (H : Heap) (locs : List Loc) (ls : Array Slot), Inv sC2 sM2 → va_P g.1 vwCl (LW g ad cJ qo adM sC2 sM2 o2) H → va_S (lA s) s.heap H locs → lv_has ls 9 [(0, .ref b), (1, .ref (ad 30)), (2, .ref (adM 0)), (3, .ref qo), (4, .int (nI (5 * i)))] → W p l e room_1 s m #[Value.ref b] below meth c H locs (k + 110) (n + 1000) Q (F0 m 1594 ls [])) : W p l e room_1 s m #[Value.ref b] below meth c H locs k n Q (F0 m 900 ls []) := by
  obtain ⟨r0, sC2, sM2, hf, hq, hI2⟩ := h sC sM hI
  refine lv_aload_n hx hb dL_law_900 rfl (lv_at hl 1 rfl) ?_
  refine cl_i (va_runV (As := []) (rest := []) ⟨hx, hb, hml, hown, hts⟩ (c_X5_plan l g ad ((qo, OutE cJ o) :: WM g adM sM) _ sC r0 sC2 hf) (cwV 0 hts gl_L_127 rfl rfl rfl yd_X5_plan ⟨Nat.le_of_ble_eq_true rfl, Nat.le_of_ble_eq_true rfl⟩) (preV_of hK hP (hD sC sM o) (dd_at (by decide) cc_30) rfl) rfl rfl hl.1 rfl (lv_room (Nat.le_of_ble_eq_true rfl)) dL_law_901 ⟨(show k + 0 + 0 ≤ 601024 by omega), (show n + 0 + 0 ≤ 7293034 by omega)⟩) hS (fun q h => law_A (hD sC sM o) hS.1 h) (fun q h => law_A (hD sC sM o) hS.1 h) (fun H locs hP hS => ?_)
  refine W.widen (k := k + 0) (n := n + 0) (by omega) (by omega) ?_
  refine lv_aload_n hx hb dL_law_904 rfl (lv_at hl 2 rfl) ?_
  have hP := P_rot hP
  have hD9 := D_rot (hD sC2 sM o)
  refine cl_i (va_runV (As := []) (rest := [.int r0]) ⟨hx, hb, hml, hown, hts⟩ (c_X6_plan l g adM (WC g ad sC2 ++ [(qo, OutE cJ o)]) _ sM r0 sM2 hq) (cwV 0 hts gl_L_130 rfl rfl rfl yd_X6_plan ⟨Nat.le_of_ble_eq_true rfl, Nat.le_of_ble_eq_true rfl⟩) (preV_of hK hP (dd_D hD9) (dd_at (by decide) cm_0) rfl) rfl rfl hl.1 rfl (lv_room (Nat.le_of_ble_eq_true rfl)) dL_law_905 ⟨(show k + 0 + 1 ≤ 601024 by omega), (show n + 0 + 40 ≤ 7293034 by omega)⟩) hS (fun q h => law_A hD9 hS.1 h) (fun q h => law_A hD9 hS.1 h) (fun H locs hP hS => ?_)
  have hP := P_rot2 hP
  refine lv_icmp_eq (tgt := 1594) hx hb dL_law_908 (by decide) (fun _ => ?_) (fun c9 => absurd rfl c9)
  refine W.widen (k := k + 110) (n := n + 1000) (by omega) (by omega) ?_
  exact next sC2 sM2 o _ _ _ hI2 hP hS (lv_sub hl [0, 1, 2, 3, 4] rfl)
set_option maxHeartbeats 4000000 in
set_option maxRecDepth 100000 in
theorem law_improve {p : Program} {l : Launch} {e : Env} {s : State} {m : MethodId} {below : List Frame} {meth : Method} {c : Code} {b L : Nat} {xs : Nat → Int32} {Q : State → Prop} {g : dd_G} {cJ : ClassId} {ad adM : Nat → Nat} {qo : Nat} (hst : l.stackTraces = false) (hx : p.tables.exec = Jvm.exec) (hb : c.code = cL_law) (hml : c.maxLocals = 9) (hown : s.vm.findClass RL = some m.cls) (hts : ∀ w ∈ lw_all, w.before #[Value.ref b] s = true) (hX : va_X b L xs s s.heap) (hbl : b < s.heap.size) (hK : KC g s) (hKJ : KJ g cJ s) (hNC : NC s) (hXF : XF (lA s) s s.heap) (hD : ∀ (sC sM : dd_S) (o : Nat → Int64), va_D (lA s) (LW g ad cJ qo adM sC sM o)) {Inv : dd_S → dd_S → Prop} (h : PO_improve Inv) {sC sM : dd_S} {o : Nat → Int64} {H : Heap} {locs : List Loc} {ls : Array Slot} {k n i : Nat} (hI : Inv sC sM) (hi : 5 * i + 5 ≤ L) (hL : L ≤ 2560) (hk : k + 110 ≤ 601024) (hn : n + 1000 ≤ 7293034) (hP : va_P g.1 vwCl (LW g ad cJ qo adM sC sM o) H) (hS : va_S (lA s) s.heap H locs) (hl : lv_has ls 9 [(0, .ref b), (1, .ref (ad 30)), (2, .ref (adM 0)), (3, .ref qo), (4, .int (nI (5 * i)))]) (next : ∀ (sC2 sM2 : dd_S) (o2 : Nat → Int64) (H : Heap) (locs : List Loc) (ls : Array Slot), Inv sC2 sM2 → va_P g.1 vwCl (LW g ad cJ qo adM sC2 sM2 o2) H → va_S (lA s) s.heap H locs → lv_has ls 9 [(0, .ref b), (1, .ref (ad 30)), (2, .ref (adM 0)), (3, .ref qo), (4, .int (nI (5 * i)))] → W p l e room_1 s m #[Value.ref b] below meth c H locs (k + 110) (n + 1000) Q (F0 m 1594 ls [])) : W p l e room_1 s m #[Value.ref b] below meth c H locs k n Q (F0 m 993 ls []) := by
  obtain ⟨r0, sC2, sM2, hf, hq, hI2⟩ := h sC sM hI
  refine lv_aload_n hx hb dL_law_993 rfl (lv_at hl 1 rfl) ?_
  refine cl_i (va_runV (As := []) (rest := []) ⟨hx, hb, hml, hown, hts⟩ (c_X5_improve l g ad ((qo, OutE cJ o) :: WM g adM sM) _ sC r0 sC2 hf) (cwV 0 hts gl_L_134 rfl rfl rfl yd_X5_improve ⟨Nat.le_of_ble_eq_true rfl, Nat.le_of_ble_eq_true rfl⟩) (preV_of hK hP (hD sC sM o) (dd_at (by decide) cc_30) rfl) rfl rfl hl.1 rfl (lv_room (Nat.le_of_ble_eq_true rfl)) dL_law_994 ⟨(show k + 0 + 0 ≤ 601024 by omega), (show n + 0 + 0 ≤ 7293034 by omega)⟩) hS (fun q h => law_A (hD sC sM o) hS.1 h) (fun q h => law_A (hD sC sM o) hS.1 h) (fun H locs hP hS => ?_)
  refine W.widen (k := k + 0) (n := n + 0) (by omega) (by omega) ?_
  refine lv_aload_n hx hb dL_law_997 rfl (lv_at hl 2 rfl) ?_
  have hP := P_rot hP
  have hD9 := D_rot (hD sC2 sM o)
  refine cl_i (va_runV (As := []) (rest := [.int r0]) ⟨hx, hb, hml, hown, hts⟩ (c_X6_improve l g adM (WC g ad sC2 ++ [(qo, OutE cJ o)]) _ sM r0 sM2 hq) (cwV 0 hts gl_L_137 rfl rfl rfl yd_X6_improve ⟨Nat.le_of_ble_eq_true rfl, Nat.le_of_ble_eq_true rfl⟩) (preV_of hK hP (dd_D hD9) (dd_at (by decide) cm_0) rfl) rfl rfl hl.1 rfl (lv_room (Nat.le_of_ble_eq_true rfl)) dL_law_998 ⟨(show k + 0 + 0 ≤ 601024 by omega), (show n + 0 + 0 ≤ 7293034 by omega)⟩) hS (fun q h => law_A hD9 hS.1 h) (fun q h => law_A hD9 hS.1 h) (fun H locs hP hS => ?_)
  have hP := P_rot2 hP
  refine lv_icmp_eq (tgt := 1594) hx hb dL_law_1001 (by decide) (fun _ => ?_) (fun c9 => absurd rfl c9)
  refine W.widen (k := k + 110) (n := n + 1000) (by omega) (by omega) ?_
  exact next sC2 sM2 o _ _ _ hI2 hP hS (lv_sub hl [0, 1, 2, 3, 4] rfl)
set_option maxHeartbeats 4000000 in
set_option maxRecDepth 100000 in
theorem law_pay {p : Program} {l : Launch} {e : Env} {s : State} {m : MethodId} {below : List Frame} {meth : Method} {c : Code} {b L : Nat} {xs : Nat → Int32} {Q : State → Prop} {g : dd_G} {cJ : ClassId} {ad adM : Nat → Nat} {qo : Nat} (hst : l.stackTraces = false) (hx : p.tables.exec = Jvm.exec) (hb : c.code = cL_law) (hml : c.maxLocals = 9) (hown : s.vm.findClass RL = some m.cls) (hts : ∀ w ∈ lw_all, w.before #[Value.ref b] s = true) (hX : va_X b L xs s s.heap) (hbl : b < s.heap.size) (hK : KC g s) (hKJ : KJ g cJ s) (hNC : NC s) (hXF : XF (lA s) s s.heap) (hD : ∀ (sC sM : dd_S) (o : Nat → Int64), va_D (lA s) (LW g ad cJ qo adM sC sM o)) {Inv : dd_S → dd_S → Prop} (h : PO_pay Inv) {sC sM : dd_S} {o : Nat → Int64} {H : Heap} {locs : List Loc} {ls : Array Slot} {k n i : Nat} (hI : Inv sC sM) (hi : 5 * i + 5 ≤ L) (hL : L ≤ 2560) (hk : k + 110 ≤ 601024) (hn : n + 1000 ≤ 7293034) (hP : va_P g.1 vwCl (LW g ad cJ qo adM sC sM o) H) (hS : va_S (lA s) s.heap H locs) (hl : lv_has ls 9 [(0, .ref b), (1, .ref (ad 30)), (2, .ref (adM 0)), (3, .ref qo), (4, .int (nI (5 * i)))]) (next : ∀ (sC2 sM2 : dd_S) (o2 : Nat → Int64) (H : Heap) (locs : List Loc) (ls : Array Slot), Inv sC2 sM2 → va_P g.1 vwCl (LW g ad cJ qo adM sC2 sM2 o2) H → va_S (lA s) s.heap H locs → lv_has ls 9 [(0, .ref b), (1, .ref (ad 30)), (2, .ref (adM 0)), (3, .ref qo), (4, .int (nI (5 * i)))] → W p l e room_1 s m #[Value.ref b] below meth c H locs (k + 110) (n + 1000) Q (F0 m 1594 ls [])) : W p l e room_1 s m #[Value.ref b] below meth c H locs k n Q (F0 m 1006 ls []) := by
  obtain ⟨r0, sM2, hf, hq, hI2⟩ := h sC sM hI
  refine lv_aload_n hx hb dL_law_1006 rfl (lv_at hl 1 rfl) ?_
  refine cl_i (va_runV (As := []) (rest := []) ⟨hx, hb, hml, hown, hts⟩ (c_X5_pay l g ad ((qo, OutE cJ o) :: WM g adM sM) _ sC r0 hf) (cwV 0 hts gl_L_138 rfl rfl rfl yd_X5_pay ⟨Nat.le_of_ble_eq_true rfl, Nat.le_of_ble_eq_true rfl⟩) (preV_of hK hP (hD sC sM o) (dd_at (by decide) cc_30) rfl) rfl rfl hl.1 rfl (lv_room (Nat.le_of_ble_eq_true rfl)) dL_law_1007 ⟨(show k + 0 + 0 ≤ 601024 by omega), (show n + 0 + 0 ≤ 7293034 by omega)⟩) hS (fun q h => law_A (hD sC sM o) hS.1 h) (fun q h => law_A (hD sC sM o) hS.1 h) (fun H locs hP hS => ?_)
  refine W.widen (k := k + 0) (n := n + 0) (by omega) (by omega) ?_
  refine lv_aload_n hx hb dL_law_1010 rfl (lv_at hl 2 rfl) ?_
  have hP := P_rot hP
  have hD9 := D_rot (hD sC sM o)
  refine cl_i (va_runV (As := []) (rest := [.int r0]) ⟨hx, hb, hml, hown, hts⟩ (c_X6_pay l g adM (WC g ad sC ++ [(qo, OutE cJ o)]) _ sM r0 sM2 hq) (cwV 0 hts gl_L_141 rfl rfl rfl yd_X6_pay ⟨Nat.le_of_ble_eq_true rfl, Nat.le_of_ble_eq_true rfl⟩) (preV_of hK hP (dd_D hD9) (dd_at (by decide) cm_0) rfl) rfl rfl hl.1 rfl (lv_room (Nat.le_of_ble_eq_true rfl)) dL_law_1011 ⟨(show k + 0 + 0 ≤ 601024 by omega), (show n + 0 + 0 ≤ 7293034 by omega)⟩) hS (fun q h => law_A hD9 hS.1 h) (fun q h => law_A hD9 hS.1 h) (fun H locs hP hS => ?_)
  have hP := P_rot2 hP
  refine lv_icmp_eq (tgt := 1594) hx hb dL_law_1014 (by decide) (fun _ => ?_) (fun c9 => absurd rfl c9)
  refine W.widen (k := k + 110) (n := n + 1000) (by omega) (by omega) ?_
  exact next sC sM2 o _ _ _ hI2 hP hS (lv_sub hl [0, 1, 2, 3, 4] rfl)
set_option maxHeartbeats 4000000 in
set_option maxRecDepth 100000 in
theorem law_digest {p : Program} {l : Launch} {e : Env} {s : State} {m : MethodId} {below : List Frame} {meth : Method} {c : Code} {b L : Nat} {xs : Nat → Int32} {Q : State → Prop} {g : dd_G} {cJ : ClassId} {ad adM : Nat → Nat} {qo : Nat} (hst : l.stackTraces = false) (hx : p.tables.exec = Jvm.exec) (hb : c.code = cL_law) (hml : c.maxLocals = 9) (hown : s.vm.findClass RL = some m.cls) (hts : ∀ w ∈ lw_all, w.before #[Value.ref b] s = true) (hX : va_X b L xs s s.heap) (hbl : b < s.heap.size) (hK : KC g s) (hKJ : KJ g cJ s) (hNC : NC s) (hXF : XF (lA s) s s.heap) (hD : ∀ (sC sM : dd_S) (o : Nat → Int64), va_D (lA s) (LW g ad cJ qo adM sC sM o)) {Inv : dd_S → dd_S → Prop} (h : PO_digest Inv) {sC sM : dd_S} {o : Nat → Int64} {H : Heap} {locs : List Loc} {ls : Array Slot} {k n i : Nat} (hI : Inv sC sM) (hi : 5 * i + 5 ≤ L) (hL : L ≤ 2560) (hk : k + 110 ≤ 601024) (hn : n + 1000 ≤ 7293034) (hP : va_P g.1 vwCl (LW g ad cJ qo adM sC sM o) H) (hS : va_S (lA s) s.heap H locs) (hl : lv_has ls 9 [(0, .ref b), (1, .ref (ad 30)), (2, .ref (adM 0)), (3, .ref qo), (4, .int (nI (5 * i)))]) (next : ∀ (sC2 sM2 : dd_S) (o2 : Nat → Int64) (H : Heap) (locs : List Loc) (ls : Array Slot), Inv sC2 sM2 → va_P g.1 vwCl (LW g ad cJ qo adM sC2 sM2 o2) H → va_S (lA s) s.heap H locs → lv_has ls 9 [(0, .ref b), (1, .ref (ad 30)), (2, .ref (adM 0)), (3, .ref qo), (4, .int (nI (5 * i)))] → W p l e room_1 s m #[Value.ref b] below meth c H locs (k + 110) (n + 1000) Q (F0 m 1594 ls [])) : W p l e room_1 s m #[Value.ref b] below meth c H locs k n Q (F0 m 1580 ls []) := by
  obtain ⟨r0, sM2, hf, hq, hI2⟩ := h sC sM hI
  refine lv_aload_n hx hb dL_law_1580 rfl (lv_at hl 1 rfl) ?_
  refine cl_l (va_runV (As := []) (rest := []) ⟨hx, hb, hml, hown, hts⟩ (c_X5_digest l g ad ((qo, OutE cJ o) :: WM g adM sM) _ sC r0 hf) (cwV 0 hts gl_L_171 rfl rfl rfl yd_X5_digest ⟨Nat.le_of_ble_eq_true rfl, Nat.le_of_ble_eq_true rfl⟩) (preV_of hK hP (hD sC sM o) (dd_at (by decide) cc_30) rfl) rfl rfl hl.1 rfl (lv_room (Nat.le_of_ble_eq_true rfl)) dL_law_1581 ⟨(show k + 0 + 0 ≤ 601024 by omega), (show n + 0 + 0 ≤ 7293034 by omega)⟩) hS (fun q h => law_A (hD sC sM o) hS.1 h) (fun q h => law_A (hD sC sM o) hS.1 h) (fun H locs hP hS => ?_)
  refine W.widen (k := k + 0) (n := n + 0) (by omega) (by omega) ?_
  refine lv_aload_n hx hb dL_law_1584 rfl (lv_at hl 2 rfl) ?_
  have hP := P_rot hP
  have hD9 := D_rot (hD sC sM o)
  refine cl_l (va_runV (As := []) (rest := [.long r0]) ⟨hx, hb, hml, hown, hts⟩ (c_X6_digest l g adM (WC g ad sC ++ [(qo, OutE cJ o)]) _ sM r0 sM2 hq) (cwV 0 hts gl_L_175 rfl rfl rfl yd_X6_digest ⟨Nat.le_of_ble_eq_true rfl, Nat.le_of_ble_eq_true rfl⟩) (preV_of hK hP (dd_D hD9) (dd_at (by decide) cm_0) rfl) rfl rfl hl.1 rfl (lv_room (Nat.le_of_ble_eq_true rfl)) dL_law_1585 ⟨(show k + 0 + 108 ≤ 601024 by omega), (show n + 0 + 972 ≤ 7293034 by omega)⟩) hS (fun q h => law_A hD9 hS.1 h) (fun q h => law_A hD9 hS.1 h) (fun H locs hP hS => ?_)
  have hP := P_rot2 hP
  refine W.lcmp hx hb dL_law_1588 ?_
  refine lv_if_eq (tgt := 1594) hx hb dL_law_1589 (by decide) (fun _ => ?_) (fun c9 => absurd (law_self _) c9)
  refine W.widen (k := k + 110) (n := n + 1000) (by omega) (by omega) ?_
  exact next sC sM2 o _ _ _ hI2 hP hS (lv_sub hl [0, 1, 2, 3, 4] rfl)
set_option maxHeartbeats 4000000 in
set_option maxRecDepth 100000 in
theorem law_use {p : Program} {l : Launch} {e : Env} {s : State} {m : MethodId} {below : List Frame} {meth : Method} {c : Code} {b L : Nat} {xs : Nat → Int32} {Q : State → Prop} {g : dd_G} {cJ : ClassId} {ad adM : Nat → Nat} {qo : Nat} (hst : l.stackTraces = false) (hx : p.tables.exec = Jvm.exec) (hb : c.code = cL_law) (hml : c.maxLocals = 9) (hown : s.vm.findClass RL = some m.cls) (hts : ∀ w ∈ lw_all, w.before #[Value.ref b] s = true) (hX : va_X b L xs s s.heap) (hbl : b < s.heap.size) (hK : KC g s) (hKJ : KJ g cJ s) (hNC : NC s) (hXF : XF (lA s) s s.heap) (hD : ∀ (sC sM : dd_S) (o : Nat → Int64), va_D (lA s) (LW g ad cJ qo adM sC sM o)) {Inv : dd_S → dd_S → Prop} (h : PO_use Inv) {d0 : Drawn} (hd0 : s.drawn.sameBut d0 lw_cs) {sC sM : dd_S} {o : Nat → Int64} {H : Heap} {locs : List Loc} {ls : Array Slot} {k n i : Nat} (hI : Inv sC sM) (hi : 5 * i + 5 ≤ L) (hL : L ≤ 2560) (hk : k + 110 ≤ 601024) (hn : n + 1000 ≤ 7293034) (hP : va_P g.1 vwCl (LW g ad cJ qo adM sC sM o) H) (hS : va_S (lA s) s.heap H locs) (hl : lv_has ls 9 [(0, .ref b), (1, .ref (ad 30)), (2, .ref (adM 0)), (3, .ref qo), (4, .int (nI (5 * i)))]) (next : ∀ (sC2 sM2 : dd_S) (o2 : Nat → Int64) (H : Heap) (locs : List Loc) (ls : Array Slot) (d1 : Drawn), s.drawn.sameBut d1 lw_cs → Inv sC2 sM2 → va_P g.1 vwCl (LW g ad cJ qo adM sC2 sM2 o2) H → va_S (lA s) s.heap H locs → lv_has ls 9 [(0, .ref b), (1, .ref (ad 30)), (2, .ref (adM 0)), (3, .ref qo), (4, .int (nI (5 * i)))] → W p l e room_1 (s.setDrawn d1) m #[Value.ref b] below meth c H locs (k + 110) (n + 1000) Q (F0 m 1594 ls [])) : W p l e room_1 (s.setDrawn d0) m #[Value.ref b] below meth c H locs k n Q (F0 m 1019 ls []) := by
  obtain ⟨r0, sM2, hf, hq, hI2⟩ := h sC sM hI
  have htsd0 := dr_words hts d0
  have hKd0 : KC g (s.setDrawn d0) := KC.same (s := s) (U := s.setDrawn d0) rfl hK
  refine lv_aload_n hx hb dL_law_1019 rfl (lv_at hl 1 rfl) ?_
  refine cl_dD hd0 (va_runV_D (As := []) (rest := []) ⟨hx, hb, hml, hown, htsd0⟩ (c_X5_use l g ad ((qo, OutE cJ o) :: WM g adM sM) _ sC r0 hf) (cwV 0 htsd0 gl_L_142 rfl rfl rfl yd_X5_use ⟨Nat.le_of_ble_eq_true rfl, Nat.le_of_ble_eq_true rfl⟩) (preV_of hKd0 hP (hD sC sM o) (dd_at (by decide) cc_30) rfl) rfl rfl hl.1 rfl (lv_room (Nat.le_of_ble_eq_true rfl)) dL_law_1020 ⟨(show k + 0 + 0 ≤ 601024 by omega), (show n + 0 + 0 ≤ 7293034 by omega)⟩) hS (fun q h => law_A (hD sC sM o) hS.1 h) (fun q h => law_A (hD sC sM o) hS.1 h) (fun y1 H locs d1 hy1 hP hS hd1 => ?_)
  refine W.widen (k := k + 0) (n := n + 0) (by omega) (by omega) ?_
  have htsd1 := dr_words hts d1
  have hKd1 : KC g (s.setDrawn d1) := KC.same (s := s) (U := s.setDrawn d1) rfl hK
  refine lv_dstore (lv' := [(5, .double y1), (0, .ref b), (1, .ref (ad 30)), (2, .ref (adM 0)), (3, .ref qo), (4, .int (nI (5 * i)))]) hx hb dL_law_1023 hl (by decide) rfl (fun ls hl => ?_)
  refine lv_aload_n hx hb dL_law_1025 rfl (lv_at hl 3 rfl) ?_
  have hP := P_rot hP
  have hD9 := D_rot (hD sC sM o)
  refine cl_dD hd1 (va_runV_D (As := []) (rest := []) ⟨hx, hb, hml, hown, htsd1⟩ (c_X6_use l g adM (WC g ad sC ++ [(qo, OutE cJ o)]) _ sM r0 sM2 hq) (cwV 0 htsd1 gl_L_146 rfl rfl rfl yd_X6_use ⟨Nat.le_of_ble_eq_true rfl, Nat.le_of_ble_eq_true rfl⟩) (preV_of hKd1 hP hD9 (dd_at (by decide) cm_0) rfl) rfl rfl hl.1 rfl (lv_room (Nat.le_of_ble_eq_true rfl)) dL_law_1026 ⟨(show k + 0 + 0 ≤ 601024 by omega), (show n + 0 + 0 ≤ 7293034 by omega)⟩) hS (fun q h => law_A hD9 hS.1 h) (fun q h => law_A hD9 hS.1 h) (fun y2 H locs d2 hy2 hP hS hd2 => ?_)
  have hP := P_rot2 hP
  refine W.widen (k := k + 0) (n := n + 0) (by omega) (by omega) ?_
  refine lv_dstore (lv' := [(7, .double y2), (5, .double y1), (0, .ref b), (1, .ref (ad 30)), (2, .ref (adM 0)), (3, .ref qo), (4, .int (nI (5 * i)))]) hx hb dL_law_1029 hl (by decide) rfl (fun ls hl => ?_)
  refine lv_dload hx hb dL_law_1031 (lv_at hl 1 rfl) ?_
  refine lv_dload hx hb dL_law_1033 (lv_at hl 0 rfl) ?_
  refine lv_dcmp hx hb dL_law_1035 ?_
  refine lv_if_eq (tgt := 1057) hx hb dL_law_1036 (by decide) (fun _ => ?_) (fun c1 => ?_)
  · refine lv_goto (tgt := 1594) hx hb dL_law_1057 (by decide) ?_
    refine W.widen (k := k + 110) (n := n + 1000) (by omega) (by omega) ?_
    exact next sC sM2 o _ _ _ d2 hd2 hI2 hP hS (lv_sub hl [2, 3, 4, 5, 6] rfl)
  · refine lv_dload hx hb dL_law_1039 (lv_at hl 1 rfl) ?_
    refine lv_dload hx hb dL_law_1041 (lv_at hl 1 rfl) ?_
    refine lv_dcmp hx hb dL_law_1043 ?_
    have hne : (¬ Op.cmpValue (FP.dcmp y1 y1) CmpOp.l = 0) ∧ ¬ Op.cmpValue (FP.dcmp y2 y2) CmpOp.l = 0 := by
      rcases law_alike hy1 hy2 with e1 | ⟨e1, e2⟩
      · subst e1; exact ⟨c1, c1⟩
      · exact ⟨law_nanv e1, law_nanv e2⟩
    refine lv_if_eq (tgt := 1055) hx hb dL_law_1044 (by decide) (fun c9 => absurd c9 hne.1) (fun _ => ?_)
    refine lv_dload hx hb dL_law_1047 (lv_at hl 0 rfl) ?_
    refine lv_dload hx hb dL_law_1049 (lv_at hl 0 rfl) ?_
    refine lv_dcmp hx hb dL_law_1051 ?_
    refine lv_if_ne (tgt := 1057) hx hb dL_law_1052 (by decide) (fun _ => ?_) (fun c9 => absurd c9 hne.2)
    refine lv_goto (tgt := 1594) hx hb dL_law_1057 (by decide) ?_
    refine W.widen (k := k + 110) (n := n + 1000) (by omega) (by omega) ?_
    exact next sC sM2 o _ _ _ d2 hd2 hI2 hP hS (lv_sub hl [2, 3, 4, 5, 6] rfl)
