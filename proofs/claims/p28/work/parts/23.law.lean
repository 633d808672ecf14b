/-! THE LAW'S METHODS: what stands at a call that may read the script, and at one that is handed the row of what was told -/
def lA (s : State) : Nat → Prop := fun q => s.heap.size ≤ q
theorem law_A {s : State} {n : Nat} {cd : Nat → (Nat → Int32) → va_E} {ad : Nat → Nat} {sg : dd_S} {X : va_W} {sz : Nat} (hD : va_D (lA s) (dd_wd n cd ad sg ++ X)) (h : s.heap.size ≤ sz) {q : Nat} (hq : dd_A n ad X sz q) : lA s q := by
  rcases hq with ⟨k, hk, e⟩ | ⟨x, hx, e⟩ | h1
  · rw [e]
    exact hD.2 k _ (dd_at hk rfl)
  · rw [e]
    obtain ⟨i, hi⟩ := List.getElem?_of_mem (List.mem_append_right (dd_wd n cd ad sg) hx)
    exact hD.2 i _ hi
  · exact Nat.le_trans h h1
def PreZ (g : dd_G) (ws : va_W) (sz b L : Nat) (xs : Nat → Int32) (U : State) : Prop := PreW g ws sz U ∧ va_X b L xs U U.heap ∧ b < sz
theorem PreZ.blind {g : dd_G} {ws : va_W} {sz b L : Nat} {xs : Nat → Int32} {av : List Value} : FrameBlind (va_Pc av (PreZ g ws sz b L xs)) := fun a U fr mk h => ⟨h.1, (PreW.blind (av := av) a U fr mk ⟨h.1, h.2.1⟩).2, va_X.moved (u := U) (U := U.calling fr mk a) (Vm.Alike.refl U.vm) h.2.2.1, h.2.2.2⟩
theorem x_of {s U : State} {H H0 : Heap} {A : Nat → Prop} {b L : Nat} {xs : Nat → Int32} {locs : List Loc} (hX : va_X b L xs s H0) (hbl : b < H0.size) (hbA : ¬ A b) (hS : va_S A H0 H locs) (hU : U.heap = H) (hW : s.WarmedH U.vm) : va_X b L xs U U.heap ∧ b < H.size := by
  rw [hU]
  exact ⟨(hX.kept (hS.2.1 b hbl hbA)).moved hW.alike, Nat.lt_of_lt_of_le hbl hS.1⟩
theorem preZ_of {g : dd_G} {ws : va_W} {s : State} {H H0 : Heap} {A A0 : Nat → Prop} {b L : Nat} {xs : Nat → Int32} {locs : List Loc} {As : List Value} (hK : KC g s) (hP : va_P g.1 vwCl ws H) (hD : va_D A0 ws) (hX : va_X b L xs s H0) (hbl : b < H0.size) (hbA : ¬ A b) (hS : va_S A H0 H locs) : PreS s H (va_Pc As (PreZ g ws H.size b L xs)) As :=
  ⟨PreZ.blind, fun U hU hW => ⟨rfl, preW_of hK hP hD hU hW, x_of hX hbl hbA hS hU hW⟩⟩
def KT (g : dd_G) (cA : ClassId) (U : State) : Prop := va_K g.1 vwCl (dd_tys g.2 ++ [(cA, .int)]) U
theorem KT.moved {g : dd_G} {cA : ClassId} {u U : State} (hvm : u.vm.Alike U.vm) (h : KT g cA u) : KT g cA U := va_K.moved hvm h
def PreT (g : dd_G) (ad : Nat → Nat) (q0 : Nat) (cA0 : ClassId) (sz b L : Nat) (xs : Nat → Int32) (sg : dd_S) (tm : Nat → Int32) (U : State) : Prop := PreZ g (WC g ad sg ++ [(q0, .inl (cA0, 160, .inl tm))]) sz b L xs U ∧ KT g cA0 U
theorem PreT.blind {g : dd_G} {ad : Nat → Nat} {q0 : Nat} {cA0 : ClassId} {sz b L : Nat} {xs : Nat → Int32} {sg : dd_S} {tm : Nat → Int32} {av : List Value} : FrameBlind (va_Pc av (PreT g ad q0 cA0 sz b L xs sg tm)) := fun a U fr mk h => ⟨h.1, (PreZ.blind (av := av) a U fr mk ⟨h.1, h.2.1⟩).2, KT.moved (u := U) (U := U.calling fr mk a) (Vm.Alike.refl U.vm) h.2.2⟩
theorem preT_of {g : dd_G} {ad : Nat → Nat} {q0 : Nat} {cA0 : ClassId} {sg : dd_S} {tm : Nat → Int32} {s : State} {H H0 : Heap} {A A0 : Nat → Prop} {b L : Nat} {xs : Nat → Int32} {locs : List Loc} {As : List Value} (hK : KC g s) (hP : va_P g.1 vwCl (WC g ad sg ++ [(q0, .inl (cA0, 160, .inl tm))]) H) (hD : va_D A0 (WC g ad sg ++ [(q0, .inl (cA0, 160, .inl tm))])) (hX : va_X b L xs s H0) (hbl : b < H0.size) (hbA : ¬ A b) (hS : va_S A H0 H locs) (hKT : KT g cA0 s) : PreS s H (va_Pc As (PreT g ad q0 cA0 H.size b L xs sg tm)) As :=
  ⟨PreT.blind, fun U hU hW => ⟨rfl, ⟨preW_of hK hP hD hU hW, x_of hX hbl hbA hS hU hW⟩, hKT.moved hW.alike⟩⟩
def TL (g : dd_G) (ad : Nat → Nat) (s : State) (q0 : Nat) (cA0 : ClassId) (A : Nat → Prop) : Prop := True ∧ KT g cA0 s ∧ ∀ (s2 : dd_S) (f : Nat → Int32), va_D A (WC g ad s2 ++ [(q0, .inl (cA0, 160, .inl f))])
theorem dd_l1 {n : Nat} {cd : Nat → (Nat → Int32) → va_E} {ad : Nat → Nat} {sg : dd_S} {t : Nat × va_E} : (dd_wd n cd ad sg ++ [t])[n]? = some t := by
  rw [List.getElem?_append_right (by simp [dd_wd])]
  simp [dd_wd]
theorem dd_l1set {n : Nat} {cd : Nat → (Nat → Int32) → va_E} {ad : Nat → Nat} {sg : dd_S} {t t2 : Nat × va_E} : (dd_wd n cd ad sg ++ [t]).set n t2 = dd_wd n cd ad sg ++ [t2] := by
  rw [List.set_append_right (h := by simp [dd_wd])]
  simp [dd_wd]
theorem dd_A_l1 {n : Nat} {ad : Nat → Nat} {q0 : Nat} {e e2 : va_E} {sz s2 : Nat} (h : sz ≤ s2) {q : Nat} (hq : dd_A n ad [(q0, e)] s2 q) : dd_A n ad [(q0, e2)] sz q := by
  rcases hq with h1 | ⟨x, hx, e1⟩ | h1
  · exact Or.inl h1
  · rw [List.mem_singleton.mp hx] at e1
    exact Or.inr (Or.inl ⟨(q0, e2), List.mem_singleton.mpr rfl, e1⟩)
  · exact Or.inr (Or.inr (Nat.le_trans h h1))
theorem TL_D {g : dd_G} {ad : Nat → Nat} {sg : dd_S} {q0 : Nat} {cA0 : ClassId} {tm : Nat → Int32} {sz : Nat} {A : Nat → Prop} (hD0 : va_D A (WC g ad sg ++ [(q0, .inl (cA0, 160, .inl tm))])) (s2 : dd_S) (f : Nat → Int32) : va_D (dd_A 59 ad [(q0, .inl (cA0, 160, .inl (fun _ => 0)))] sz) (WC g ad s2 ++ [(q0, .inl (cA0, 160, .inl f))]) := by
  have h1 := dd_A_D (sz := sz) hD0
  have h2 : va_D (dd_A 59 ad [(q0, .inl (cA0, 160, .inl (fun _ => 0)))] sz) (WC g ad sg ++ [(q0, .inl (cA0, 160, .inl tm))]) := ⟨h1.1, fun k q hk => dd_A_l1 (Nat.le_refl _) (h1.2 k q hk)⟩
  exact dd_ads h2 (by simp [dd_wd])
theorem cl_dD {p : Program} {l : Launch} {e : Env} {R : Room} {s : State} {m : MethodId} {args : Array Value} {below : List Frame} {meth : Method} {c : Code} {H : Heap} {locs : List Loc} {cells slots mc ms : Nat} {Q : State → Prop} {pc : Nat} {ls : Array Slot} {rest st0 : List Value} {a : Array Value} {g : dd_G} {w1 : va_W} {A0 A1 : Nat → Prop} {H0 : Heap} {free : Addr → Prop} {d0 : Drawn} {r0 : UInt64} (hd0 : s.drawn.sameBut d0 lw_cs) (hr : va_RunD lw_cs p l e R (s.setDrawn d0) m args below meth c H locs cells slots mc ms (F0 m pc ls st0) rest (QD g w1 A1 r0 a) free) (hS : va_S A0 H0 H locs) (hA : ∀ q, A1 q → A0 q) (hf : ∀ q, free q → A0 q)
    (kk : ∀ (y : UInt64) (H1 : Heap) (locs1 : List Loc) (d1 : Drawn), alike64 y r0 = true → va_P g.1 vwCl w1 H1 → va_S A0 H0 H1 locs1 → s.drawn.sameBut d1 lw_cs → W p l e R (s.setDrawn d1) m args below meth c H1 locs1 (cells + mc) (slots + ms) Q (F0 m (pc + 3) ls (.double y :: rest))) : W p l e R (s.setDrawn d0) m args below meth c H locs cells slots Q (F0 m pc ls st0) :=
  va_calldD hd0 hr hS (fun q _ h => hA q h) hf fun r u t H1 locs1 ht hvm hw hB hz hk hS1 d1 hd1 => by
    rw [ht] at hB
    exact kk r H1 locs1 d1 hw hB hS1 hd1
def f_L_below (sg : dd_S) (a0 : Int32) (a1 : Int32) : Option (Int32) := gd (decide (¬ a1 = 0)) (some ((a0 &&& (2147483647 : Int32)) - (a0 &&& (2147483647 : Int32)) / a1 * a1))
def f_L_cell_18 (sg : dd_S) (L : Nat) (xs : Nat → Int32) (a1 : Int32) (t0 : Int32) : Option (Int32) := some t0
def f_L_cell (sg : dd_S) (L : Nat) (xs : Nat → Int32) (a1 : Int32) : Option (Int32) := if (Int32.ofNat L) ≤ a1 then (f_L_cell_18 sg L xs a1 ((790386105 : Int32) * (a1 + (3 : Int32)))) else (gd (ix a1 L) (f_L_cell_18 sg L xs a1 (xs a1.toNatClampNeg)))
def f_L_trips_3 (L : Nat) (xs : Nat → Int32) (a2 : Int32) (a3 : Int32) : Nat → dd_S → (Nat → Int32) → Int32 → Option (dd_S × (Nat → Int32))
  | 0, _, _, _ => none
  | n + 1, sg, tm, v5 => if a3 ≤ v5 then (some (sg, tm)) else (bd (f_L_cell sg L xs (a2 + (v5 - v5 / (6 : Int32) * (6 : Int32)))) (fun r3 : Int32 => lt ((r3 >>> (((v5 / (6 : Int32)) * (4 : Int32)) &&& 31)) ^^^ (v5 * (911 : Int32))) (fun x4 : Int32 => bd (f_L_below sg x4 (3 : Int32)) (fun r6 : Int32 => gd (ix ((4 : Int32) * v5) 160) (lt (upd tm ((4 : Int32) * v5).toNatClampNeg r6) (fun tm8 : Nat → Int32 => bd (f_L_below sg (x4 >>> ((3 : Int32) &&& 31)) (3 : Int32)) (fun r10 : Int32 => gd (ix (((4 : Int32) * v5) + (1 : Int32)) 160) (lt (upd tm8 (((4 : Int32) * v5) + (1 : Int32)).toNatClampNeg r10) (fun tm12 : Nat → Int32 => bd (f_L_below sg (x4 >>> ((6 : Int32) &&& 31)) (30 : Int32)) (fun r14 : Int32 => gd (ix (((4 : Int32) * v5) + (2 : Int32)) 160) (lt (upd tm12 (((4 : Int32) * v5) + (2 : Int32)).toNatClampNeg ((300 : Int32) + ((20 : Int32) * r14))) (fun tm16 : Nat → Int32 => gd (ix (((4 : Int32) * v5) + (2 : Int32)) 160) (bd (f_L_below sg (x4 >>> ((12 : Int32) &&& 31)) (12 : Int32)) (fun r19 : Int32 => gd (ix (((4 : Int32) * v5) + (3 : Int32)) 160) (lt (upd tm16 (((4 : Int32) * v5) + (3 : Int32)).toNatClampNeg (((tm16 (((4 : Int32) * v5) + (2 : Int32)).toNatClampNeg) + (10 : Int32)) + ((10 : Int32) * r19))) (fun tm21 : Nat → Int32 => gd (ix ((4 : Int32) * v5) 160) (gd (ix (((4 : Int32) * v5) + (1 : Int32)) 160) (gd (ix (((4 : Int32) * v5) + (2 : Int32)) 160) (gd (ix (((4 : Int32) * v5) + (3 : Int32)) 160) (bd2 (f_X5_addTrip sg (tm21 ((4 : Int32) * v5).toNatClampNeg) (tm21 (((4 : Int32) * v5) + (1 : Int32)).toNatClampNeg) (tm21 (((4 : Int32) * v5) + (2 : Int32)).toNatClampNeg) (tm21 (((4 : Int32) * v5) + (3 : Int32)).toNatClampNeg)) (fun (r28 : Int32) (sg27 : dd_S) => if r28 = v5 then (lt (v5 + (1 : Int32)) (fun x30 : Int32 => f_L_trips_3 L xs a2 a3 n sg27 tm21 x30)) else (none))))))))))))))))))))))
def f_L_trips (sg : dd_S) (tm : Nat → Int32) (L : Nat) (xs : Nat → Int32) (a2 : Int32) (a3 : Int32) : Option (dd_S × (Nat → Int32)) := f_L_trips_3 L xs a2 a3 64 sg tm (0 : Int32)
def f_L_law_172 (L : Nat) (xs : Nat → Int32) (sg : dd_S) : Option (dd_S) := none
def f_L_law_310 (L : Nat) (xs : Nat → Int32) (sg : dd_S) : Option (dd_S) := none
def f_L_law_374 (L : Nat) (xs : Nat → Int32) (sg : dd_S) : Option (dd_S) := none
def f_L_law_376 (L : Nat) (xs : Nat → Int32) (k_92 : dd_S → Int32 → Int32 → Int32 → Int32 → Int32 → Option (dd_S)) (k_190 : dd_S → Int32 → Int32 → Int32 → Int32 → Int32 → Int32 → Int32 → Int32 → Option (dd_S)) (k_315 : dd_S → Int32 → Int32 → Int32 → Int32 → Int32 → Int32 → Int32 → Int32 → Int32 → Int32 → Option (dd_S)) (sg : dd_S) (v3 : Int32) (v4 : Int32) (v5 : Int32) (v6 : Int32) (v7 : Int32) (v10 : Int32) (v11 : Int32) (v12 : Int32) (v13 : Int32) (v14 : Int32) : Option (dd_S) := lt (v14 + (1 : Int32)) (fun x111 : Int32 => k_315 sg v3 v4 v5 v6 v7 v10 v11 v12 v13 x111)
def f_L_law_315 (L : Nat) (xs : Nat → Int32) (k_92 : dd_S → Int32 → Int32 → Int32 → Int32 → Int32 → Option (dd_S)) (k_190 : dd_S → Int32 → Int32 → Int32 → Int32 → Int32 → Int32 → Int32 → Int32 → Option (dd_S)) : Nat → dd_S → Int32 → Int32 → Int32 → Int32 → Int32 → Int32 → Int32 → Int32 → Int32 → Int32 → Option (dd_S)
  | 0, _, _, _, _, _, _, _, _, _, _, _ => none
  | n + 1, sg, v3, v4, v5, v6, v7, v10, v11, v12, v13, v14 => if v13 ≤ v14 then (lt (v12 + (1 : Int32)) (fun x82 : Int32 => k_190 sg v3 v4 v5 v6 v7 v10 v11 x82)) else (bd (f_X5_tripAt sg v12 v14) (fun r84 : Int32 => bd (f_X5_trip sg r84 (4 : Int32)) (fun r86 : Int32 => if r86 = v12 then (if v14 ≤ (0 : Int32) then (f_L_law_376 L xs k_92 k_190 (fun zs z0 z1 z2 z3 z4 z5 z6 z7 z8 z9 => f_L_law_315 L xs k_92 k_190 n zs z0 z1 z2 z3 z4 z5 z6 z7 z8 z9) sg v3 v4 v5 v6 v7 v10 v11 v12 v13 v14) else (bd (f_X5_tripAt sg v12 (v14 - (1 : Int32))) (fun r90 : Int32 => bd (f_X5_trip sg r90 (3 : Int32)) (fun r92 : Int32 => bd (f_X5_trip sg r84 (2 : Int32)) (fun r94 : Int32 => if r92 ≤ r94 then (f_L_law_376 L xs k_92 k_190 (fun zs z0 z1 z2 z3 z4 z5 z6 z7 z8 z9 => f_L_law_315 L xs k_92 k_190 n zs z0 z1 z2 z3 z4 z5 z6 z7 z8 z9) sg v3 v4 v5 v6 v7 v10 v11 v12 v13 v14) else (f_L_law_374 L xs sg)))))) else (f_L_law_374 L xs sg))))
def f_L_law_312 (L : Nat) (xs : Nat → Int32) (k_92 : dd_S → Int32 → Int32 → Int32 → Int32 → Int32 → Option (dd_S)) (k_190 : dd_S → Int32 → Int32 → Int32 → Int32 → Int32 → Int32 → Int32 → Int32 → Option (dd_S)) (sg : dd_S) (v3 : Int32) (v4 : Int32) (v5 : Int32) (v6 : Int32) (v7 : Int32) (v10 : Int32) (v11 : Int32) (v12 : Int32) (v13 : Int32) : Option (dd_S) := f_L_law_315 L xs k_92 k_190 64 sg v3 v4 v5 v6 v7 v10 v11 v12 v13 (0 : Int32)
def f_L_law_414 (L : Nat) (xs : Nat → Int32) (sg : dd_S) : Option (dd_S) := none
def f_L_law_539 (L : Nat) (xs : Nat → Int32) (sg : dd_S) : Option (dd_S) := none
def f_L_law_572 (L : Nat) (xs : Nat → Int32) (k_92 : dd_S → Int32 → Int32 → Int32 → Int32 → Int32 → Option (dd_S)) (k_419 : dd_S → Int32 → Int32 → Int32 → Int32 → Int32 → Int32 → Option (dd_S)) (k_435 : dd_S → Int32 → Int32 → Int32 → Int32 → Int32 → Int32 → Int32 → Int32 → Int32 → Option (dd_S)) (sg : dd_S) (v3 : Int32) (v4 : Int32) (v5 : Int32) (v6 : Int32) (v7 : Int32) (v12 : Int32) (v13 : Int32) (v14 : Int32) (v15 : Int32) : Option (dd_S) := lt (v15 + (1 : Int32)) (fun x112 : Int32 => k_435 sg v3 v4 v5 v6 v7 v12 v13 v14 x112)
def f_L_law_544 (L : Nat) (xs : Nat → Int32) (k_92 : dd_S → Int32 → Int32 → Int32 → Int32 → Int32 → Option (dd_S)) (k_419 : dd_S → Int32 → Int32 → Int32 → Int32 → Int32 → Int32 → Option (dd_S)) (k_435 : dd_S → Int32 → Int32 → Int32 → Int32 → Int32 → Int32 → Int32 → Int32 → Int32 → Option (dd_S)) : Nat → dd_S → Int32 → Int32 → Int32 → Int32 → Int32 → Int32 → Int32 → Int32 → Int32 → Int32 → Int32 → Option (dd_S)
  | 0, _, _, _, _, _, _, _, _, _, _, _, _ => none
  | n + 1, sg, v3, v4, v5, v6, v7, v12, v13, v14, v15, v16, v17 => if v12 ≤ v17 then (f_L_law_572 L xs k_92 k_419 k_435 sg v3 v4 v5 v6 v7 v12 v13 v14 v15) else (bd (f_X5_given sg v17 v15) (fun r115 : Int32 => if r115 = v16 then (none) else (lt (v17 + (1 : Int32)) (fun x117 : Int32 => f_L_law_544 L xs k_92 k_419 k_435 n sg v3 v4 v5 v6 v7 v12 v13 v14 v15 v16 x117))))
def f_L_law_541 (L : Nat) (xs : Nat → Int32) (k_92 : dd_S → Int32 → Int32 → Int32 → Int32 → Int32 → Option (dd_S)) (k_419 : dd_S → Int32 → Int32 → Int32 → Int32 → Int32 → Int32 → Option (dd_S)) (k_435 : dd_S → Int32 → Int32 → Int32 → Int32 → Int32 → Int32 → Int32 → Int32 → Int32 → Option (dd_S)) (sg : dd_S) (v3 : Int32) (v4 : Int32) (v5 : Int32) (v6 : Int32) (v7 : Int32) (v12 : Int32) (v13 : Int32) (v14 : Int32) (v15 : Int32) (v16 : Int32) : Option (dd_S) := f_L_law_544 L xs k_92 k_419 k_435 64 sg v3 v4 v5 v6 v7 v12 v13 v14 v15 v16 (0 : Int32)
def f_L_law_465 (L : Nat) (xs : Nat → Int32) (k_92 : dd_S → Int32 → Int32 → Int32 → Int32 → Int32 → Option (dd_S)) (k_419 : dd_S → Int32 → Int32 → Int32 → Int32 → Int32 → Int32 → Option (dd_S)) (k_435 : dd_S → Int32 → Int32 → Int32 → Int32 → Int32 → Int32 → Int32 → Int32 → Int32 → Option (dd_S)) (sg : dd_S) (v3 : Int32) (v4 : Int32) (v5 : Int32) (v6 : Int32) (v7 : Int32) (v12 : Int32) (v14 : Int32) (v15 : Int32) (v16 : Int32) (t0 : Int32) : Option (dd_S) := if t0 ≤ (5 : Int32) then (if (0 : Int32) ≤ v16 then (bd (f_X5_duty sg v16 (4 : Int32)) (fun r99 : Int32 => lt (v14 + r99) (fun x100 : Int32 => bd (f_X5_duty sg v16 (8 : Int32)) (fun r102 : Int32 => if r102 = (1 : Int32) then (if v15 ≤ (0 : Int32) then (f_L_law_541 L xs k_92 k_419 k_435 sg v3 v4 v5 v6 v7 v12 t0 x100 v15 v16) else (bd (f_X5_given sg v12 (v15 - (1 : Int32))) (fun r106 : Int32 => if r106 < (0 : Int32) then (f_L_law_541 L xs k_92 k_419 k_435 sg v3 v4 v5 v6 v7 v12 t0 x100 v15 v16) else (bd (f_X5_rest sg v12 v15) (fun r109 : Int32 => if (660 : Int32) ≤ r109 then (f_L_law_541 L xs k_92 k_419 k_435 sg v3 v4 v5 v6 v7 v12 t0 x100 v15 v16) else (f_L_law_539 L xs sg)))))) else (f_L_law_539 L xs sg))))) else (f_L_law_572 L xs k_92 k_419 k_435 sg v3 v4 v5 v6 v7 v12 t0 v14 v15)) else (none)
def f_L_law_597 (L : Nat) (xs : Nat → Int32) (sg : dd_S) : Option (dd_S) := none
def f_L_law_435 (L : Nat) (xs : Nat → Int32) (k_92 : dd_S → Int32 → Int32 → Int32 → Int32 → Int32 → Option (dd_S)) (k_419 : dd_S → Int32 → Int32 → Int32 → Int32 → Int32 → Int32 → Option (dd_S)) : Nat → dd_S → Int32 → Int32 → Int32 → Int32 → Int32 → Int32 → Int32 → Int32 → Int32 → Option (dd_S)
  | 0, _, _, _, _, _, _, _, _, _, _ => none
  | n + 1, sg, v3, v4, v5, v6, v7, v12, v13, v14, v15 => if (7 : Int32) ≤ v15 then (bd (f_X5_week sg v12) (fun r74 : Int32 => if r74 = v14 then (if v14 ≤ (2880 : Int32) then (lt (v12 + (1 : Int32)) (fun x77 : Int32 => k_419 sg v3 v4 v5 v6 v7 x77)) else (f_L_law_597 L xs sg)) else (f_L_law_597 L xs sg))) else (bd (f_X5_given sg v12 v15) (fun r79 : Int32 => if (0 : Int32) ≤ r79 then (f_L_law_465 L xs k_92 k_419 (fun zs z0 z1 z2 z3 z4 z5 z6 z7 z8 => f_L_law_435 L xs k_92 k_419 n zs z0 z1 z2 z3 z4 z5 z6 z7 z8) sg v3 v4 v5 v6 v7 v12 v14 v15 r79 (v13 + (1 : Int32))) else (f_L_law_465 L xs k_92 k_419 (fun zs z0 z1 z2 z3 z4 z5 z6 z7 z8 => f_L_law_435 L xs k_92 k_419 n zs z0 z1 z2 z3 z4 z5 z6 z7 z8) sg v3 v4 v5 v6 v7 v12 v14 v15 r79 (0 : Int32))))
def f_L_law_419 (L : Nat) (xs : Nat → Int32) (k_92 : dd_S → Int32 → Int32 → Int32 → Int32 → Int32 → Option (dd_S)) : Nat → dd_S → Int32 → Int32 → Int32 → Int32 → Int32 → Int32 → Option (dd_S)
  | 0, _, _, _, _, _, _, _ => none
  | n + 1, sg, v3, v4, v5, v6, v7, v12 => if v5 ≤ v12 then (lt (v7 + (1 : Int32)) (fun x71 : Int32 => k_92 sg v3 v4 v5 v6 x71)) else (f_L_law_435 L xs k_92 (fun zs z0 z1 z2 z3 z4 z5 => f_L_law_419 L xs k_92 n zs z0 z1 z2 z3 z4 z5) 64 sg v3 v4 v5 v6 v7 v12 (0 : Int32) (0 : Int32) (0 : Int32))
def f_L_law_190 (L : Nat) (xs : Nat → Int32) (k_92 : dd_S → Int32 → Int32 → Int32 → Int32 → Int32 → Option (dd_S)) : Nat → dd_S → Int32 → Int32 → Int32 → Int32 → Int32 → Int32 → Int32 → Int32 → Option (dd_S)
  | 0, _, _, _, _, _, _, _, _, _ => none
  | n + 1, sg, v3, v4, v5, v6, v7, v10, v11, v12 => bd (f_X5_count sg (1 : Int32)) (fun r37 : Int32 => if r37 ≤ v12 then (if v11 = v6 then (if v10 = (v3 - v4) then (bd (f_X5_count sg (3 : Int32)) (fun r42 : Int32 => if r42 = v4 then (f_L_law_419 L xs k_92 64 sg v3 v4 v5 v6 v7 (0 : Int32)) else (f_L_law_414 L xs sg))) else (f_L_law_414 L xs sg)) else (f_L_law_414 L xs sg)) else (bd (f_X5_duty sg v12 (0 : Int32)) (fun r45 : Int32 => lt (v10 + r45) (fun x46 : Int32 => bd (f_X5_duty sg v12 (4 : Int32)) (fun r48 : Int32 => lt (v11 + r48) (fun x49 : Int32 => bd (f_X5_duty sg v12 (7 : Int32)) (fun r51 : Int32 => if r51 = (1 : Int32) then (if r45 ≤ (0 : Int32) then (f_L_law_312 L xs k_92 (fun zs z0 z1 z2 z3 z4 z5 z6 z7 => f_L_law_190 L xs k_92 n zs z0 z1 z2 z3 z4 z5 z6 z7) sg v3 v4 v5 v6 v7 x46 x49 v12 r45) else (bd (f_X5_duty sg v12 (4 : Int32)) (fun r55 : Int32 => if r55 < (360 : Int32) then (f_L_law_310 L xs sg) else (bd (f_X5_duty sg v12 (4 : Int32)) (fun r58 : Int32 => bd (f_X5_duty sg v12 (3 : Int32)) (fun r60 : Int32 => if r58 < r60 then (f_L_law_310 L xs sg) else (bd (f_X5_duty sg v12 (6 : Int32)) (fun r63 : Int32 => if (270 : Int32) < r63 then (f_L_law_310 L xs sg) else (bd (f_X5_duty sg v12 (2 : Int32)) (fun r66 : Int32 => bd (f_X5_duty sg v12 (1 : Int32)) (fun r68 : Int32 => if (r66 - r68) ≤ (720 : Int32) then (f_L_law_312 L xs k_92 (fun zs z0 z1 z2 z3 z4 z5 z6 z7 => f_L_law_190 L xs k_92 n zs z0 z1 z2 z3 z4 z5 z6 z7) sg v3 v4 v5 v6 v7 x46 x49 v12 r45) else (f_L_law_310 L xs sg)))))))))))) else (f_L_law_310 L xs sg))))))))
def f_L_law_155 (L : Nat) (xs : Nat → Int32) (k_92 : dd_S → Int32 → Int32 → Int32 → Int32 → Int32 → Option (dd_S)) (sg : dd_S) (v3 : Int32) (v4 : Int32) (v5 : Int32) (v6 : Int32) (v7 : Int32) (v9 : Int32) : Option (dd_S) := if (0 : Int32) < v9 then (f_L_law_172 L xs sg) else (bd (f_X5_pay sg) (fun r33 : Int32 => if r33 = (v6 + v9) then (lt (v6 + v9) (fun x35 : Int32 => f_L_law_190 L xs k_92 64 sg v3 v4 v5 x35 v7 (0 : Int32) (0 : Int32) (0 : Int32))) else (f_L_law_172 L xs sg)))
def f_L_law_92 (L : Nat) (xs : Nat → Int32) : Nat → dd_S → Int32 → Int32 → Int32 → Int32 → Int32 → Option (dd_S)
  | 0, _, _, _, _, _, _ => none
  | n + 1, sg, v3, v4, v5, v6, v7 => if (12 : Int32) ≤ v7 then (some sg) else (bd (f_L_cell sg L xs ((8 : Int32) + (v7 - v7 / (6 : Int32) * (6 : Int32)))) (fun r18 : Int32 => lt (r18 ^^^ (v7 * (2741 : Int32))) (fun x19 : Int32 => bd (f_L_below sg x19 (3 : Int32)) (fun r21 : Int32 => if r21 = (0 : Int32) then (bd2 (f_X5_improve sg) (fun (r30 : Int32) (sg29 : dd_S) => f_L_law_155 L xs (fun zs z0 z1 z2 z3 z4 => f_L_law_92 L xs n zs z0 z1 z2 z3 z4) sg29 v3 v4 v5 v6 v7 r30)) else (bd (f_L_below sg (x19 >>> ((3 : Int32) &&& 31)) (7 : Int32)) (fun r24 : Int32 => bd2 (f_X5_fill sg r24) (fun (r27 : Int32) (sg26 : dd_S) => f_L_law_155 L xs (fun zs z0 z1 z2 z3 z4 => f_L_law_92 L xs n zs z0 z1 z2 z3 z4) sg26 v3 v4 v5 v6 v7 (0 : Int32))))))))
def f_L_law_65 (L : Nat) (xs : Nat → Int32) : Nat → dd_S → Int32 → Int32 → Int32 → Int32 → Option (dd_S)
  | 0, _, _, _, _, _ => none
  | n + 1, sg, v3, v4, v5, v6 => if v5 ≤ v6 then (bd (f_X5_pay sg) (fun r11 : Int32 => f_L_law_92 L xs 64 sg v3 v4 v5 r11 (0 : Int32))) else (bd2 (f_X5_addDriver sg) (fun (r14 : Int32) (sg13 : dd_S) => lt (v6 + (1 : Int32)) (fun x15 : Int32 => f_L_law_65 L xs n sg13 v3 v4 v5 x15)))
def f_L_law_42 (L : Nat) (xs : Nat → Int32) (sg : dd_S) (v3 : Int32) : Option (dd_S) := bd2 (f_X5_plan sg) (fun (r3 : Int32) (sg2 : dd_S) => bd (f_L_cell sg2 L xs (7 : Int32)) (fun r5 : Int32 => bd (f_L_below sg2 r5 (5 : Int32)) (fun r7 : Int32 => lt ((2 : Int32) + r7) (fun x8 : Int32 => f_L_law_65 L xs 64 sg2 v3 r3 x8 (0 : Int32)))))
theorem qw_328 : Cond.constant RL 7 (2147483647 : Int32) ∈ lw_all := lw_in 597 (by decide +kernel) rfl
theorem qw_329 : Cond.constant RL 8 (790386105 : Int32) ∈ lw_all := lw_in 601 (by decide +kernel) rfl
theorem qw_330 : Cond.methodLink RL 9 yL_cell ∈ lw_all := lw_in 598 (by decide +kernel) rfl
theorem qw_331 : Cond.static yL_cell ∈ lw_all := lw_in 599 (by decide +kernel) rfl
theorem qw_332 : Cond.initialized RL ∈ lw_all := lw_in 37 (by decide +kernel) rfl
theorem qw_333 : Cond.code yL_cell cL_cell 2 (some .int) ∈ lw_all := lw_in 600 (by decide +kernel) rfl
theorem qw_334 : Cond.methodLink RL 15 yL_below ∈ lw_all := lw_in 594 (by decide +kernel) rfl
theorem qw_335 : Cond.static yL_below ∈ lw_all := lw_in 595 (by decide +kernel) rfl
theorem qw_336 : Cond.code yL_below cL_below 2 (some .int) ∈ lw_all := lw_in 596 (by decide +kernel) rfl
theorem qw_337 : Cond.methodLink RL 19 yX5_addTrip ∈ lw_all := lw_in 605 (by decide +kernel) rfl
theorem qw_338 : Cond.instanceMethod yX5_addTrip ∈ lw_all := lw_in 606 (by decide +kernel) rfl
theorem qw_339 : Cond.selects RX5 yX5_addTrip yX5_addTrip ∈ lw_all := lw_in 607 (by decide +kernel) rfl
theorem qw_340 : Cond.code yX5_addTrip cX5_addTrip 5 (some .int) ∈ lw_all := lw_in 608 (by decide +kernel) rfl
theorem qw_341 : Cond.methodLink RL 30 yX5_plan ∈ lw_all := lw_in 378 (by decide +kernel) rfl
theorem qw_342 : Cond.instanceMethod yX5_plan ∈ lw_all := lw_in 379 (by decide +kernel) rfl
theorem qw_343 : Cond.selects RX5 yX5_plan yX5_plan ∈ lw_all := lw_in 380 (by decide +kernel) rfl
theorem qw_344 : Cond.code yX5_plan cX5_plan 2 (some .int) ∈ lw_all := lw_in 381 (by decide +kernel) rfl
theorem qw_345 : Cond.methodLink RL 37 yX5_pay ∈ lw_all := lw_in 498 (by decide +kernel) rfl
theorem qw_346 : Cond.instanceMethod yX5_pay ∈ lw_all := lw_in 499 (by decide +kernel) rfl
theorem qw_347 : Cond.selects RX5 yX5_pay yX5_pay ∈ lw_all := lw_in 500 (by decide +kernel) rfl
theorem qw_348 : Cond.code yX5_pay cX5_pay 3 (some .int) ∈ lw_all := lw_in 501 (by decide +kernel) rfl
theorem qw_349 : Cond.methodLink RL 34 yX5_addDriver ∈ lw_all := lw_in 507 (by decide +kernel) rfl
theorem qw_350 : Cond.instanceMethod yX5_addDriver ∈ lw_all := lw_in 508 (by decide +kernel) rfl
theorem qw_351 : Cond.selects RX5 yX5_addDriver yX5_addDriver ∈ lw_all := lw_in 509 (by decide +kernel) rfl
theorem qw_352 : Cond.code yX5_addDriver cX5_addDriver 1 (some .int) ∈ lw_all := lw_in 510 (by decide +kernel) rfl
theorem qw_353 : Cond.methodLink RL 43 yX5_fill ∈ lw_all := lw_in 539 (by decide +kernel) rfl
theorem qw_354 : Cond.instanceMethod yX5_fill ∈ lw_all := lw_in 540 (by decide +kernel) rfl
theorem qw_355 : Cond.selects RX5 yX5_fill yX5_fill ∈ lw_all := lw_in 541 (by decide +kernel) rfl
theorem qw_356 : Cond.code yX5_fill cX5_fill 3 (some .int) ∈ lw_all := lw_in 542 (by decide +kernel) rfl
theorem qw_357 : Cond.methodLink RL 40 yX5_improve ∈ lw_all := lw_in 458 (by decide +kernel) rfl
theorem qw_358 : Cond.instanceMethod yX5_improve ∈ lw_all := lw_in 459 (by decide +kernel) rfl
theorem qw_359 : Cond.selects RX5 yX5_improve yX5_improve ∈ lw_all := lw_in 460 (by decide +kernel) rfl
theorem qw_360 : Cond.code yX5_improve cX5_improve 2 (some .int) ∈ lw_all := lw_in 461 (by decide +kernel) rfl
theorem qw_361 : Cond.methodLink RL 47 yX5_count ∈ lw_all := lw_in 331 (by decide +kernel) rfl
theorem qw_362 : Cond.instanceMethod yX5_count ∈ lw_all := lw_in 332 (by decide +kernel) rfl
theorem qw_363 : Cond.selects RX5 yX5_count yX5_count ∈ lw_all := lw_in 333 (by decide +kernel) rfl
theorem qw_364 : Cond.code yX5_count cX5_count 2 (some .int) ∈ lw_all := lw_in 334 (by decide +kernel) rfl
theorem qw_365 : Cond.methodLink RL 50 yX5_duty ∈ lw_all := lw_in 340 (by decide +kernel) rfl
theorem qw_366 : Cond.instanceMethod yX5_duty ∈ lw_all := lw_in 341 (by decide +kernel) rfl
theorem qw_367 : Cond.selects RX5 yX5_duty yX5_duty ∈ lw_all := lw_in 342 (by decide +kernel) rfl
theorem qw_368 : Cond.code yX5_duty cX5_duty 3 (some .int) ∈ lw_all := lw_in 343 (by decide +kernel) rfl
theorem qw_369 : Cond.methodLink RL 65 yX5_week ∈ lw_all := lw_in 584 (by decide +kernel) rfl
theorem qw_370 : Cond.instanceMethod yX5_week ∈ lw_all := lw_in 585 (by decide +kernel) rfl
theorem qw_371 : Cond.selects RX5 yX5_week yX5_week ∈ lw_all := lw_in 586 (by decide +kernel) rfl
theorem qw_372 : Cond.code yX5_week cX5_week 2 (some .int) ∈ lw_all := lw_in 587 (by decide +kernel) rfl
theorem qw_373 : Cond.methodLink RL 59 yX5_given ∈ lw_all := lw_in 527 (by decide +kernel) rfl
theorem qw_374 : Cond.instanceMethod yX5_given ∈ lw_all := lw_in 528 (by decide +kernel) rfl
theorem qw_375 : Cond.selects RX5 yX5_given yX5_given ∈ lw_all := lw_in 529 (by decide +kernel) rfl
theorem qw_376 : Cond.code yX5_given cX5_given 3 (some .int) ∈ lw_all := lw_in 530 (by decide +kernel) rfl
theorem qw_377 : Cond.methodLink RL 53 yX5_tripAt ∈ lw_all := lw_in 369 (by decide +kernel) rfl
theorem qw_378 : Cond.instanceMethod yX5_tripAt ∈ lw_all := lw_in 370 (by decide +kernel) rfl
theorem qw_379 : Cond.selects RX5 yX5_tripAt yX5_tripAt ∈ lw_all := lw_in 371 (by decide +kernel) rfl
theorem qw_380 : Cond.code yX5_tripAt cX5_tripAt 3 (some .int) ∈ lw_all := lw_in 372 (by decide +kernel) rfl
theorem qw_381 : Cond.methodLink RL 56 yX5_trip ∈ lw_all := lw_in 231 (by decide +kernel) rfl
theorem qw_382 : Cond.instanceMethod yX5_trip ∈ lw_all := lw_in 232 (by decide +kernel) rfl
theorem qw_383 : Cond.selects RX5 yX5_trip yX5_trip ∈ lw_all := lw_in 233 (by decide +kernel) rfl
theorem qw_384 : Cond.code yX5_trip cX5_trip 3 (some .int) ∈ lw_all := lw_in 234 (by decide +kernel) rfl
theorem qw_385 : Cond.methodLink RL 62 yX5_rest ∈ lw_all := lw_in 589 (by decide +kernel) rfl
theorem qw_386 : Cond.instanceMethod yX5_rest ∈ lw_all := lw_in 590 (by decide +kernel) rfl
theorem qw_387 : Cond.selects RX5 yX5_rest yX5_rest ∈ lw_all := lw_in 591 (by decide +kernel) rfl
theorem qw_388 : Cond.code yX5_rest cX5_rest 5 (some .int) ∈ lw_all := lw_in 592 (by decide +kernel) rfl
theorem gl_L_9 : GoodIn lw_all (wsS RL 9 yL_cell (lw_ws yL_cell cL_cell 2 (some .int))) := lw_gS qw_330 qw_331 qw_332 qw_333
theorem yd_L_cell : yL_cell.cls = RL ∧ yL_cell.cls ≠ "java/lang/invoke/MethodHandle" ∧ yL_cell.cls ≠ "java/lang/invoke/VarHandle" ∧ (parseMethodDescriptor yL_cell.desc).map (fun d => d.parameters.length) = some 2 := by decide +kernel
theorem gl_L_15 : GoodIn lw_all (wsS RL 15 yL_below (lw_ws yL_below cL_below 2 (some .int))) := lw_gS qw_334 qw_335 qw_332 qw_336
theorem yd_L_below : yL_below.cls = RL ∧ yL_below.cls ≠ "java/lang/invoke/MethodHandle" ∧ yL_below.cls ≠ "java/lang/invoke/VarHandle" ∧ (parseMethodDescriptor yL_below.desc).map (fun d => d.parameters.length) = some 2 := by decide +kernel
theorem gl_L_19 : GoodIn lw_all (wsV RL 19 RX5 yX5_addTrip (lw_ws yX5_addTrip cX5_addTrip 5 (some .int))) := lw_gV qw_337 qw_338 qw_339 qw_88 qw_340
theorem yd_X5_addTrip : yX5_addTrip.cls = RX5 ∧ yX5_addTrip.cls ≠ "java/lang/invoke/MethodHandle" ∧ yX5_addTrip.cls ≠ "java/lang/invoke/VarHandle" ∧ (parseMethodDescriptor yX5_addTrip.desc).map (fun d => d.parameters.length) = some 4 := by decide +kernel
theorem gl_L_30 : GoodIn lw_all (wsV RL 30 RX5 yX5_plan (lw_ws yX5_plan cX5_plan 2 (some .int))) := lw_gV qw_341 qw_342 qw_343 qw_88 qw_344
theorem yd_X5_plan : yX5_plan.cls = RX5 ∧ yX5_plan.cls ≠ "java/lang/invoke/MethodHandle" ∧ yX5_plan.cls ≠ "java/lang/invoke/VarHandle" ∧ (parseMethodDescriptor yX5_plan.desc).map (fun d => d.parameters.length) = some 0 := by decide +kernel
theorem gl_L_37 : GoodIn lw_all (wsV RL 37 RX5 yX5_pay (lw_ws yX5_pay cX5_pay 3 (some .int))) := lw_gV qw_345 qw_346 qw_347 qw_88 qw_348
theorem yd_X5_pay : yX5_pay.cls = RX5 ∧ yX5_pay.cls ≠ "java/lang/invoke/MethodHandle" ∧ yX5_pay.cls ≠ "java/lang/invoke/VarHandle" ∧ (parseMethodDescriptor yX5_pay.desc).map (fun d => d.parameters.length) = some 0 := by decide +kernel
theorem gl_L_34 : GoodIn lw_all (wsV RL 34 RX5 yX5_addDriver (lw_ws yX5_addDriver cX5_addDriver 1 (some .int))) := lw_gV qw_349 qw_350 qw_351 qw_88 qw_352
theorem yd_X5_addDriver : yX5_addDriver.cls = RX5 ∧ yX5_addDriver.cls ≠ "java/lang/invoke/MethodHandle" ∧ yX5_addDriver.cls ≠ "java/lang/invoke/VarHandle" ∧ (parseMethodDescriptor yX5_addDriver.desc).map (fun d => d.parameters.length) = some 0 := by decide +kernel
theorem gl_L_43 : GoodIn lw_all (wsV RL 43 RX5 yX5_fill (lw_ws yX5_fill cX5_fill 3 (some .int))) := lw_gV qw_353 qw_354 qw_355 qw_88 qw_356
theorem yd_X5_fill : yX5_fill.cls = RX5 ∧ yX5_fill.cls ≠ "java/lang/invoke/MethodHandle" ∧ yX5_fill.cls ≠ "java/lang/invoke/VarHandle" ∧ (parseMethodDescriptor yX5_fill.desc).map (fun d => d.parameters.length) = some 1 := by decide +kernel
theorem gl_L_40 : GoodIn lw_all (wsV RL 40 RX5 yX5_improve (lw_ws yX5_improve cX5_improve 2 (some .int))) := lw_gV qw_357 qw_358 qw_359 qw_88 qw_360
theorem yd_X5_improve : yX5_improve.cls = RX5 ∧ yX5_improve.cls ≠ "java/lang/invoke/MethodHandle" ∧ yX5_improve.cls ≠ "java/lang/invoke/VarHandle" ∧ (parseMethodDescriptor yX5_improve.desc).map (fun d => d.parameters.length) = some 0 := by decide +kernel
theorem gl_L_47 : GoodIn lw_all (wsV RL 47 RX5 yX5_count (lw_ws yX5_count cX5_count 2 (some .int))) := lw_gV qw_361 qw_362 qw_363 qw_88 qw_364
theorem yd_X5_count : yX5_count.cls = RX5 ∧ yX5_count.cls ≠ "java/lang/invoke/MethodHandle" ∧ yX5_count.cls ≠ "java/lang/invoke/VarHandle" ∧ (parseMethodDescriptor yX5_count.desc).map (fun d => d.parameters.length) = some 1 := by decide +kernel
theorem gl_L_50 : GoodIn lw_all (wsV RL 50 RX5 yX5_duty (lw_ws yX5_duty cX5_duty 3 (some .int))) := lw_gV qw_365 qw_366 qw_367 qw_88 qw_368
theorem yd_X5_duty : yX5_duty.cls = RX5 ∧ yX5_duty.cls ≠ "java/lang/invoke/MethodHandle" ∧ yX5_duty.cls ≠ "java/lang/invoke/VarHandle" ∧ (parseMethodDescriptor yX5_duty.desc).map (fun d => d.parameters.length) = some 2 := by decide +kernel
theorem gl_L_65 : GoodIn lw_all (wsV RL 65 RX5 yX5_week (lw_ws yX5_week cX5_week 2 (some .int))) := lw_gV qw_369 qw_370 qw_371 qw_88 qw_372
theorem yd_X5_week : yX5_week.cls = RX5 ∧ yX5_week.cls ≠ "java/lang/invoke/MethodHandle" ∧ yX5_week.cls ≠ "java/lang/invoke/VarHandle" ∧ (parseMethodDescriptor yX5_week.desc).map (fun d => d.parameters.length) = some 1 := by decide +kernel
theorem gl_L_59 : GoodIn lw_all (wsV RL 59 RX5 yX5_given (lw_ws yX5_given cX5_given 3 (some .int))) := lw_gV qw_373 qw_374 qw_375 qw_88 qw_376
theorem yd_X5_given : yX5_given.cls = RX5 ∧ yX5_given.cls ≠ "java/lang/invoke/MethodHandle" ∧ yX5_given.cls ≠ "java/lang/invoke/VarHandle" ∧ (parseMethodDescriptor yX5_given.desc).map (fun d => d.parameters.length) = some 2 := by decide +kernel
theorem gl_L_53 : GoodIn lw_all (wsV RL 53 RX5 yX5_tripAt (lw_ws yX5_tripAt cX5_tripAt 3 (some .int))) := lw_gV qw_377 qw_378 qw_379 qw_88 qw_380
theorem yd_X5_tripAt : yX5_tripAt.cls = RX5 ∧ yX5_tripAt.cls ≠ "java/lang/invoke/MethodHandle" ∧ yX5_tripAt.cls ≠ "java/lang/invoke/VarHandle" ∧ (parseMethodDescriptor yX5_tripAt.desc).map (fun d => d.parameters.length) = some 2 := by decide +kernel
theorem gl_L_56 : GoodIn lw_all (wsV RL 56 RX5 yX5_trip (lw_ws yX5_trip cX5_trip 3 (some .int))) := lw_gV qw_381 qw_382 qw_383 qw_88 qw_384
theorem yd_X5_trip : yX5_trip.cls = RX5 ∧ yX5_trip.cls ≠ "java/lang/invoke/MethodHandle" ∧ yX5_trip.cls ≠ "java/lang/invoke/VarHandle" ∧ (parseMethodDescriptor yX5_trip.desc).map (fun d => d.parameters.length) = some 2 := by decide +kernel
theorem gl_L_62 : GoodIn lw_all (wsV RL 62 RX5 yX5_rest (lw_ws yX5_rest cX5_rest 5 (some .int))) := lw_gV qw_385 qw_386 qw_387 qw_88 qw_388
theorem yd_X5_rest : yX5_rest.cls = RX5 ∧ yX5_rest.cls ≠ "java/lang/invoke/MethodHandle" ∧ yX5_rest.cls ≠ "java/lang/invoke/VarHandle" ∧ (parseMethodDescriptor yX5_rest.desc).map (fun d => d.parameters.length) = some 2 := by decide +kernel
set_option maxHeartbeats 4000000 in
set_option maxRecDepth 100000 in
theorem c_L_below (l : Launch) (g : dd_G) (ad : Nat → Nat) (X : va_W) (sz : Nat) (sg : dd_S) (a0 : Int32) (a1 : Int32) (r0 : Int32) (hf : f_L_below sg a0 a1 = some r0) : Met l yL_below (lw_ws yL_below cL_below 2 (some .int)) ({ frames := 0, cells := 0, slots := 0, locals := 0 } : Room) (va_Pc [.int a0, .int a1] (PreW g (WC g ad sg ++ X) sz)) (QI g (WC g ad sg ++ X) (dd_A 59 ad X sz) r0) 0 0 (dd_A 59 ad X sz) := by
  refine Met.ofW (cc := cL_below) (maxL := 2) (ret := some .int) (by decide) rfl ?_
  intro p e s m args below meth c s₁ B hml hv
  obtain ⟨rfl, rfl, hP, hK, hD0⟩ := hv
  have hx := B.exec
  have hb := B.bytes
  have hr := B.returns
  have hts := atoms_spec (ws := (lw_ws yL_below cL_below 2 (some .int))) B.pre
  have hts : ∀ w ∈ lw_all, w.before _ s = true := fun w h => hts w (List.mem_cons_of_mem _ h)
  have hown : s.vm.findClass RL = some m.cls := findClass_of_methodNamed B.named
  have hlocks := B.notSynchronized
  have hD : ∀ s2 : dd_S, va_D (dd_A 59 ad X s.heap.size) (WC g ad s2 ++ X) := fun s2 => dd_D (dd_A_D hD0)
  have hS : va_S (dd_A 59 ad X s.heap.size) s.heap s.heap [] := va_S.rf
  unfold f_L_below at hf
  have hl := lv_entry ([.int a0, .int a1]) (n := 2) (Nat.le_of_ble_eq_true rfl)
  rw [lg_entry_eq]
  generalize (lg_sl ([.int a0, .int a1]) ++ List.replicate (2 - (lg_sl ([.int a0, .int a1])).length) Slot.unset).toArray = ls at hl ⊢
  have hl : lv_has ls 2 [(0, .int a0), (1, .int a1)] := hl
  refine lv_iload_n hx hb dL_below_0 rfl (lv_at hl 0 rfl) ?_
  refine lv_ldc (v := (2147483647 : Int32)) hx hb hown (hts _ qw_328) dL_below_1 ?_
  refine lv_iand hx hb dL_below_3 ?_
  refine lv_iload_n hx hb dL_below_4 rfl (lv_at hl 1 rfl) ?_
  obtain ⟨hi1, hf⟩ := gd_so hf
  refine lv_irem hx hb dL_below_5 (of_decide_eq_true hi1) ?_
  exact W.iret (v := ((a0 &&& (2147483647 : Int32)) - (a0 &&& (2147483647 : Int32)) / a1 * a1)) hx hb hr (fun t ht hW => ⟨⟨((a0 &&& (2147483647 : Int32)) - (a0 &&& (2147483647 : Int32)) / a1 * a1), (), rfl, so1 hf, P_at ht hP⟩, hS.F ht⟩) hS.2.2 dL_below_6
set_option maxHeartbeats 4000000 in
set_option maxRecDepth 100000 in
theorem c_L_cell (l : Launch) (g : dd_G) (ad : Nat → Nat) (X : va_W) (sz : Nat) (sg : dd_S) (b L : Nat) (xs : Nat → Int32) (a1 : Int32) (hbA : ¬ (dd_A 59 ad X sz) b) (r0 : Int32) (hf : f_L_cell sg L xs a1 = some r0) : Met l yL_cell (lw_ws yL_cell cL_cell 2 (some .int)) ({ frames := 0, cells := 0, slots := 0, locals := 0 } : Room) (va_Pc [.ref b, .int a1] (PreZ g (WC g ad sg ++ X) sz b L xs)) (QI g (WC g ad sg ++ X) (dd_A 59 ad X sz) r0) 0 0 (dd_A 59 ad X sz) := by
  refine Met.ofW (cc := cL_cell) (maxL := 2) (ret := some .int) (by decide) rfl ?_
  intro p e s m args below meth c s₁ B hml hv
  obtain ⟨rfl, ⟨rfl, hP, hK, hD0⟩, hX, hbl⟩ := hv
  have hx := B.exec
  have hb := B.bytes
  have hr := B.returns
  have hts := atoms_spec (ws := (lw_ws yL_cell cL_cell 2 (some .int))) B.pre
  have hts : ∀ w ∈ lw_all, w.before _ s = true := fun w h => hts w (List.mem_cons_of_mem _ h)
  have hown : s.vm.findClass RL = some m.cls := findClass_of_methodNamed B.named
  have hlocks := B.notSynchronized
  have hD : ∀ s2 : dd_S, va_D (dd_A 59 ad X s.heap.size) (WC g ad s2 ++ X) := fun s2 => dd_D (dd_A_D hD0)
  have hS : va_S (dd_A 59 ad X s.heap.size) s.heap s.heap [] := va_S.rf
  have hL_18 : ∀ (t0 : Int32) (H : Heap) (locs : List Loc) (ls : Array Slot), f_L_cell_18 sg L xs a1 t0 = some r0 → va_P g.1 vwCl (WC g ad sg ++ X) H → va_S (dd_A 59 ad X s.heap.size) s.heap H locs → lv_has ls 2 [] → W p l e (headSpec (lw_ws yL_cell cL_cell 2 (some .int)) ({ frames := 0, cells := 0, slots := 0, locals := 0 } : Room)).room s m ([.ref b, .int a1] : List Value).toArray below meth c H locs 0 0 (MQ below (QI g (WC g ad sg ++ X) (dd_A 59 ad X s.heap.size) r0) ([.ref b, .int a1] : List Value).toArray s 0 0 (dd_A 59 ad X s.heap.size)) (F0 m 18 ls [.int t0]) := by
    intro t0 H locs ls hf hP hS hl
    unfold f_L_cell_18 at hf
    exact W.iret (v := t0) hx hb hr (fun t ht hW => ⟨⟨t0, (), rfl, so1 hf, P_at ht hP⟩, hS.F ht⟩) hS.2.2 dL_cell_18
  unfold f_L_cell at hf
  have hl := lv_entry ([.ref b, .int a1]) (n := 2) (Nat.le_of_ble_eq_true rfl)
  rw [lg_entry_eq]
  generalize (lg_sl ([.ref b, .int a1]) ++ List.replicate (2 - (lg_sl ([.ref b, .int a1])).length) Slot.unset).toArray = ls at hl ⊢
  have hl : lv_has ls 2 [(0, .ref b), (1, .int a1)] := hl
  refine lv_iload_n hx hb dL_cell_0 rfl (lv_at hl 1 rfl) ?_
  refine lv_aload_n hx hb dL_cell_1 rfl (lv_at hl 0 rfl) ?_
  refine va_slen hx hb hX hbl hbA hS dL_cell_2 ?_
  refine lv_icmp_ge (tgt := 12) hx hb dL_cell_3 (by decide) (fun c1 => ?_) (fun c1 => ?_)
  · have hf := if_t c1 hf
    refine lv_ldc (v := (790386105 : Int32)) hx hb hown (hts _ qw_329) dL_cell_12 ?_
    refine lv_iload_n hx hb dL_cell_14 rfl (lv_at hl 1 rfl) ?_
    refine lv_iconst (v := (3 : Int32)) hx hb dL_cell_15 (by decide) ?_
    refine lv_iadd hx hb dL_cell_16 ?_
    refine lv_imul hx hb dL_cell_17 ?_
    exact hL_18 ((790386105 : Int32) * (a1 + (3 : Int32))) _ _ _ hf hP hS (lv_sub hl [] rfl)
  · have hf := if_f c1 hf
    refine lv_aload_n hx hb dL_cell_6 rfl (lv_at hl 0 rfl) ?_
    refine lv_iload_n hx hb dL_cell_7 rfl (lv_at hl 1 rfl) ?_
    obtain ⟨hi2, hf⟩ := gd_so hf
    refine va_sld hx hb hX hbl hbA hS (ix_in hi2) dL_cell_8 ?_
    refine lv_goto (tgt := 18) hx hb dL_cell_9 (by decide) ?_
    exact hL_18 (xs a1.toNatClampNeg) _ _ _ hf hP hS (lv_sub hl [] rfl)
set_option maxHeartbeats 4000000 in
set_option maxRecDepth 100000 in
theorem c_L_trips (l : Launch) (g : dd_G) (ad : Nat → Nat) (q0 : Nat) (cA0 : ClassId) (tm : Nat → Int32) (sz : Nat) (sg : dd_S) (b L : Nat) (xs : Nat → Int32) (a2 : Int32) (a3 : Int32) (hbA : ¬ (dd_A 59 ad [(q0, .inl (cA0, 160, .inl (fun _ => 0)))] sz) b) (s0 : dd_S) (tm0 : Nat → Int32) (hf : f_L_trips sg tm L xs a2 a3 = some (s0, tm0)) : Met l yL_trips (lw_ws yL_trips cL_trips 7 (some .int)) ({ frames := 2, cells := 0, slots := 0, locals := 48 } : Room) (va_Pc [.ref (ad 30), .ref b, .int a2, .int a3, .ref q0] (PreT g ad q0 cA0 sz b L xs sg tm)) (QI g (WC g ad s0 ++ [(q0, .inl (cA0, 160, .inl tm0))]) (dd_A 59 ad [(q0, .inl (cA0, 160, .inl (fun _ => 0)))] sz) a3) 0 0 (dd_A 59 ad [(q0, .inl (cA0, 160, .inl (fun _ => 0)))] sz) := by
  refine Met.ofW (cc := cL_trips) (maxL := 7) (ret := some .int) (by decide) rfl ?_
  intro p e s m args below meth c s₁ B hml hv
  obtain ⟨rfl, ⟨⟨rfl, hP, hK, hD0⟩, hX, hbl⟩, hKA⟩ := hv
  have hx := B.exec
  have hb := B.bytes
  have hr := B.returns
  have hts := atoms_spec (ws := (lw_ws yL_trips cL_trips 7 (some .int))) B.pre
  have hts : ∀ w ∈ lw_all, w.before _ s = true := fun w h => hts w (List.mem_cons_of_mem _ h)
  have hown : s.vm.findClass RL = some m.cls := findClass_of_methodNamed B.named
  have hlocks := B.notSynchronized
  have hT : TL g ad s q0 cA0 (dd_A 59 ad [(q0, .inl (cA0, 160, .inl (fun _ => 0)))] s.heap.size) := ⟨trivial, hKA, fun s2 f => TL_D hD0 s2 f⟩
  have hD : ∀ s2 : dd_S, va_D (dd_A 59 ad [(q0, .inl (cA0, 160, .inl (fun _ => 0)))] s.heap.size) (WC g ad s2 ++ [(q0, .inl (cA0, 160, .inl tm))]) := fun s2 => hT.2.2 s2 tm
  have hS : va_S (dd_A 59 ad [(q0, .inl (cA0, 160, .inl (fun _ => 0)))] s.heap.size) s.heap s.heap [] := va_S.rf
  have hL_3 : ∀ (n : Nat), ∀ (sg : dd_S) (tm : Nat → Int32) (v5 : Int32) (H : Heap) (locs : List Loc) (ls : Array Slot), f_L_trips_3 L xs a2 a3 n sg tm v5 = some (s0, tm0) → va_P g.1 vwCl (WC g ad sg ++ [(q0, .inl (cA0, 160, .inl tm))]) H → va_S (dd_A 59 ad [(q0, .inl (cA0, 160, .inl (fun _ => 0)))] s.heap.size) s.heap H locs → lv_has ls 7 [(0, .ref (ad 30)), (1, .ref b), (2, .int a2), (3, .int a3), (4, .ref q0), (5, .int v5)] → W p l e (headSpec (lw_ws yL_trips cL_trips 7 (some .int)) ({ frames := 2, cells := 0, slots := 0, locals := 48 } : Room)).room s m ([.ref (ad 30), .ref b, .int a2, .int a3, .ref q0] : List Value).toArray below meth c H locs 0 0 (MQ below (QI g (WC g ad s0 ++ [(q0, .inl (cA0, 160, .inl tm0))]) (dd_A 59 ad [(q0, .inl (cA0, 160, .inl (fun _ => 0)))] s.heap.size) a3) ([.ref (ad 30), .ref b, .int a2, .int a3, .ref q0] : List Value).toArray s 0 0 (dd_A 59 ad [(q0, .inl (cA0, 160, .inl (fun _ => 0)))] s.heap.size)) (F0 m 3 ls []) := by
    intro n
    induction n with
    | zero =>
      intro sg tm v5 H locs ls hf
      rw [f_L_trips_3] at hf
      cases hf
    | succ n ih =>
      intro sg tm v5 H locs ls hf hP hS hl
      rw [f_L_trips_3] at hf
      have hD : ∀ s2 : dd_S, va_D (dd_A 59 ad [(q0, .inl (cA0, 160, .inl (fun _ => 0)))] s.heap.size) (WC g ad s2 ++ [(q0, .inl (cA0, 160, .inl tm))]) := fun s2 => hT.2.2 s2 tm
      refine lv_iload hx hb dL_trips_3 (lv_at hl 5 rfl) ?_
      refine lv_iload_n hx hb dL_trips_5 rfl (lv_at hl 3 rfl) ?_
      refine lv_icmp_ge (tgt := 179) hx hb dL_trips_6 (by decide) (fun c1 => ?_) (fun c1 => ?_)
      · have hf := if_t c1 hf
        refine lv_iload_n hx hb dL_trips_179 rfl (lv_at hl 3 rfl) ?_
        obtain ⟨e1, e2⟩ := so2 hf
        rw [e1, e2] at hP
        exact W.iret (v := a3) hx hb hr (fun t ht hW => ⟨⟨a3, (), rfl, rfl, P_at ht hP⟩, hS.F ht⟩) hS.2.2 dL_trips_180
      · have hf := if_f c1 hf
        refine lv_aload_n hx hb dL_trips_9 rfl (lv_at hl 1 rfl) ?_
        refine lv_iload_n hx hb dL_trips_10 rfl (lv_at hl 2 rfl) ?_
        refine lv_iload hx hb dL_trips_11 (lv_at hl 5 rfl) ?_
        refine lv_bipush (v := (6 : Int32)) hx hb dL_trips_13 (by decide) ?_
        refine lv_irem hx hb dL_trips_15 (by decide) ?_
        refine lv_iadd hx hb dL_trips_16 ?_
        obtain ⟨r3, q2, hf⟩ := bd_so hf
        refine cl_i (va_runS (As := [.ref b, .int (a2 + (v5 - v5 / (6 : Int32) * (6 : Int32)))]) (rest := []) ⟨hx, hb, hml, hown, hts⟩ (c_L_cell l g ad [(q0, .inl (cA0, 160, .inl tm))] _ sg b L xs (a2 + (v5 - v5 / (6 : Int32) * (6 : Int32))) (fun h => hbA (dd_A_l1 hS.1 h)) r3 q2) (cwS 2 hts gl_L_9 rfl rfl rfl yd_L_cell ⟨Nat.le_of_ble_eq_true rfl, Nat.le_of_ble_eq_true rfl⟩) (preZ_of hK hP (hD sg) hX hbl hbA hS) rfl rfl hl.1 rfl (lv_room (Nat.le_of_ble_eq_true rfl)) dL_trips_17 ⟨Nat.le_of_ble_eq_true rfl, Nat.le_of_ble_eq_true rfl⟩) hS (fun q h => dd_A_l1 hS.1 h) (fun q h => dd_A_l1 hS.1 h) (fun H locs hP hS => ?_)
        refine lv_iload hx hb dL_trips_20 (lv_at hl 5 rfl) ?_
        refine lv_bipush (v := (6 : Int32)) hx hb dL_trips_22 (by decide) ?_
        refine lv_idiv hx hb dL_trips_24 (by decide) ?_
        refine lv_iconst (v := (4 : Int32)) hx hb dL_trips_25 (by decide) ?_
        refine lv_imul hx hb dL_trips_26 ?_
        refine lv_ishr hx hb dL_trips_27 ?_
        refine lv_iload hx hb dL_trips_28 (lv_at hl 5 rfl) ?_
        refine lv_sipush (v := (911 : Int32)) hx hb dL_trips_30 (by decide) ?_
        refine lv_imul hx hb dL_trips_33 ?_
        refine lv_ixor hx hb dL_trips_34 ?_
        refine lv_topi (fun x4 ex4 => ?_)
        have hf := lt_so ex4 hf
        refine lv_istore (lv' := [(6, .int x4), (0, .ref (ad 30)), (1, .ref b), (2, .int a2), (3, .int a3), (4, .ref q0), (5, .int v5)]) hx hb dL_trips_35 hl (by decide) rfl (fun ls hl => ?_)
        refine lv_aload hx hb dL_trips_37 (lv_at hl 5 rfl) ?_
        refine lv_iconst (v := (4 : Int32)) hx hb dL_trips_39 (by decide) ?_
        refine lv_iload hx hb dL_trips_40 (lv_at hl 6 rfl) ?_
        refine lv_imul hx hb dL_trips_42 ?_
        refine lv_iload hx hb dL_trips_43 (lv_at hl 0 rfl) ?_
        refine lv_iconst (v := (3 : Int32)) hx hb dL_trips_45 (by decide) ?_
        obtain ⟨r6, q5, hf⟩ := bd_so hf
        refine cl_i (va_runS (As := [.int x4, .int (3 : Int32)]) (rest := [.int ((4 : Int32) * v5), .ref q0]) ⟨hx, hb, hml, hown, hts⟩ (c_L_below l g ad [(q0, .inl (cA0, 160, .inl tm))] _ sg x4 (3 : Int32) r6 q5) (cwS 2 hts gl_L_15 rfl rfl rfl yd_L_below ⟨Nat.le_of_ble_eq_true rfl, Nat.le_of_ble_eq_true rfl⟩) (preS_of hK hP (hD sg)) rfl rfl hl.1 rfl (lv_room (Nat.le_of_ble_eq_true rfl)) dL_trips_46 ⟨Nat.le_of_ble_eq_true rfl, Nat.le_of_ble_eq_true rfl⟩) hS (fun q h => dd_A_l1 hS.1 h) (fun q h => dd_A_l1 hS.1 h) (fun H locs hP hS => ?_)
        obtain ⟨hi7, hf⟩ := gd_so hf
        obtain ⟨tm8, etm8, hf⟩ := lt_ex hf
        refine va_iast hx hb hT.2.1 hP (hD _) hS 59 3 dd_l1 rfl (ix_in hi7) dL_trips_49 (fun H locs hP _ hS => ?_)
        rw [dd_l1set, ← etm8] at hP
        have hD : ∀ s2 : dd_S, va_D (dd_A 59 ad [(q0, .inl (cA0, 160, .inl (fun _ => 0)))] s.heap.size) (WC g ad s2 ++ [(q0, .inl (cA0, 160, .inl tm8))]) := fun s2 => hT.2.2 s2 tm8
        refine lv_aload hx hb dL_trips_50 (lv_at hl 5 rfl) ?_
        refine lv_iconst (v := (4 : Int32)) hx hb dL_trips_52 (by decide) ?_
        refine lv_iload hx hb dL_trips_53 (lv_at hl 6 rfl) ?_
        refine lv_imul hx hb dL_trips_55 ?_
        refine lv_iconst (v := (1 : Int32)) hx hb dL_trips_56 (by decide) ?_
        refine lv_iadd hx hb dL_trips_57 ?_
        refine lv_iload hx hb dL_trips_58 (lv_at hl 0 rfl) ?_
        refine lv_iconst (v := (3 : Int32)) hx hb dL_trips_60 (by decide) ?_
        refine lv_ishr hx hb dL_trips_61 ?_
        refine lv_iconst (v := (3 : Int32)) hx hb dL_trips_62 (by decide) ?_
        obtain ⟨r10, q9, hf⟩ := bd_so hf
        refine cl_i (va_runS (As := [.int (x4 >>> ((3 : Int32) &&& 31)), .int (3 : Int32)]) (rest := [.int (((4 : Int32) * v5) + (1 : Int32)), .ref q0]) ⟨hx, hb, hml, hown, hts⟩ (c_L_below l g ad [(q0, .inl (cA0, 160, .inl tm8))] _ sg (x4 >>> ((3 : Int32) &&& 31)) (3 : Int32) r10 q9) (cwS 2 hts gl_L_15 rfl rfl rfl yd_L_below ⟨Nat.le_of_ble_eq_true rfl, Nat.le_of_ble_eq_true rfl⟩) (preS_of hK hP (hD sg)) rfl rfl hl.1 rfl (lv_room (Nat.le_of_ble_eq_true rfl)) dL_trips_63 ⟨Nat.le_of_ble_eq_true rfl, Nat.le_of_ble_eq_true rfl⟩) hS (fun q h => dd_A_l1 hS.1 h) (fun q h => dd_A_l1 hS.1 h) (fun H locs hP hS => ?_)
        obtain ⟨hi11, hf⟩ := gd_so hf
        obtain ⟨tm12, etm12, hf⟩ := lt_ex hf
        refine va_iast hx hb hT.2.1 hP (hD _) hS 59 3 dd_l1 rfl (ix_in hi11) dL_trips_66 (fun H locs hP _ hS => ?_)
        rw [dd_l1set, ← etm12] at hP
        have hD : ∀ s2 : dd_S, va_D (dd_A 59 ad [(q0, .inl (cA0, 160, .inl (fun _ => 0)))] s.heap.size) (WC g ad s2 ++ [(q0, .inl (cA0, 160, .inl tm12))]) := fun s2 => hT.2.2 s2 tm12
        refine lv_aload hx hb dL_trips_67 (lv_at hl 5 rfl) ?_
        refine lv_iconst (v := (4 : Int32)) hx hb dL_trips_69 (by decide) ?_
        refine lv_iload hx hb dL_trips_70 (lv_at hl 6 rfl) ?_
        refine lv_imul hx hb dL_trips_72 ?_
        refine lv_iconst (v := (2 : Int32)) hx hb dL_trips_73 (by decide) ?_
        refine lv_iadd hx hb dL_trips_74 ?_
        refine lv_sipush (v := (300 : Int32)) hx hb dL_trips_75 (by decide) ?_
        refine lv_bipush (v := (20 : Int32)) hx hb dL_trips_78 (by decide) ?_
        refine lv_iload hx hb dL_trips_80 (lv_at hl 0 rfl) ?_
        refine lv_bipush (v := (6 : Int32)) hx hb dL_trips_82 (by decide) ?_
        refine lv_ishr hx hb dL_trips_84 ?_
        refine lv_bipush (v := (30 : Int32)) hx hb dL_trips_85 (by decide) ?_
        obtain ⟨r14, q13, hf⟩ := bd_so hf
        refine cl_i (va_runS (As := [.int (x4 >>> ((6 : Int32) &&& 31)), .int (30 : Int32)]) (rest := [.int (20 : Int32), .int (300 : Int32), .int (((4 : Int32) * v5) + (2 : Int32)), .ref q0]) ⟨hx, hb, hml, hown, hts⟩ (c_L_below l g ad [(q0, .inl (cA0, 160, .inl tm12))] _ sg (x4 >>> ((6 : Int32) &&& 31)) (30 : Int32) r14 q13) (cwS 2 hts gl_L_15 rfl rfl rfl yd_L_below ⟨Nat.le_of_ble_eq_true rfl, Nat.le_of_ble_eq_true rfl⟩) (preS_of hK hP (hD sg)) rfl rfl hl.1 rfl (lv_room (Nat.le_of_ble_eq_true rfl)) dL_trips_87 ⟨Nat.le_of_ble_eq_true rfl, Nat.le_of_ble_eq_true rfl⟩) hS (fun q h => dd_A_l1 hS.1 h) (fun q h => dd_A_l1 hS.1 h) (fun H locs hP hS => ?_)
        refine lv_imul hx hb dL_trips_90 ?_
        refine lv_iadd hx hb dL_trips_91 ?_
        obtain ⟨hi15, hf⟩ := gd_so hf
        obtain ⟨tm16, etm16, hf⟩ := lt_ex hf
        refine va_iast hx hb hT.2.1 hP (hD _) hS 59 3 dd_l1 rfl (ix_in hi15) dL_trips_92 (fun H locs hP _ hS => ?_)
        rw [dd_l1set, ← etm16] at hP
        have hD : ∀ s2 : dd_S, va_D (dd_A 59 ad [(q0, .inl (cA0, 160, .inl (fun _ => 0)))] s.heap.size) (WC g ad s2 ++ [(q0, .inl (cA0, 160, .inl tm16))]) := fun s2 => hT.2.2 s2 tm16
        refine lv_aload hx hb dL_trips_93 (lv_at hl 5 rfl) ?_
        refine lv_iconst (v := (4 : Int32)) hx hb dL_trips_95 (by decide) ?_
        refine lv_iload hx hb dL_trips_96 (lv_at hl 6 rfl) ?_
        refine lv_imul hx hb dL_trips_98 ?_
        refine lv_iconst (v := (3 : Int32)) hx hb dL_trips_99 (by decide) ?_
        refine lv_iadd hx hb dL_trips_100 ?_
        refine lv_aload hx hb dL_trips_101 (lv_at hl 5 rfl) ?_
        refine lv_iconst (v := (4 : Int32)) hx hb dL_trips_103 (by decide) ?_
        refine lv_iload hx hb dL_trips_104 (lv_at hl 6 rfl) ?_
        refine lv_imul hx hb dL_trips_106 ?_
        refine lv_iconst (v := (2 : Int32)) hx hb dL_trips_107 (by decide) ?_
        refine lv_iadd hx hb dL_trips_108 ?_
        obtain ⟨hi17, hf⟩ := gd_so hf
        refine va_iald hx hb hT.2.1 hP 59 3 dd_l1 rfl (ix_in hi17) dL_trips_109 ?_
        refine lv_bipush (v := (10 : Int32)) hx hb dL_trips_110 (by decide) ?_
        refine lv_iadd hx hb dL_trips_112 ?_
        refine lv_bipush (v := (10 : Int32)) hx hb dL_trips_113 (by decide) ?_
        refine lv_iload hx hb dL_trips_115 (lv_at hl 0 rfl) ?_
        refine lv_bipush (v := (12 : Int32)) hx hb dL_trips_117 (by decide) ?_
        refine lv_ishr hx hb dL_trips_119 ?_
        refine lv_bipush (v := (12 : Int32)) hx hb dL_trips_120 (by decide) ?_
        obtain ⟨r19, q18, hf⟩ := bd_so hf
        refine cl_i (va_runS (As := [.int (x4 >>> ((12 : Int32) &&& 31)), .int (12 : Int32)]) (rest := [.int (10 : Int32), .int ((tm16 (((4 : Int32) * v5) + (2 : Int32)).toNatClampNeg) + (10 : Int32)), .int (((4 : Int32) * v5) + (3 : Int32)), .ref q0]) ⟨hx, hb, hml, hown, hts⟩ (c_L_below l g ad [(q0, .inl (cA0, 160, .inl tm16))] _ sg (x4 >>> ((12 : Int32) &&& 31)) (12 : Int32) r19 q18) (cwS 2 hts gl_L_15 rfl rfl rfl yd_L_below ⟨Nat.le_of_ble_eq_true rfl, Nat.le_of_ble_eq_true rfl⟩) (preS_of hK hP (hD sg)) rfl rfl hl.1 rfl (lv_room (Nat.le_of_ble_eq_true rfl)) dL_trips_122 ⟨Nat.le_of_ble_eq_true rfl, Nat.le_of_ble_eq_true rfl⟩) hS (fun q h => dd_A_l1 hS.1 h) (fun q h => dd_A_l1 hS.1 h) (fun H locs hP hS => ?_)
        refine lv_imul hx hb dL_trips_125 ?_
        refine lv_iadd hx hb dL_trips_126 ?_
        obtain ⟨hi20, hf⟩ := gd_so hf
        obtain ⟨tm21, etm21, hf⟩ := lt_ex hf
        refine va_iast hx hb hT.2.1 hP (hD _) hS 59 3 dd_l1 rfl (ix_in hi20) dL_trips_127 (fun H locs hP _ hS => ?_)
        rw [dd_l1set, ← etm21] at hP
        have hD : ∀ s2 : dd_S, va_D (dd_A 59 ad [(q0, .inl (cA0, 160, .inl (fun _ => 0)))] s.heap.size) (WC g ad s2 ++ [(q0, .inl (cA0, 160, .inl tm21))]) := fun s2 => hT.2.2 s2 tm21
        refine lv_aload_n hx hb dL_trips_128 rfl (lv_at hl 1 rfl) ?_
        refine lv_aload hx hb dL_trips_129 (lv_at hl 5 rfl) ?_
        refine lv_iconst (v := (4 : Int32)) hx hb dL_trips_131 (by decide) ?_
        refine lv_iload hx hb dL_trips_132 (lv_at hl 6 rfl) ?_
        refine lv_imul hx hb dL_trips_134 ?_
        obtain ⟨hi22, hf⟩ := gd_so hf
        refine va_iald hx hb hT.2.1 hP 59 3 dd_l1 rfl (ix_in hi22) dL_trips_135 ?_
        refine lv_aload hx hb dL_trips_136 (lv_at hl 5 rfl) ?_
        refine lv_iconst (v := (4 : Int32)) hx hb dL_trips_138 (by decide) ?_
        refine lv_iload hx hb dL_trips_139 (lv_at hl 6 rfl) ?_
        refine lv_imul hx hb dL_trips_141 ?_
        refine lv_iconst (v := (1 : Int32)) hx hb dL_trips_142 (by decide) ?_
        refine lv_iadd hx hb dL_trips_143 ?_
        obtain ⟨hi23, hf⟩ := gd_so hf
        refine va_iald hx hb hT.2.1 hP 59 3 dd_l1 rfl (ix_in hi23) dL_trips_144 ?_
        refine lv_aload hx hb dL_trips_145 (lv_at hl 5 rfl) ?_
        refine lv_iconst (v := (4 : Int32)) hx hb dL_trips_147 (by decide) ?_
        refine lv_iload hx hb dL_trips_148 (lv_at hl 6 rfl) ?_
        refine lv_imul hx hb dL_trips_150 ?_
        refine lv_iconst (v := (2 : Int32)) hx hb dL_trips_151 (by decide) ?_
        refine lv_iadd hx hb dL_trips_152 ?_
        obtain ⟨hi24, hf⟩ := gd_so hf
        refine va_iald hx hb hT.2.1 hP 59 3 dd_l1 rfl (ix_in hi24) dL_trips_153 ?_
        refine lv_aload hx hb dL_trips_154 (lv_at hl 5 rfl) ?_
        refine lv_iconst (v := (4 : Int32)) hx hb dL_trips_156 (by decide) ?_
        refine lv_iload hx hb dL_trips_157 (lv_at hl 6 rfl) ?_
        refine lv_imul hx hb dL_trips_159 ?_
        refine lv_iconst (v := (3 : Int32)) hx hb dL_trips_160 (by decide) ?_
        refine lv_iadd hx hb dL_trips_161 ?_
        obtain ⟨hi25, hf⟩ := gd_so hf
        refine va_iald hx hb hT.2.1 hP 59 3 dd_l1 rfl (ix_in hi25) dL_trips_162 ?_
        obtain ⟨r28, sg27, q26, hf⟩ := bd2_so hf
        refine cl_i (va_runV (As := [.int (tm21 ((4 : Int32) * v5).toNatClampNeg), .int (tm21 (((4 : Int32) * v5) + (1 : Int32)).toNatClampNeg), .int (tm21 (((4 : Int32) * v5) + (2 : Int32)).toNatClampNeg), .int (tm21 (((4 : Int32) * v5) + (3 : Int32)).toNatClampNeg)]) (rest := []) ⟨hx, hb, hml, hown, hts⟩ (c_X5_addTrip l g ad [(q0, .inl (cA0, 160, .inl tm21))] _ sg (tm21 ((4 : Int32) * v5).toNatClampNeg) (tm21 (((4 : Int32) * v5) + (1 : Int32)).toNatClampNeg) (tm21 (((4 : Int32) * v5) + (2 : Int32)).toNatClampNeg) (tm21 (((4 : Int32) * v5) + (3 : Int32)).toNatClampNeg) r28 sg27 q26) (cwV 4 hts gl_L_19 rfl rfl rfl yd_X5_addTrip ⟨Nat.le_of_ble_eq_true rfl, Nat.le_of_ble_eq_true rfl⟩) (preV_of hK hP (hD sg) (dd_at (by decide) cc_30) rfl) rfl rfl hl.1 rfl (lv_room (Nat.le_of_ble_eq_true rfl)) dL_trips_163 ⟨Nat.le_of_ble_eq_true rfl, Nat.le_of_ble_eq_true rfl⟩) hS (fun q h => dd_A_l1 hS.1 h) (fun q h => dd_A_l1 hS.1 h) (fun H locs hP hS => ?_)
        refine lv_iload hx hb dL_trips_166 (lv_at hl 6 rfl) ?_
        refine lv_icmp_eq (tgt := 173) hx hb dL_trips_168 (by decide) (fun c29 => ?_) (fun c29 => ?_)
        · have hf := if_t c29 hf
          obtain ⟨x30, ex30, hf⟩ := lt_ex hf
          refine lv_iinc (v := x30) (lv' := [(5, .int x30), (6, .int x4), (0, .ref (ad 30)), (1, .ref b), (2, .int a2), (3, .int a3), (4, .ref q0)]) hx hb dL_trips_173 hl (k := 6) rfl (by rw [ex30]; rfl) (by decide) rfl (fun ls hl => ?_)
          refine lv_goto (tgt := 3) hx hb dL_trips_176 (by decide) ?_
          exact ih sg27 tm21 x30 _ _ _ hf hP hS (lv_sub hl [2, 3, 4, 5, 6, 0] rfl)
        · have hf := if_f c29 hf
          refine lv_iconst (v := (-1 : Int32)) hx hb dL_trips_171 (by decide) ?_
          cases hf
  unfold f_L_trips at hf
  have hl := lv_entry ([.ref (ad 30), .ref b, .int a2, .int a3, .ref q0]) (n := 7) (Nat.le_of_ble_eq_true rfl)
  rw [lg_entry_eq]
  generalize (lg_sl ([.ref (ad 30), .ref b, .int a2, .int a3, .ref q0]) ++ List.replicate (7 - (lg_sl ([.ref (ad 30), .ref b, .int a2, .int a3, .ref q0])).length) Slot.unset).toArray = ls at hl ⊢
  have hl : lv_has ls 7 [(0, .ref (ad 30)), (1, .ref b), (2, .int a2), (3, .int a3), (4, .ref q0)] := hl
  refine lv_iconst (v := (0 : Int32)) hx hb dL_trips_0 (by decide) ?_
  refine lv_istore (lv' := [(5, .int (0 : Int32)), (0, .ref (ad 30)), (1, .ref b), (2, .int a2), (3, .int a3), (4, .ref q0)]) hx hb dL_trips_1 hl (by decide) rfl (fun ls hl => ?_)
  exact hL_3 64 sg tm (0 : Int32) _ _ _ hf hP hS (lv_sub hl [1, 2, 3, 4, 5, 0] rfl)
set_option maxHeartbeats 4000000 in
set_option maxRecDepth 100000 in
theorem sg_L_law {p : Program} {l : Launch} {e : Env} {s : State} {m : MethodId} {below : List Frame} {meth : Method} {c : Code} {b L : Nat} {xs : Nat → Int32} {Q : State → Prop} {g : dd_G} {ad : Nat → Nat} {X : va_W} (hx : p.tables.exec = Jvm.exec) (hb : c.code = cL_law) (hml : c.maxLocals = 18) (hown : s.vm.findClass RL = some m.cls) (hts : ∀ w ∈ lw_all, w.before #[Value.ref b] s = true) (hX : va_X b L xs s s.heap) (hbl : b < s.heap.size) (hbA : ¬ lA s b) (hK : KC g s) (hD : ∀ s2 : dd_S, va_D (lA s) (WC g ad s2 ++ X)) (s0 : dd_S) (fin : ∀ (H : Heap) (locs : List Loc) (ls : Array Slot), va_P g.1 vwCl (WC g ad s0 ++ X) H → va_S (lA s) s.heap H locs → lv_has ls 18 [(1, .ref (ad 30))] → W p l e room_1 s m #[Value.ref b] below meth c H locs 100 10000 Q (F0 m 611 ls [])) : ∀ (sg : dd_S) (v3 : Int32) (H : Heap) (locs : List Loc) (ls : Array Slot), f_L_law_42 L xs sg v3 = some s0 → va_P g.1 vwCl (WC g ad sg ++ X) H → va_S (lA s) s.heap H locs → lv_has ls 18 [(0, .ref b), (1, .ref (ad 30)), (3, .int v3)] → W p l e room_1 s m #[Value.ref b] below meth c H locs 100 10000 Q (F0 m 42 ls []) := by
  have hL_172 : ∀ (sg : dd_S) (H : Heap) (locs : List Loc) (ls : Array Slot), f_L_law_172 L xs sg = some s0 → va_P g.1 vwCl (WC g ad sg ++ X) H → va_S (lA s) s.heap H locs → lv_has ls 18 [(1, .ref (ad 30))] → W p l e room_1 s m #[Value.ref b] below meth c H locs 100 10000 Q (F0 m 172 ls []) := by
    intro sg H locs ls hf hP hS hl
    unfold f_L_law_172 at hf
    refine lv_iconst (v := (0 : Int32)) hx hb dL_law_172 (by decide) ?_
    cases hf
  have hL_310 : ∀ (sg : dd_S) (H : Heap) (locs : List Loc) (ls : Array Slot), f_L_law_310 L xs sg = some s0 → va_P g.1 vwCl (WC g ad sg ++ X) H → va_S (lA s) s.heap H locs → lv_has ls 18 [(1, .ref (ad 30))] → W p l e room_1 s m #[Value.ref b] below meth c H locs 100 10000 Q (F0 m 310 ls []) := by
    intro sg H locs ls hf hP hS hl
    unfold f_L_law_310 at hf
    refine lv_iconst (v := (0 : Int32)) hx hb dL_law_310 (by decide) ?_
    cases hf
  have hL_374 : ∀ (sg : dd_S) (H : Heap) (locs : List Loc) (ls : Array Slot), f_L_law_374 L xs sg = some s0 → va_P g.1 vwCl (WC g ad sg ++ X) H → va_S (lA s) s.heap H locs → lv_has ls 18 [(1, .ref (ad 30))] → W p l e room_1 s m #[Value.ref b] below meth c H locs 100 10000 Q (F0 m 374 ls []) := by
    intro sg H locs ls hf hP hS hl
    unfold f_L_law_374 at hf
    refine lv_iconst (v := (0 : Int32)) hx hb dL_law_374 (by decide) ?_
    cases hf
  have hL_376 : ∀ (k_92 : dd_S → Int32 → Int32 → Int32 → Int32 → Int32 → Option (dd_S)) (hk_92 : ∀ (sg : dd_S) (v3 : Int32) (v4 : Int32) (v5 : Int32) (v6 : Int32) (v7 : Int32) (H : Heap) (locs : List Loc) (ls : Array Slot), k_92 sg v3 v4 v5 v6 v7 = some s0 → va_P g.1 vwCl (WC g ad sg ++ X) H → va_S (lA s) s.heap H locs → lv_has ls 18 [(0, .ref b), (1, .ref (ad 30)), (3, .int v3), (4, .int v4), (5, .int v5), (6, .int v6), (7, .int v7)] → W p l e room_1 s m #[Value.ref b] below meth c H locs 100 10000 Q (F0 m 92 ls [])) (k_190 : dd_S → Int32 → Int32 → Int32 → Int32 → Int32 → Int32 → Int32 → Int32 → Option (dd_S)) (hk_190 : ∀ (sg : dd_S) (v3 : Int32) (v4 : Int32) (v5 : Int32) (v6 : Int32) (v7 : Int32) (v10 : Int32) (v11 : Int32) (v12 : Int32) (H : Heap) (locs : List Loc) (ls : Array Slot), k_190 sg v3 v4 v5 v6 v7 v10 v11 v12 = some s0 → va_P g.1 vwCl (WC g ad sg ++ X) H → va_S (lA s) s.heap H locs → lv_has ls 18 [(0, .ref b), (1, .ref (ad 30)), (3, .int v3), (4, .int v4), (5, .int v5), (6, .int v6), (7, .int v7), (10, .int v10), (11, .int v11), (12, .int v12)] → W p l e room_1 s m #[Value.ref b] below meth c H locs 100 10000 Q (F0 m 190 ls [])) (k_315 : dd_S → Int32 → Int32 → Int32 → Int32 → Int32 → Int32 → Int32 → Int32 → Int32 → Int32 → Option (dd_S)) (hk_315 : ∀ (sg : dd_S) (v3 : Int32) (v4 : Int32) (v5 : Int32) (v6 : Int32) (v7 : Int32) (v10 : Int32) (v11 : Int32) (v12 : Int32) (v13 : Int32) (v14 : Int32) (H : Heap) (locs : List Loc) (ls : Array Slot), k_315 sg v3 v4 v5 v6 v7 v10 v11 v12 v13 v14 = some s0 → va_P g.1 vwCl (WC g ad sg ++ X) H → va_S (lA s) s.heap H locs → lv_has ls 18 [(0, .ref b), (1, .ref (ad 30)), (3, .int v3), (4, .int v4), (5, .int v5), (6, .int v6), (7, .int v7), (10, .int v10), (11, .int v11), (12, .int v12), (13, .int v13), (14, .int v14)] → W p l e room_1 s m #[Value.ref b] below meth c H locs 100 10000 Q (F0 m 315 ls [])), ∀ (sg : dd_S) (v3 : Int32) (v4 : Int32) (v5 : Int32) (v6 : Int32) (v7 : Int32) (v10 : Int32) (v11 : Int32) (v12 : Int32) (v13 : Int32) (v14 : Int32) (H : Heap) (locs : List Loc) (ls : Array Slot), f_L_law_376 L xs k_92 k_190 k_315 sg v3 v4 v5 v6 v7 v10 v11 v12 v13 v14 = some s0 → va_P g.1 vwCl (WC g ad sg ++ X) H → va_S (lA s) s.heap H locs → lv_has ls 18 [(0, .ref b), (1, .ref (ad 30)), (3, .int v3), (4, .int v4), (5, .int v5), (6, .int v6), (7, .int v7), (10, .int v10), (11, .int v11), (12, .int v12), (13, .int v13), (14, .int v14)] → W p l e room_1 s m #[Value.ref b] below meth c H locs 100 10000 Q (F0 m 376 ls []) := by
    intro k_92 hk_92 k_190 hk_190 k_315 hk_315 sg v3 v4 v5 v6 v7 v10 v11 v12 v13 v14 H locs ls hf hP hS hl
    unfold f_L_law_376 at hf
    obtain ⟨x111, ex111, hf⟩ := lt_ex hf
    refine lv_iinc (v := x111) (lv' := [(14, .int x111), (0, .ref b), (1, .ref (ad 30)), (3, .int v3), (4, .int v4), (5, .int v5), (6, .int v6), (7, .int v7), (10, .int v10), (11, .int v11), (12, .int v12), (13, .int v13)]) hx hb dL_law_376 hl (k := 11) rfl (by rw [ex111]; rfl) (by decide) rfl (fun ls hl => ?_)
    refine lv_goto (tgt := 315) hx hb dL_law_379 (by decide) ?_
    exact hk_315 sg v3 v4 v5 v6 v7 v10 v11 v12 v13 x111 _ _ _ hf hP hS (lv_sub hl [1, 2, 3, 4, 5, 6, 7, 8, 9, 10, 11, 0] rfl)
  have hL_315 : ∀ (k_92 : dd_S → Int32 → Int32 → Int32 → Int32 → Int32 → Option (dd_S)) (hk_92 : ∀ (sg : dd_S) (v3 : Int32) (v4 : Int32) (v5 : Int32) (v6 : Int32) (v7 : Int32) (H : Heap) (locs : List Loc) (ls : Array Slot), k_92 sg v3 v4 v5 v6 v7 = some s0 → va_P g.1 vwCl (WC g ad sg ++ X) H → va_S (lA s) s.heap H locs → lv_has ls 18 [(0, .ref b), (1, .ref (ad 30)), (3, .int v3), (4, .int v4), (5, .int v5), (6, .int v6), (7, .int v7)] → W p l e room_1 s m #[Value.ref b] below meth c H locs 100 10000 Q (F0 m 92 ls [])) (k_190 : dd_S → Int32 → Int32 → Int32 → Int32 → Int32 → Int32 → Int32 → Int32 → Option (dd_S)) (hk_190 : ∀ (sg : dd_S) (v3 : Int32) (v4 : Int32) (v5 : Int32) (v6 : Int32) (v7 : Int32) (v10 : Int32) (v11 : Int32) (v12 : Int32) (H : Heap) (locs : List Loc) (ls : Array Slot), k_190 sg v3 v4 v5 v6 v7 v10 v11 v12 = some s0 → va_P g.1 vwCl (WC g ad sg ++ X) H → va_S (lA s) s.heap H locs → lv_has ls 18 [(0, .ref b), (1, .ref (ad 30)), (3, .int v3), (4, .int v4), (5, .int v5), (6, .int v6), (7, .int v7), (10, .int v10), (11, .int v11), (12, .int v12)] → W p l e room_1 s m #[Value.ref b] below meth c H locs 100 10000 Q (F0 m 190 ls [])) (n : Nat), ∀ (sg : dd_S) (v3 : Int32) (v4 : Int32) (v5 : Int32) (v6 : Int32) (v7 : Int32) (v10 : Int32) (v11 : Int32) (v12 : Int32) (v13 : Int32) (v14 : Int32) (H : Heap) (locs : List Loc) (ls : Array Slot), f_L_law_315 L xs k_92 k_190 n sg v3 v4 v5 v6 v7 v10 v11 v12 v13 v14 = some s0 → va_P g.1 vwCl (WC g ad sg ++ X) H → va_S (lA s) s.heap H locs → lv_has ls 18 [(0, .ref b), (1, .ref (ad 30)), (3, .int v3), (4, .int v4), (5, .int v5), (6, .int v6), (7, .int v7), (10, .int v10), (11, .int v11), (12, .int v12), (13, .int v13), (14, .int v14)] → W p l e room_1 s m #[Value.ref b] below meth c H locs 100 10000 Q (F0 m 315 ls []) := by
    intro k_92 hk_92 k_190 hk_190 n
    induction n with
    | zero =>
      intro sg v3 v4 v5 v6 v7 v10 v11 v12 v13 v14 H locs ls hf
      rw [f_L_law_315] at hf
      cases hf
    | succ n ih =>
      intro sg v3 v4 v5 v6 v7 v10 v11 v12 v13 v14 H locs ls hf hP hS hl
      rw [f_L_law_315] at hf
      refine lv_iload hx hb dL_law_315 (lv_at hl 11 rfl) ?_
      refine lv_iload hx hb dL_law_317 (lv_at hl 10 rfl) ?_
      refine lv_icmp_ge (tgt := 382) hx hb dL_law_319 (by decide) (fun c81 => ?_) (fun c81 => ?_)
      · have hf := if_t c81 hf
        obtain ⟨x82, ex82, hf⟩ := lt_ex hf
        refine lv_iinc (v := x82) (lv' := [(12, .int x82), (0, .ref b), (1, .ref (ad 30)), (3, .int v3), (4, .int v4), (5, .int v5), (6, .int v6), (7, .int v7), (10, .int v10), (11, .int v11), (13, .int v13), (14, .int v14)]) hx hb dL_law_382 hl (k := 9) rfl (by rw [ex82]; rfl) (by decide) rfl (fun ls hl => ?_)
        refine lv_goto (tgt := 190) hx hb dL_law_385 (by decide) ?_
        exact hk_190 sg v3 v4 v5 v6 v7 v10 v11 x82 _ _ _ hf hP hS (lv_sub hl [1, 2, 3, 4, 5, 6, 7, 8, 9, 0] rfl)
      · have hf := if_f c81 hf
        refine lv_aload_n hx hb dL_law_322 rfl (lv_at hl 1 rfl) ?_
        refine lv_iload hx hb dL_law_323 (lv_at hl 9 rfl) ?_
        refine lv_iload hx hb dL_law_325 (lv_at hl 11 rfl) ?_
        obtain ⟨r84, q83, hf⟩ := bd_so hf
        refine cl_i (va_runV (As := [.int v12, .int v14]) (rest := []) ⟨hx, hb, hml, hown, hts⟩ (c_X5_tripAt l g ad X _ sg v12 v14 r84 q83) (cwV 2 hts gl_L_53 rfl rfl rfl yd_X5_tripAt ⟨Nat.le_of_ble_eq_true rfl, Nat.le_of_ble_eq_true rfl⟩) (preV_of hK hP (hD sg) (dd_at (by decide) cc_30) rfl) rfl rfl hl.1 rfl (lv_room (Nat.le_of_ble_eq_true rfl)) dL_law_327 ⟨Nat.le_of_ble_eq_true rfl, Nat.le_of_ble_eq_true rfl⟩) hS (fun q h => law_A (hD sg) hS.1 h) (fun q h => law_A (hD sg) hS.1 h) (fun H locs hP hS => ?_)
        refine lv_istore (lv' := [(15, .int r84), (0, .ref b), (1, .ref (ad 30)), (3, .int v3), (4, .int v4), (5, .int v5), (6, .int v6), (7, .int v7), (10, .int v10), (11, .int v11), (12, .int v12), (13, .int v13), (14, .int v14)]) hx hb dL_law_330 hl (by decide) rfl (fun ls hl => ?_)
        refine lv_aload_n hx hb dL_law_332 rfl (lv_at hl 2 rfl) ?_
        refine lv_iload hx hb dL_law_333 (lv_at hl 0 rfl) ?_
        refine lv_iconst (v := (4 : Int32)) hx hb dL_law_335 (by decide) ?_
        obtain ⟨r86, q85, hf⟩ := bd_so hf
        refine cl_i (va_runV (As := [.int r84, .int (4 : Int32)]) (rest := []) ⟨hx, hb, hml, hown, hts⟩ (c_X5_trip l g ad X _ sg r84 (4 : Int32) r86 q85) (cwV 2 hts gl_L_56 rfl rfl rfl yd_X5_trip ⟨Nat.le_of_ble_eq_true rfl, Nat.le_of_ble_eq_true rfl⟩) (preV_of hK hP (hD sg) (dd_at (by decide) cc_30) rfl) rfl rfl hl.1 rfl (lv_room (Nat.le_of_ble_eq_true rfl)) dL_law_336 ⟨Nat.le_of_ble_eq_true rfl, Nat.le_of_ble_eq_true rfl⟩) hS (fun q h => law_A (hD sg) hS.1 h) (fun q h => law_A (hD sg) hS.1 h) (fun H locs hP hS => ?_)
        refine lv_iload hx hb dL_law_339 (lv_at hl 10 rfl) ?_
        refine lv_icmp_ne (tgt := 374) hx hb dL_law_341 (by decide) (fun c87 => ?_) (fun c87 => ?_)
        · have hf := if_f c87 hf
          exact hL_374 sg _ _ _ hf hP hS (lv_sub hl [2] rfl)
        · have hf := if_t c87 hf
          refine lv_iload hx hb dL_law_344 (lv_at hl 12 rfl) ?_
          refine lv_if_le (tgt := 376) hx hb dL_law_346 (by decide) (fun c88 => ?_) (fun c88 => ?_)
          · have hf := if_t c88 hf
            exact hL_376 k_92 hk_92 k_190 hk_190 (fun zs z0 z1 z2 z3 z4 z5 z6 z7 z8 z9 => f_L_law_315 L xs k_92 k_190 n zs z0 z1 z2 z3 z4 z5 z6 z7 z8 z9) ih sg v3 v4 v5 v6 v7 v10 v11 v12 v13 v14 _ _ _ hf hP hS (lv_sub hl [1, 2, 3, 4, 5, 6, 7, 8, 9, 10, 11, 12] rfl)
          · have hf := if_f c88 hf
            refine lv_aload_n hx hb dL_law_349 rfl (lv_at hl 2 rfl) ?_
            refine lv_aload_n hx hb dL_law_350 rfl (lv_at hl 2 rfl) ?_
            refine lv_iload hx hb dL_law_351 (lv_at hl 10 rfl) ?_
            refine lv_iload hx hb dL_law_353 (lv_at hl 12 rfl) ?_
            refine lv_iconst (v := (1 : Int32)) hx hb dL_law_355 (by decide) ?_
            refine lv_isub hx hb dL_law_356 ?_
            obtain ⟨r90, q89, hf⟩ := bd_so hf
            refine cl_i (va_runV (As := [.int v12, .int (v14 - (1 : Int32))]) (rest := [.ref (ad 30)]) ⟨hx, hb, hml, hown, hts⟩ (c_X5_tripAt l g ad X _ sg v12 (v14 - (1 : Int32)) r90 q89) (cwV 2 hts gl_L_53 rfl rfl rfl yd_X5_tripAt ⟨Nat.le_of_ble_eq_true rfl, Nat.le_of_ble_eq_true rfl⟩) (preV_of hK hP (hD sg) (dd_at (by decide) cc_30) rfl) rfl rfl hl.1 rfl (lv_room (Nat.le_of_ble_eq_true rfl)) dL_law_357 ⟨Nat.le_of_ble_eq_true rfl, Nat.le_of_ble_eq_true rfl⟩) hS (fun q h => law_A (hD sg) hS.1 h) (fun q h => law_A (hD sg) hS.1 h) (fun H locs hP hS => ?_)
            refine lv_iconst (v := (3 : Int32)) hx hb dL_law_360 (by decide) ?_
            obtain ⟨r92, q91, hf⟩ := bd_so hf
            refine cl_i (va_runV (As := [.int r90, .int (3 : Int32)]) (rest := []) ⟨hx, hb, hml, hown, hts⟩ (c_X5_trip l g ad X _ sg r90 (3 : Int32) r92 q91) (cwV 2 hts gl_L_56 rfl rfl rfl yd_X5_trip ⟨Nat.le_of_ble_eq_true rfl, Nat.le_of_ble_eq_true rfl⟩) (preV_of hK hP (hD sg) (dd_at (by decide) cc_30) rfl) rfl rfl hl.1 rfl (lv_room (Nat.le_of_ble_eq_true rfl)) dL_law_361 ⟨Nat.le_of_ble_eq_true rfl, Nat.le_of_ble_eq_true rfl⟩) hS (fun q h => law_A (hD sg) hS.1 h) (fun q h => law_A (hD sg) hS.1 h) (fun H locs hP hS => ?_)
            refine lv_aload_n hx hb dL_law_364 rfl (lv_at hl 2 rfl) ?_
            refine lv_iload hx hb dL_law_365 (lv_at hl 0 rfl) ?_
            refine lv_iconst (v := (2 : Int32)) hx hb dL_law_367 (by decide) ?_
            obtain ⟨r94, q93, hf⟩ := bd_so hf
            refine cl_i (va_runV (As := [.int r84, .int (2 : Int32)]) (rest := [.int r92]) ⟨hx, hb, hml, hown, hts⟩ (c_X5_trip l g ad X _ sg r84 (2 : Int32) r94 q93) (cwV 2 hts gl_L_56 rfl rfl rfl yd_X5_trip ⟨Nat.le_of_ble_eq_true rfl, Nat.le_of_ble_eq_true rfl⟩) (preV_of hK hP (hD sg) (dd_at (by decide) cc_30) rfl) rfl rfl hl.1 rfl (lv_room (Nat.le_of_ble_eq_true rfl)) dL_law_368 ⟨Nat.le_of_ble_eq_true rfl, Nat.le_of_ble_eq_true rfl⟩) hS (fun q h => law_A (hD sg) hS.1 h) (fun q h => law_A (hD sg) hS.1 h) (fun H locs hP hS => ?_)
            refine lv_icmp_le (tgt := 376) hx hb dL_law_371 (by decide) (fun c95 => ?_) (fun c95 => ?_)
            · have hf := if_t c95 hf
              exact hL_376 k_92 hk_92 k_190 hk_190 (fun zs z0 z1 z2 z3 z4 z5 z6 z7 z8 z9 => f_L_law_315 L xs k_92 k_190 n zs z0 z1 z2 z3 z4 z5 z6 z7 z8 z9) ih sg v3 v4 v5 v6 v7 v10 v11 v12 v13 v14 _ _ _ hf hP hS (lv_sub hl [1, 2, 3, 4, 5, 6, 7, 8, 9, 10, 11, 12] rfl)
            · have hf := if_f c95 hf
              exact hL_374 sg _ _ _ hf hP hS (lv_sub hl [2] rfl)
  have hL_312 : ∀ (k_92 : dd_S → Int32 → Int32 → Int32 → Int32 → Int32 → Option (dd_S)) (hk_92 : ∀ (sg : dd_S) (v3 : Int32) (v4 : Int32) (v5 : Int32) (v6 : Int32) (v7 : Int32) (H : Heap) (locs : List Loc) (ls : Array Slot), k_92 sg v3 v4 v5 v6 v7 = some s0 → va_P g.1 vwCl (WC g ad sg ++ X) H → va_S (lA s) s.heap H locs → lv_has ls 18 [(0, .ref b), (1, .ref (ad 30)), (3, .int v3), (4, .int v4), (5, .int v5), (6, .int v6), (7, .int v7)] → W p l e room_1 s m #[Value.ref b] below meth c H locs 100 10000 Q (F0 m 92 ls [])) (k_190 : dd_S → Int32 → Int32 → Int32 → Int32 → Int32 → Int32 → Int32 → Int32 → Option (dd_S)) (hk_190 : ∀ (sg : dd_S) (v3 : Int32) (v4 : Int32) (v5 : Int32) (v6 : Int32) (v7 : Int32) (v10 : Int32) (v11 : Int32) (v12 : Int32) (H : Heap) (locs : List Loc) (ls : Array Slot), k_190 sg v3 v4 v5 v6 v7 v10 v11 v12 = some s0 → va_P g.1 vwCl (WC g ad sg ++ X) H → va_S (lA s) s.heap H locs → lv_has ls 18 [(0, .ref b), (1, .ref (ad 30)), (3, .int v3), (4, .int v4), (5, .int v5), (6, .int v6), (7, .int v7), (10, .int v10), (11, .int v11), (12, .int v12)] → W p l e room_1 s m #[Value.ref b] below meth c H locs 100 10000 Q (F0 m 190 ls [])), ∀ (sg : dd_S) (v3 : Int32) (v4 : Int32) (v5 : Int32) (v6 : Int32) (v7 : Int32) (v10 : Int32) (v11 : Int32) (v12 : Int32) (v13 : Int32) (H : Heap) (locs : List Loc) (ls : Array Slot), f_L_law_312 L xs k_92 k_190 sg v3 v4 v5 v6 v7 v10 v11 v12 v13 = some s0 → va_P g.1 vwCl (WC g ad sg ++ X) H → va_S (lA s) s.heap H locs → lv_has ls 18 [(0, .ref b), (1, .ref (ad 30)), (3, .int v3), (4, .int v4), (5, .int v5), (6, .int v6), (7, .int v7), (10, .int v10), (11, .int v11), (12, .int v12), (13, .int v13)] → W p l e room_1 s m #[Value.ref b] below meth c H locs 100 10000 Q (F0 m 312 ls []) := by
    intro k_92 hk_92 k_190 hk_190 sg v3 v4 v5 v6 v7 v10 v11 v12 v13 H locs ls hf hP hS hl
    unfold f_L_law_312 at hf
    refine lv_iconst (v := (0 : Int32)) hx hb dL_law_312 (by decide) ?_
    refine lv_istore (lv' := [(14, .int (0 : Int32)), (0, .ref b), (1, .ref (ad 30)), (3, .int v3), (4, .int v4), (5, .int v5), (6, .int v6), (7, .int v7), (10, .int v10), (11, .int v11), (12, .int v12), (13, .int v13)]) hx hb dL_law_313 hl (by decide) rfl (fun ls hl => ?_)
    exact hL_315 k_92 hk_92 k_190 hk_190 64 sg v3 v4 v5 v6 v7 v10 v11 v12 v13 (0 : Int32) _ _ _ hf hP hS (lv_sub hl [1, 2, 3, 4, 5, 6, 7, 8, 9, 10, 11, 0] rfl)
  have hL_414 : ∀ (sg : dd_S) (H : Heap) (locs : List Loc) (ls : Array Slot), f_L_law_414 L xs sg = some s0 → va_P g.1 vwCl (WC g ad sg ++ X) H → va_S (lA s) s.heap H locs → lv_has ls 18 [(1, .ref (ad 30))] → W p l e room_1 s m #[Value.ref b] below meth c H locs 100 10000 Q (F0 m 414 ls []) := by
    intro sg H locs ls hf hP hS hl
    unfold f_L_law_414 at hf
    refine lv_iconst (v := (0 : Int32)) hx hb dL_law_414 (by decide) ?_
    cases hf
  have hL_539 : ∀ (sg : dd_S) (H : Heap) (locs : List Loc) (ls : Array Slot), f_L_law_539 L xs sg = some s0 → va_P g.1 vwCl (WC g ad sg ++ X) H → va_S (lA s) s.heap H locs → lv_has ls 18 [(1, .ref (ad 30))] → W p l e room_1 s m #[Value.ref b] below meth c H locs 100 10000 Q (F0 m 539 ls []) := by
    intro sg H locs ls hf hP hS hl
    unfold f_L_law_539 at hf
    refine lv_iconst (v := (0 : Int32)) hx hb dL_law_539 (by decide) ?_
    cases hf
  have hL_572 : ∀ (k_92 : dd_S → Int32 → Int32 → Int32 → Int32 → Int32 → Option (dd_S)) (hk_92 : ∀ (sg : dd_S) (v3 : Int32) (v4 : Int32) (v5 : Int32) (v6 : Int32) (v7 : Int32) (H : Heap) (locs : List Loc) (ls : Array Slot), k_92 sg v3 v4 v5 v6 v7 = some s0 → va_P g.1 vwCl (WC g ad sg ++ X) H → va_S (lA s) s.heap H locs → lv_has ls 18 [(0, .ref b), (1, .ref (ad 30)), (3, .int v3), (4, .int v4), (5, .int v5), (6, .int v6), (7, .int v7)] → W p l e room_1 s m #[Value.ref b] below meth c H locs 100 10000 Q (F0 m 92 ls [])) (k_419 : dd_S → Int32 → Int32 → Int32 → Int32 → Int32 → Int32 → Option (dd_S)) (hk_419 : ∀ (sg : dd_S) (v3 : Int32) (v4 : Int32) (v5 : Int32) (v6 : Int32) (v7 : Int32) (v12 : Int32) (H : Heap) (locs : List Loc) (ls : Array Slot), k_419 sg v3 v4 v5 v6 v7 v12 = some s0 → va_P g.1 vwCl (WC g ad sg ++ X) H → va_S (lA s) s.heap H locs → lv_has ls 18 [(0, .ref b), (1, .ref (ad 30)), (3, .int v3), (4, .int v4), (5, .int v5), (6, .int v6), (7, .int v7), (12, .int v12)] → W p l e room_1 s m #[Value.ref b] below meth c H locs 100 10000 Q (F0 m 419 ls [])) (k_435 : dd_S → Int32 → Int32 → Int32 → Int32 → Int32 → Int32 → Int32 → Int32 → Int32 → Option (dd_S)) (hk_435 : ∀ (sg : dd_S) (v3 : Int32) (v4 : Int32) (v5 : Int32) (v6 : Int32) (v7 : Int32) (v12 : Int32) (v13 : Int32) (v14 : Int32) (v15 : Int32) (H : Heap) (locs : List Loc) (ls : Array Slot), k_435 sg v3 v4 v5 v6 v7 v12 v13 v14 v15 = some s0 → va_P g.1 vwCl (WC g ad sg ++ X) H → va_S (lA s) s.heap H locs → lv_has ls 18 [(0, .ref b), (1, .ref (ad 30)), (3, .int v3), (4, .int v4), (5, .int v5), (6, .int v6), (7, .int v7), (12, .int v12), (13, .int v13), (14, .int v14), (15, .int v15)] → W p l e room_1 s m #[Value.ref b] below meth c H locs 100 10000 Q (F0 m 435 ls [])), ∀ (sg : dd_S) (v3 : Int32) (v4 : Int32) (v5 : Int32) (v6 : Int32) (v7 : Int32) (v12 : Int32) (v13 : Int32) (v14 : Int32) (v15 : Int32) (H : Heap) (locs : List Loc) (ls : Array Slot), f_L_law_572 L xs k_92 k_419 k_435 sg v3 v4 v5 v6 v7 v12 v13 v14 v15 = some s0 → va_P g.1 vwCl (WC g ad sg ++ X) H → va_S (lA s) s.heap H locs → lv_has ls 18 [(0, .ref b), (1, .ref (ad 30)), (3, .int v3), (4, .int v4), (5, .int v5), (6, .int v6), (7, .int v7), (12, .int v12), (13, .int v13), (14, .int v14), (15, .int v15)] → W p l e room_1 s m #[Value.ref b] below meth c H locs 100 10000 Q (F0 m 572 ls []) := by
    intro k_92 hk_92 k_419 hk_419 k_435 hk_435 sg v3 v4 v5 v6 v7 v12 v13 v14 v15 H locs ls hf hP hS hl
    unfold f_L_law_572 at hf
    obtain ⟨x112, ex112, hf⟩ := lt_ex hf
    refine lv_iinc (v := x112) (lv' := [(15, .int x112), (0, .ref b), (1, .ref (ad 30)), (3, .int v3), (4, .int v4), (5, .int v5), (6, .int v6), (7, .int v7), (12, .int v12), (13, .int v13), (14, .int v14)]) hx hb dL_law_572 hl (k := 10) rfl (by rw [ex112]; rfl) (by decide) rfl (fun ls hl => ?_)
    refine lv_goto (tgt := 435) hx hb dL_law_575 (by decide) ?_
    exact hk_435 sg v3 v4 v5 v6 v7 v12 v13 v14 x112 _ _ _ hf hP hS (lv_sub hl [1, 2, 3, 4, 5, 6, 7, 8, 9, 10, 0] rfl)
  have hL_544 : ∀ (k_92 : dd_S → Int32 → Int32 → Int32 → Int32 → Int32 → Option (dd_S)) (hk_92 : ∀ (sg : dd_S) (v3 : Int32) (v4 : Int32) (v5 : Int32) (v6 : Int32) (v7 : Int32) (H : Heap) (locs : List Loc) (ls : Array Slot), k_92 sg v3 v4 v5 v6 v7 = some s0 → va_P g.1 vwCl (WC g ad sg ++ X) H → va_S (lA s) s.heap H locs → lv_has ls 18 [(0, .ref b), (1, .ref (ad 30)), (3, .int v3), (4, .int v4), (5, .int v5), (6, .int v6), (7, .int v7)] → W p l e room_1 s m #[Value.ref b] below meth c H locs 100 10000 Q (F0 m 92 ls [])) (k_419 : dd_S → Int32 → Int32 → Int32 → Int32 → Int32 → Int32 → Option (dd_S)) (hk_419 : ∀ (sg : dd_S) (v3 : Int32) (v4 : Int32) (v5 : Int32) (v6 : Int32) (v7 : Int32) (v12 : Int32) (H : Heap) (locs : List Loc) (ls : Array Slot), k_419 sg v3 v4 v5 v6 v7 v12 = some s0 → va_P g.1 vwCl (WC g ad sg ++ X) H → va_S (lA s) s.heap H locs → lv_has ls 18 [(0, .ref b), (1, .ref (ad 30)), (3, .int v3), (4, .int v4), (5, .int v5), (6, .int v6), (7, .int v7), (12, .int v12)] → W p l e room_1 s m #[Value.ref b] below meth c H locs 100 10000 Q (F0 m 419 ls [])) (k_435 : dd_S → Int32 → Int32 → Int32 → Int32 → Int32 → Int32 → Int32 → Int32 → Int32 → Option (dd_S)) (hk_435 : ∀ (sg : dd_S) (v3 : Int32) (v4 : Int32) (v5 : Int32) (v6 : Int32) (v7 : Int32) (v12 : Int32) (v13 : Int32) (v14 : Int32) (v15 : Int32) (H : Heap) (locs : List Loc) (ls : Array Slot), k_435 sg v3 v4 v5 v6 v7 v12 v13 v14 v15 = some s0 → va_P g.1 vwCl (WC g ad sg ++ X) H → va_S (lA s) s.heap H locs → lv_has ls 18 [(0, .ref b), (1, .ref (ad 30)), (3, .int v3), (4, .int v4), (5, .int v5), (6, .int v6), (7, .int v7), (12, .int v12), (13, .int v13), (14, .int v14), (15, .int v15)] → W p l e room_1 s m #[Value.ref b] below meth c H locs 100 10000 Q (F0 m 435 ls [])) (n : Nat), ∀ (sg : dd_S) (v3 : Int32) (v4 : Int32) (v5 : Int32) (v6 : Int32) (v7 : Int32) (v12 : Int32) (v13 : Int32) (v14 : Int32) (v15 : Int32) (v16 : Int32) (v17 : Int32) (H : Heap) (locs : List Loc) (ls : Array Slot), f_L_law_544 L xs k_92 k_419 k_435 n sg v3 v4 v5 v6 v7 v12 v13 v14 v15 v16 v17 = some s0 → va_P g.1 vwCl (WC g ad sg ++ X) H → va_S (lA s) s.heap H locs → lv_has ls 18 [(0, .ref b), (1, .ref (ad 30)), (3, .int v3), (4, .int v4), (5, .int v5), (6, .int v6), (7, .int v7), (12, .int v12), (13, .int v13), (14, .int v14), (15, .int v15), (16, .int v16), (17, .int v17)] → W p l e room_1 s m #[Value.ref b] below meth c H locs 100 10000 Q (F0 m 544 ls []) := by
    intro k_92 hk_92 k_419 hk_419 k_435 hk_435 n
    induction n with
    | zero =>
      intro sg v3 v4 v5 v6 v7 v12 v13 v14 v15 v16 v17 H locs ls hf
      rw [f_L_law_544] at hf
      cases hf
    | succ n ih =>
      intro sg v3 v4 v5 v6 v7 v12 v13 v14 v15 v16 v17 H locs ls hf hP hS hl
      rw [f_L_law_544] at hf
      refine lv_iload hx hb dL_law_544 (lv_at hl 12 rfl) ?_
      refine lv_iload hx hb dL_law_546 (lv_at hl 7 rfl) ?_
      refine lv_icmp_ge (tgt := 572) hx hb dL_law_548 (by decide) (fun c113 => ?_) (fun c113 => ?_)
      · have hf := if_t c113 hf
        exact hL_572 k_92 hk_92 k_419 hk_419 k_435 hk_435 sg v3 v4 v5 v6 v7 v12 v13 v14 v15 _ _ _ hf hP hS (lv_sub hl [0, 1, 2, 3, 4, 5, 6, 7, 8, 9, 10] rfl)
      · have hf := if_f c113 hf
        refine lv_aload_n hx hb dL_law_551 rfl (lv_at hl 1 rfl) ?_
        refine lv_iload hx hb dL_law_552 (lv_at hl 12 rfl) ?_
        refine lv_iload hx hb dL_law_554 (lv_at hl 10 rfl) ?_
        obtain ⟨r115, q114, hf⟩ := bd_so hf
        refine cl_i (va_runV (As := [.int v17, .int v15]) (rest := []) ⟨hx, hb, hml, hown, hts⟩ (c_X5_given l g ad X _ sg v17 v15 r115 q114) (cwV 2 hts gl_L_59 rfl rfl rfl yd_X5_given ⟨Nat.le_of_ble_eq_true rfl, Nat.le_of_ble_eq_true rfl⟩) (preV_of hK hP (hD sg) (dd_at (by decide) cc_30) rfl) rfl rfl hl.1 rfl (lv_room (Nat.le_of_ble_eq_true rfl)) dL_law_556 ⟨Nat.le_of_ble_eq_true rfl, Nat.le_of_ble_eq_true rfl⟩) hS (fun q h => law_A (hD sg) hS.1 h) (fun q h => law_A (hD sg) hS.1 h) (fun H locs hP hS => ?_)
        refine lv_iload hx hb dL_law_559 (lv_at hl 11 rfl) ?_
        refine lv_icmp_ne (tgt := 566) hx hb dL_law_561 (by decide) (fun c116 => ?_) (fun c116 => ?_)
        · have hf := if_f c116 hf
          obtain ⟨x117, ex117, hf⟩ := lt_ex hf
          refine lv_iinc (v := x117) (lv' := [(17, .int x117), (0, .ref b), (1, .ref (ad 30)), (3, .int v3), (4, .int v4), (5, .int v5), (6, .int v6), (7, .int v7), (12, .int v12), (13, .int v13), (14, .int v14), (15, .int v15), (16, .int v16)]) hx hb dL_law_566 hl (k := 12) rfl (by rw [ex117]; rfl) (by decide) rfl (fun ls hl => ?_)
          refine lv_goto (tgt := 544) hx hb dL_law_569 (by decide) ?_
          exact ih sg v3 v4 v5 v6 v7 v12 v13 v14 v15 v16 x117 _ _ _ hf hP hS (lv_sub hl [1, 2, 3, 4, 5, 6, 7, 8, 9, 10, 11, 12, 0] rfl)
        · have hf := if_t c116 hf
          refine lv_iconst (v := (0 : Int32)) hx hb dL_law_564 (by decide) ?_
          cases hf
  have hL_541 : ∀ (k_92 : dd_S → Int32 → Int32 → Int32 → Int32 → Int32 → Option (dd_S)) (hk_92 : ∀ (sg : dd_S) (v3 : Int32) (v4 : Int32) (v5 : Int32) (v6 : Int32) (v7 : Int32) (H : Heap) (locs : List Loc) (ls : Array Slot), k_92 sg v3 v4 v5 v6 v7 = some s0 → va_P g.1 vwCl (WC g ad sg ++ X) H → va_S (lA s) s.heap H locs → lv_has ls 18 [(0, .ref b), (1, .ref (ad 30)), (3, .int v3), (4, .int v4), (5, .int v5), (6, .int v6), (7, .int v7)] → W p l e room_1 s m #[Value.ref b] below meth c H locs 100 10000 Q (F0 m 92 ls [])) (k_419 : dd_S → Int32 → Int32 → Int32 → Int32 → Int32 → Int32 → Option (dd_S)) (hk_419 : ∀ (sg : dd_S) (v3 : Int32) (v4 : Int32) (v5 : Int32) (v6 : Int32) (v7 : Int32) (v12 : Int32) (H : Heap) (locs : List Loc) (ls : Array Slot), k_419 sg v3 v4 v5 v6 v7 v12 = some s0 → va_P g.1 vwCl (WC g ad sg ++ X) H → va_S (lA s) s.heap H locs → lv_has ls 18 [(0, .ref b), (1, .ref (ad 30)), (3, .int v3), (4, .int v4), (5, .int v5), (6, .int v6), (7, .int v7), (12, .int v12)] → W p l e room_1 s m #[Value.ref b] below meth c H locs 100 10000 Q (F0 m 419 ls [])) (k_435 : dd_S → Int32 → Int32 → Int32 → Int32 → Int32 → Int32 → Int32 → Int32 → Int32 → Option (dd_S)) (hk_435 : ∀ (sg : dd_S) (v3 : Int32) (v4 : Int32) (v5 : Int32) (v6 : Int32) (v7 : Int32) (v12 : Int32) (v13 : Int32) (v14 : Int32) (v15 : Int32) (H : Heap) (locs : List Loc) (ls : Array Slot), k_435 sg v3 v4 v5 v6 v7 v12 v13 v14 v15 = some s0 → va_P g.1 vwCl (WC g ad sg ++ X) H → va_S (lA s) s.heap H locs → lv_has ls 18 [(0, .ref b), (1, .ref (ad 30)), (3, .int v3), (4, .int v4), (5, .int v5), (6, .int v6), (7, .int v7), (12, .int v12), (13, .int v13), (14, .int v14), (15, .int v15)] → W p l e room_1 s m #[Value.ref b] below meth c H locs 100 10000 Q (F0 m 435 ls [])), ∀ (sg : dd_S) (v3 : Int32) (v4 : Int32) (v5 : Int32) (v6 : Int32) (v7 : Int32) (v12 : Int32) (v13 : Int32) (v14 : Int32) (v15 : Int32) (v16 : Int32) (H : Heap) (locs : List Loc) (ls : Array Slot), f_L_law_541 L xs k_92 k_419 k_435 sg v3 v4 v5 v6 v7 v12 v13 v14 v15 v16 = some s0 → va_P g.1 vwCl (WC g ad sg ++ X) H → va_S (lA s) s.heap H locs → lv_has ls 18 [(0, .ref b), (1, .ref (ad 30)), (3, .int v3), (4, .int v4), (5, .int v5), (6, .int v6), (7, .int v7), (12, .int v12), (13, .int v13), (14, .int v14), (15, .int v15), (16, .int v16)] → W p l e room_1 s m #[Value.ref b] below meth c H locs 100 10000 Q (F0 m 541 ls []) := by
    intro k_92 hk_92 k_419 hk_419 k_435 hk_435 sg v3 v4 v5 v6 v7 v12 v13 v14 v15 v16 H locs ls hf hP hS hl
    unfold f_L_law_541 at hf
    refine lv_iconst (v := (0 : Int32)) hx hb dL_law_541 (by decide) ?_
    refine lv_istore (lv' := [(17, .int (0 : Int32)), (0, .ref b), (1, .ref (ad 30)), (3, .int v3), (4, .int v4), (5, .int v5), (6, .int v6), (7, .int v7), (12, .int v12), (13, .int v13), (14, .int v14), (15, .int v15), (16, .int v16)]) hx hb dL_law_542 hl (by decide) rfl (fun ls hl => ?_)
    exact hL_544 k_92 hk_92 k_419 hk_419 k_435 hk_435 64 sg v3 v4 v5 v6 v7 v12 v13 v14 v15 v16 (0 : Int32) _ _ _ hf hP hS (lv_sub hl [1, 2, 3, 4, 5, 6, 7, 8, 9, 10, 11, 12, 0] rfl)
  have hL_465 : ∀ (k_92 : dd_S → Int32 → Int32 → Int32 → Int32 → Int32 → Option (dd_S)) (hk_92 : ∀ (sg : dd_S) (v3 : Int32) (v4 : Int32) (v5 : Int32) (v6 : Int32) (v7 : Int32) (H : Heap) (locs : List Loc) (ls : Array Slot), k_92 sg v3 v4 v5 v6 v7 = some s0 → va_P g.1 vwCl (WC g ad sg ++ X) H → va_S (lA s) s.heap H locs → lv_has ls 18 [(0, .ref b), (1, .ref (ad 30)), (3, .int v3), (4, .int v4), (5, .int v5), (6, .int v6), (7, .int v7)] → W p l e room_1 s m #[Value.ref b] below meth c H locs 100 10000 Q (F0 m 92 ls [])) (k_419 : dd_S → Int32 → Int32 → Int32 → Int32 → Int32 → Int32 → Option (dd_S)) (hk_419 : ∀ (sg : dd_S) (v3 : Int32) (v4 : Int32) (v5 : Int32) (v6 : Int32) (v7 : Int32) (v12 : Int32) (H : Heap) (locs : List Loc) (ls : Array Slot), k_419 sg v3 v4 v5 v6 v7 v12 = some s0 → va_P g.1 vwCl (WC g ad sg ++ X) H → va_S (lA s) s.heap H locs → lv_has ls 18 [(0, .ref b), (1, .ref (ad 30)), (3, .int v3), (4, .int v4), (5, .int v5), (6, .int v6), (7, .int v7), (12, .int v12)] → W p l e room_1 s m #[Value.ref b] below meth c H locs 100 10000 Q (F0 m 419 ls [])) (k_435 : dd_S → Int32 → Int32 → Int32 → Int32 → Int32 → Int32 → Int32 → Int32 → Int32 → Option (dd_S)) (hk_435 : ∀ (sg : dd_S) (v3 : Int32) (v4 : Int32) (v5 : Int32) (v6 : Int32) (v7 : Int32) (v12 : Int32) (v13 : Int32) (v14 : Int32) (v15 : Int32) (H : Heap) (locs : List Loc) (ls : Array Slot), k_435 sg v3 v4 v5 v6 v7 v12 v13 v14 v15 = some s0 → va_P g.1 vwCl (WC g ad sg ++ X) H → va_S (lA s) s.heap H locs → lv_has ls 18 [(0, .ref b), (1, .ref (ad 30)), (3, .int v3), (4, .int v4), (5, .int v5), (6, .int v6), (7, .int v7), (12, .int v12), (13, .int v13), (14, .int v14), (15, .int v15)] → W p l e room_1 s m #[Value.ref b] below meth c H locs 100 10000 Q (F0 m 435 ls [])), ∀ (sg : dd_S) (v3 : Int32) (v4 : Int32) (v5 : Int32) (v6 : Int32) (v7 : Int32) (v12 : Int32) (v14 : Int32) (v15 : Int32) (v16 : Int32) (t0 : Int32) (H : Heap) (locs : List Loc) (ls : Array Slot), f_L_law_465 L xs k_92 k_419 k_435 sg v3 v4 v5 v6 v7 v12 v14 v15 v16 t0 = some s0 → va_P g.1 vwCl (WC g ad sg ++ X) H → va_S (lA s) s.heap H locs → lv_has ls 18 [(0, .ref b), (1, .ref (ad 30)), (3, .int v3), (4, .int v4), (5, .int v5), (6, .int v6), (7, .int v7), (12, .int v12), (14, .int v14), (15, .int v15), (16, .int v16)] → W p l e room_1 s m #[Value.ref b] below meth c H locs 100 10000 Q (F0 m 465 ls [.int t0]) := by
    intro k_92 hk_92 k_419 hk_419 k_435 hk_435 sg v3 v4 v5 v6 v7 v12 v14 v15 v16 t0 H locs ls hf hP hS hl
    unfold f_L_law_465 at hf
    refine lv_istore (lv' := [(13, .int t0), (0, .ref b), (1, .ref (ad 30)), (3, .int v3), (4, .int v4), (5, .int v5), (6, .int v6), (7, .int v7), (12, .int v12), (14, .int v14), (15, .int v15), (16, .int v16)]) hx hb dL_law_465 hl (by decide) rfl (fun ls hl => ?_)
    refine lv_iload hx hb dL_law_467 (lv_at hl 0 rfl) ?_
    refine lv_iconst (v := (5 : Int32)) hx hb dL_law_469 (by decide) ?_
    refine lv_icmp_le (tgt := 475) hx hb dL_law_470 (by decide) (fun c96 => ?_) (fun c96 => ?_)
    · have hf := if_t c96 hf
      refine lv_iload hx hb dL_law_475 (lv_at hl 11 rfl) ?_
      refine lv_if_ge (tgt := 483) hx hb dL_law_477 (by decide) (fun c97 => ?_) (fun c97 => ?_)
      · have hf := if_t c97 hf
        refine lv_iload hx hb dL_law_483 (lv_at hl 9 rfl) ?_
        refine lv_aload_n hx hb dL_law_485 rfl (lv_at hl 2 rfl) ?_
        refine lv_iload hx hb dL_law_486 (lv_at hl 11 rfl) ?_
        refine lv_iconst (v := (4 : Int32)) hx hb dL_law_488 (by decide) ?_
        obtain ⟨r99, q98, hf⟩ := bd_so hf
        refine cl_i (va_runV (As := [.int v16, .int (4 : Int32)]) (rest := [.int v14]) ⟨hx, hb, hml, hown, hts⟩ (c_X5_duty l g ad X _ sg v16 (4 : Int32) r99 q98) (cwV 2 hts gl_L_50 rfl rfl rfl yd_X5_duty ⟨Nat.le_of_ble_eq_true rfl, Nat.le_of_ble_eq_true rfl⟩) (preV_of hK hP (hD sg) (dd_at (by decide) cc_30) rfl) rfl rfl hl.1 rfl (lv_room (Nat.le_of_ble_eq_true rfl)) dL_law_489 ⟨Nat.le_of_ble_eq_true rfl, Nat.le_of_ble_eq_true rfl⟩) hS (fun q h => law_A (hD sg) hS.1 h) (fun q h => law_A (hD sg) hS.1 h) (fun H locs hP hS => ?_)
        refine lv_iadd hx hb dL_law_492 ?_
        refine lv_topi (fun x100 ex100 => ?_)
        have hf := lt_so ex100 hf
        refine lv_istore (lv' := [(14, .int x100), (13, .int t0), (0, .ref b), (1, .ref (ad 30)), (3, .int v3), (4, .int v4), (5, .int v5), (6, .int v6), (7, .int v7), (12, .int v12), (15, .int v15), (16, .int v16)]) hx hb dL_law_493 hl (by decide) rfl (fun ls hl => ?_)
        refine lv_aload_n hx hb dL_law_495 rfl (lv_at hl 3 rfl) ?_
        refine lv_iload hx hb dL_law_496 (lv_at hl 11 rfl) ?_
        refine lv_bipush (v := (8 : Int32)) hx hb dL_law_498 (by decide) ?_
        obtain ⟨r102, q101, hf⟩ := bd_so hf
        refine cl_i (va_runV (As := [.int v16, .int (8 : Int32)]) (rest := []) ⟨hx, hb, hml, hown, hts⟩ (c_X5_duty l g ad X _ sg v16 (8 : Int32) r102 q101) (cwV 2 hts gl_L_50 rfl rfl rfl yd_X5_duty ⟨Nat.le_of_ble_eq_true rfl, Nat.le_of_ble_eq_true rfl⟩) (preV_of hK hP (hD sg) (dd_at (by decide) cc_30) rfl) rfl rfl hl.1 rfl (lv_room (Nat.le_of_ble_eq_true rfl)) dL_law_500 ⟨Nat.le_of_ble_eq_true rfl, Nat.le_of_ble_eq_true rfl⟩) hS (fun q h => law_A (hD sg) hS.1 h) (fun q h => law_A (hD sg) hS.1 h) (fun H locs hP hS => ?_)
        refine lv_iconst (v := (1 : Int32)) hx hb dL_law_503 (by decide) ?_
        refine lv_icmp_ne (tgt := 539) hx hb dL_law_504 (by decide) (fun c103 => ?_) (fun c103 => ?_)
        · have hf := if_f c103 hf
          exact hL_539 sg _ _ _ hf hP hS (lv_sub hl [3] rfl)
        · have hf := if_t c103 hf
          refine lv_iload hx hb dL_law_507 (lv_at hl 10 rfl) ?_
          refine lv_if_le (tgt := 541) hx hb dL_law_509 (by decide) (fun c104 => ?_) (fun c104 => ?_)
          · have hf := if_t c104 hf
            exact hL_541 k_92 hk_92 k_419 hk_419 k_435 hk_435 sg v3 v4 v5 v6 v7 v12 t0 x100 v15 v16 _ _ _ hf hP hS (lv_sub hl [2, 3, 4, 5, 6, 7, 8, 9, 1, 0, 10, 11] rfl)
          · have hf := if_f c104 hf
            refine lv_aload_n hx hb dL_law_512 rfl (lv_at hl 3 rfl) ?_
            refine lv_iload hx hb dL_law_513 (lv_at hl 9 rfl) ?_
            refine lv_iload hx hb dL_law_515 (lv_at hl 10 rfl) ?_
            refine lv_iconst (v := (1 : Int32)) hx hb dL_law_517 (by decide) ?_
            refine lv_isub hx hb dL_law_518 ?_
            obtain ⟨r106, q105, hf⟩ := bd_so hf
            refine cl_i (va_runV (As := [.int v12, .int (v15 - (1 : Int32))]) (rest := []) ⟨hx, hb, hml, hown, hts⟩ (c_X5_given l g ad X _ sg v12 (v15 - (1 : Int32)) r106 q105) (cwV 2 hts gl_L_59 rfl rfl rfl yd_X5_given ⟨Nat.le_of_ble_eq_true rfl, Nat.le_of_ble_eq_true rfl⟩) (preV_of hK hP (hD sg) (dd_at (by decide) cc_30) rfl) rfl rfl hl.1 rfl (lv_room (Nat.le_of_ble_eq_true rfl)) dL_law_519 ⟨Nat.le_of_ble_eq_true rfl, Nat.le_of_ble_eq_true rfl⟩) hS (fun q h => law_A (hD sg) hS.1 h) (fun q h => law_A (hD sg) hS.1 h) (fun H locs hP hS => ?_)
            refine lv_if_lt (tgt := 541) hx hb dL_law_522 (by decide) (fun c107 => ?_) (fun c107 => ?_)
            · have hf := if_t c107 hf
              exact hL_541 k_92 hk_92 k_419 hk_419 k_435 hk_435 sg v3 v4 v5 v6 v7 v12 t0 x100 v15 v16 _ _ _ hf hP hS (lv_sub hl [2, 3, 4, 5, 6, 7, 8, 9, 1, 0, 10, 11] rfl)
            · have hf := if_f c107 hf
              refine lv_aload_n hx hb dL_law_525 rfl (lv_at hl 3 rfl) ?_
              refine lv_iload hx hb dL_law_526 (lv_at hl 9 rfl) ?_
              refine lv_iload hx hb dL_law_528 (lv_at hl 10 rfl) ?_
              obtain ⟨r109, q108, hf⟩ := bd_so hf
              refine cl_i (va_runV (As := [.int v12, .int v15]) (rest := []) ⟨hx, hb, hml, hown, hts⟩ (c_X5_rest l g ad X _ sg v12 v15 r109 q108) (cwV 2 hts gl_L_62 rfl rfl rfl yd_X5_rest ⟨Nat.le_of_ble_eq_true rfl, Nat.le_of_ble_eq_true rfl⟩) (preV_of hK hP (hD sg) (dd_at (by decide) cc_30) rfl) rfl rfl hl.1 rfl (lv_room (Nat.le_of_ble_eq_true rfl)) dL_law_530 ⟨Nat.le_of_ble_eq_true rfl, Nat.le_of_ble_eq_true rfl⟩) hS (fun q h => law_A (hD sg) hS.1 h) (fun q h => law_A (hD sg) hS.1 h) (fun H locs hP hS => ?_)
              refine lv_sipush (v := (660 : Int32)) hx hb dL_law_533 (by decide) ?_
              refine lv_icmp_ge (tgt := 541) hx hb dL_law_536 (by decide) (fun c110 => ?_) (fun c110 => ?_)
              · have hf := if_t c110 hf
                exact hL_541 k_92 hk_92 k_419 hk_419 k_435 hk_435 sg v3 v4 v5 v6 v7 v12 t0 x100 v15 v16 _ _ _ hf hP hS (lv_sub hl [2, 3, 4, 5, 6, 7, 8, 9, 1, 0, 10, 11] rfl)
              · have hf := if_f c110 hf
                exact hL_539 sg _ _ _ hf hP hS (lv_sub hl [3] rfl)
      · have hf := if_f c97 hf
        refine lv_goto (tgt := 572) hx hb dL_law_480 (by decide) ?_
        exact hL_572 k_92 hk_92 k_419 hk_419 k_435 hk_435 sg v3 v4 v5 v6 v7 v12 t0 v14 v15 _ _ _ hf hP hS (lv_sub hl [1, 2, 3, 4, 5, 6, 7, 8, 0, 9, 10] rfl)
    · have hf := if_f c96 hf
      refine lv_iconst (v := (0 : Int32)) hx hb dL_law_473 (by decide) ?_
      cases hf
  have hL_597 : ∀ (sg : dd_S) (H : Heap) (locs : List Loc) (ls : Array Slot), f_L_law_597 L xs sg = some s0 → va_P g.1 vwCl (WC g ad sg ++ X) H → va_S (lA s) s.heap H locs → lv_has ls 18 [(1, .ref (ad 30))] → W p l e room_1 s m #[Value.ref b] below meth c H locs 100 10000 Q (F0 m 597 ls []) := by
    intro sg H locs ls hf hP hS hl
    unfold f_L_law_597 at hf
    refine lv_iconst (v := (0 : Int32)) hx hb dL_law_597 (by decide) ?_
    cases hf
  have hL_435 : ∀ (k_92 : dd_S → Int32 → Int32 → Int32 → Int32 → Int32 → Option (dd_S)) (hk_92 : ∀ (sg : dd_S) (v3 : Int32) (v4 : Int32) (v5 : Int32) (v6 : Int32) (v7 : Int32) (H : Heap) (locs : List Loc) (ls : Array Slot), k_92 sg v3 v4 v5 v6 v7 = some s0 → va_P g.1 vwCl (WC g ad sg ++ X) H → va_S (lA s) s.heap H locs → lv_has ls 18 [(0, .ref b), (1, .ref (ad 30)), (3, .int v3), (4, .int v4), (5, .int v5), (6, .int v6), (7, .int v7)] → W p l e room_1 s m #[Value.ref b] below meth c H locs 100 10000 Q (F0 m 92 ls [])) (k_419 : dd_S → Int32 → Int32 → Int32 → Int32 → Int32 → Int32 → Option (dd_S)) (hk_419 : ∀ (sg : dd_S) (v3 : Int32) (v4 : Int32) (v5 : Int32) (v6 : Int32) (v7 : Int32) (v12 : Int32) (H : Heap) (locs : List Loc) (ls : Array Slot), k_419 sg v3 v4 v5 v6 v7 v12 = some s0 → va_P g.1 vwCl (WC g ad sg ++ X) H → va_S (lA s) s.heap H locs → lv_has ls 18 [(0, .ref b), (1, .ref (ad 30)), (3, .int v3), (4, .int v4), (5, .int v5), (6, .int v6), (7, .int v7), (12, .int v12)] → W p l e room_1 s m #[Value.ref b] below meth c H locs 100 10000 Q (F0 m 419 ls [])) (n : Nat), ∀ (sg : dd_S) (v3 : Int32) (v4 : Int32) (v5 : Int32) (v6 : Int32) (v7 : Int32) (v12 : Int32) (v13 : Int32) (v14 : Int32) (v15 : Int32) (H : Heap) (locs : List Loc) (ls : Array Slot), f_L_law_435 L xs k_92 k_419 n sg v3 v4 v5 v6 v7 v12 v13 v14 v15 = some s0 → va_P g.1 vwCl (WC g ad sg ++ X) H → va_S (lA s) s.heap H locs → lv_has ls 18 [(0, .ref b), (1, .ref (ad 30)), (3, .int v3), (4, .int v4), (5, .int v5), (6, .int v6), (7, .int v7), (12, .int v12), (13, .int v13), (14, .int v14), (15, .int v15)] → W p l e room_1 s m #[Value.ref b] below meth c H locs 100 10000 Q (F0 m 435 ls []) := by
    intro k_92 hk_92 k_419 hk_419 n
    induction n with
    | zero =>
      intro sg v3 v4 v5 v6 v7 v12 v13 v14 v15 H locs ls hf
      rw [f_L_law_435] at hf
      cases hf
    | succ n ih =>
      intro sg v3 v4 v5 v6 v7 v12 v13 v14 v15 H locs ls hf hP hS hl
      rw [f_L_law_435] at hf
      refine lv_iload hx hb dL_law_435 (lv_at hl 10 rfl) ?_
      refine lv_bipush (v := (7 : Int32)) hx hb dL_law_437 (by decide) ?_
      refine lv_icmp_ge (tgt := 578) hx hb dL_law_439 (by decide) (fun c72 => ?_) (fun c72 => ?_)
      · have hf := if_t c72 hf
        refine lv_aload_n hx hb dL_law_578 rfl (lv_at hl 1 rfl) ?_
        refine lv_iload hx hb dL_law_579 (lv_at hl 7 rfl) ?_
        obtain ⟨r74, q73, hf⟩ := bd_so hf
        refine cl_i (va_runV (As := [.int v12]) (rest := []) ⟨hx, hb, hml, hown, hts⟩ (c_X5_week l g ad X _ sg v12 r74 q73) (cwV 1 hts gl_L_65 rfl rfl rfl yd_X5_week ⟨Nat.le_of_ble_eq_true rfl, Nat.le_of_ble_eq_true rfl⟩) (preV_of hK hP (hD sg) (dd_at (by decide) cc_30) rfl) rfl rfl hl.1 rfl (lv_room (Nat.le_of_ble_eq_true rfl)) dL_law_581 ⟨Nat.le_of_ble_eq_true rfl, Nat.le_of_ble_eq_true rfl⟩) hS (fun q h => law_A (hD sg) hS.1 h) (fun q h => law_A (hD sg) hS.1 h) (fun H locs hP hS => ?_)
        refine lv_iload hx hb dL_law_584 (lv_at hl 9 rfl) ?_
        refine lv_icmp_ne (tgt := 597) hx hb dL_law_586 (by decide) (fun c75 => ?_) (fun c75 => ?_)
        · have hf := if_f c75 hf
          exact hL_597 sg _ _ _ hf hP hS (lv_sub hl [1] rfl)
        · have hf := if_t c75 hf
          refine lv_iload hx hb dL_law_589 (lv_at hl 9 rfl) ?_
          refine lv_sipush (v := (2880 : Int32)) hx hb dL_law_591 (by decide) ?_
          refine lv_icmp_le (tgt := 599) hx hb dL_law_594 (by decide) (fun c76 => ?_) (fun c76 => ?_)
          · have hf := if_t c76 hf
            obtain ⟨x77, ex77, hf⟩ := lt_ex hf
            refine lv_iinc (v := x77) (lv' := [(12, .int x77), (0, .ref b), (1, .ref (ad 30)), (3, .int v3), (4, .int v4), (5, .int v5), (6, .int v6), (7, .int v7), (13, .int v13), (14, .int v14), (15, .int v15)]) hx hb dL_law_599 hl (k := 7) rfl (by rw [ex77]; rfl) (by decide) rfl (fun ls hl => ?_)
            refine lv_goto (tgt := 419) hx hb dL_law_602 (by decide) ?_
            exact hk_419 sg v3 v4 v5 v6 v7 x77 _ _ _ hf hP hS (lv_sub hl [1, 2, 3, 4, 5, 6, 7, 0] rfl)
          · have hf := if_f c76 hf
            exact hL_597 sg _ _ _ hf hP hS (lv_sub hl [1] rfl)
      · have hf := if_f c72 hf
        refine lv_aload_n hx hb dL_law_442 rfl (lv_at hl 1 rfl) ?_
        refine lv_iload hx hb dL_law_443 (lv_at hl 7 rfl) ?_
        refine lv_iload hx hb dL_law_445 (lv_at hl 10 rfl) ?_
        obtain ⟨r79, q78, hf⟩ := bd_so hf
        refine cl_i (va_runV (As := [.int v12, .int v15]) (rest := []) ⟨hx, hb, hml, hown, hts⟩ (c_X5_given l g ad X _ sg v12 v15 r79 q78) (cwV 2 hts gl_L_59 rfl rfl rfl yd_X5_given ⟨Nat.le_of_ble_eq_true rfl, Nat.le_of_ble_eq_true rfl⟩) (preV_of hK hP (hD sg) (dd_at (by decide) cc_30) rfl) rfl rfl hl.1 rfl (lv_room (Nat.le_of_ble_eq_true rfl)) dL_law_447 ⟨Nat.le_of_ble_eq_true rfl, Nat.le_of_ble_eq_true rfl⟩) hS (fun q h => law_A (hD sg) hS.1 h) (fun q h => law_A (hD sg) hS.1 h) (fun H locs hP hS => ?_)
        refine lv_istore (lv' := [(16, .int r79), (0, .ref b), (1, .ref (ad 30)), (3, .int v3), (4, .int v4), (5, .int v5), (6, .int v6), (7, .int v7), (12, .int v12), (13, .int v13), (14, .int v14), (15, .int v15)]) hx hb dL_law_450 hl (by decide) rfl (fun ls hl => ?_)
        refine lv_iload hx hb dL_law_452 (lv_at hl 0 rfl) ?_
        refine lv_if_ge (tgt := 461) hx hb dL_law_454 (by decide) (fun c80 => ?_) (fun c80 => ?_)
        · have hf := if_t c80 hf
          refine lv_iload hx hb dL_law_461 (lv_at hl 9 rfl) ?_
          refine lv_iconst (v := (1 : Int32)) hx hb dL_law_463 (by decide) ?_
          refine lv_iadd hx hb dL_law_464 ?_
          exact hL_465 k_92 hk_92 k_419 hk_419 (fun zs z0 z1 z2 z3 z4 z5 z6 z7 z8 => f_L_law_435 L xs k_92 k_419 n zs z0 z1 z2 z3 z4 z5 z6 z7 z8) ih sg v3 v4 v5 v6 v7 v12 v14 v15 r79 (v13 + (1 : Int32)) _ _ _ hf hP hS (lv_sub hl [1, 2, 3, 4, 5, 6, 7, 8, 10, 11, 0] rfl)
        · have hf := if_f c80 hf
          refine lv_iconst (v := (0 : Int32)) hx hb dL_law_457 (by decide) ?_
          refine lv_goto (tgt := 465) hx hb dL_law_458 (by decide) ?_
          exact hL_465 k_92 hk_92 k_419 hk_419 (fun zs z0 z1 z2 z3 z4 z5 z6 z7 z8 => f_L_law_435 L xs k_92 k_419 n zs z0 z1 z2 z3 z4 z5 z6 z7 z8) ih sg v3 v4 v5 v6 v7 v12 v14 v15 r79 (0 : Int32) _ _ _ hf hP hS (lv_sub hl [1, 2, 3, 4, 5, 6, 7, 8, 10, 11, 0] rfl)
  have hL_419 : ∀ (k_92 : dd_S → Int32 → Int32 → Int32 → Int32 → Int32 → Option (dd_S)) (hk_92 : ∀ (sg : dd_S) (v3 : Int32) (v4 : Int32) (v5 : Int32) (v6 : Int32) (v7 : Int32) (H : Heap) (locs : List Loc) (ls : Array Slot), k_92 sg v3 v4 v5 v6 v7 = some s0 → va_P g.1 vwCl (WC g ad sg ++ X) H → va_S (lA s) s.heap H locs → lv_has ls 18 [(0, .ref b), (1, .ref (ad 30)), (3, .int v3), (4, .int v4), (5, .int v5), (6, .int v6), (7, .int v7)] → W p l e room_1 s m #[Value.ref b] below meth c H locs 100 10000 Q (F0 m 92 ls [])) (n : Nat), ∀ (sg : dd_S) (v3 : Int32) (v4 : Int32) (v5 : Int32) (v6 : Int32) (v7 : Int32) (v12 : Int32) (H : Heap) (locs : List Loc) (ls : Array Slot), f_L_law_419 L xs k_92 n sg v3 v4 v5 v6 v7 v12 = some s0 → va_P g.1 vwCl (WC g ad sg ++ X) H → va_S (lA s) s.heap H locs → lv_has ls 18 [(0, .ref b), (1, .ref (ad 30)), (3, .int v3), (4, .int v4), (5, .int v5), (6, .int v6), (7, .int v7), (12, .int v12)] → W p l e room_1 s m #[Value.ref b] below meth c H locs 100 10000 Q (F0 m 419 ls []) := by
    intro k_92 hk_92 n
    induction n with
    | zero =>
      intro sg v3 v4 v5 v6 v7 v12 H locs ls hf
      rw [f_L_law_419] at hf
      cases hf
    | succ n ih =>
      intro sg v3 v4 v5 v6 v7 v12 H locs ls hf hP hS hl
      rw [f_L_law_419] at hf
      refine lv_iload hx hb dL_law_419 (lv_at hl 7 rfl) ?_
      refine lv_iload hx hb dL_law_421 (lv_at hl 4 rfl) ?_
      refine lv_icmp_ge (tgt := 605) hx hb dL_law_423 (by decide) (fun c70 => ?_) (fun c70 => ?_)
      · have hf := if_t c70 hf
        obtain ⟨x71, ex71, hf⟩ := lt_ex hf
        refine lv_iinc (v := x71) (lv' := [(7, .int x71), (0, .ref b), (1, .ref (ad 30)), (3, .int v3), (4, .int v4), (5, .int v5), (6, .int v6), (12, .int v12)]) hx hb dL_law_605 hl (k := 6) rfl (by rw [ex71]; rfl) (by decide) rfl (fun ls hl => ?_)
        refine lv_goto (tgt := 92) hx hb dL_law_608 (by decide) ?_
        exact hk_92 sg v3 v4 v5 v6 x71 _ _ _ hf hP hS (lv_sub hl [1, 2, 3, 4, 5, 6, 0] rfl)
      · have hf := if_f c70 hf
        refine lv_iconst (v := (0 : Int32)) hx hb dL_law_426 (by decide) ?_
        refine lv_istore (lv' := [(13, .int (0 : Int32)), (0, .ref b), (1, .ref (ad 30)), (3, .int v3), (4, .int v4), (5, .int v5), (6, .int v6), (7, .int v7), (12, .int v12)]) hx hb dL_law_427 hl (by decide) rfl (fun ls hl => ?_)
        refine lv_iconst (v := (0 : Int32)) hx hb dL_law_429 (by decide) ?_
        refine lv_istore (lv' := [(14, .int (0 : Int32)), (13, .int (0 : Int32)), (0, .ref b), (1, .ref (ad 30)), (3, .int v3), (4, .int v4), (5, .int v5), (6, .int v6), (7, .int v7), (12, .int v12)]) hx hb dL_law_430 hl (by decide) rfl (fun ls hl => ?_)
        refine lv_iconst (v := (0 : Int32)) hx hb dL_law_432 (by decide) ?_
        refine lv_istore (lv' := [(15, .int (0 : Int32)), (14, .int (0 : Int32)), (13, .int (0 : Int32)), (0, .ref b), (1, .ref (ad 30)), (3, .int v3), (4, .int v4), (5, .int v5), (6, .int v6), (7, .int v7), (12, .int v12)]) hx hb dL_law_433 hl (by decide) rfl (fun ls hl => ?_)
        exact hL_435 k_92 hk_92 (fun zs z0 z1 z2 z3 z4 z5 => f_L_law_419 L xs k_92 n zs z0 z1 z2 z3 z4 z5) ih 64 sg v3 v4 v5 v6 v7 v12 (0 : Int32) (0 : Int32) (0 : Int32) _ _ _ hf hP hS (lv_sub hl [3, 4, 5, 6, 7, 8, 9, 10, 2, 1, 0] rfl)
  have hL_190 : ∀ (k_92 : dd_S → Int32 → Int32 → Int32 → Int32 → Int32 → Option (dd_S)) (hk_92 : ∀ (sg : dd_S) (v3 : Int32) (v4 : Int32) (v5 : Int32) (v6 : Int32) (v7 : Int32) (H : Heap) (locs : List Loc) (ls : Array Slot), k_92 sg v3 v4 v5 v6 v7 = some s0 → va_P g.1 vwCl (WC g ad sg ++ X) H → va_S (lA s) s.heap H locs → lv_has ls 18 [(0, .ref b), (1, .ref (ad 30)), (3, .int v3), (4, .int v4), (5, .int v5), (6, .int v6), (7, .int v7)] → W p l e room_1 s m #[Value.ref b] below meth c H locs 100 10000 Q (F0 m 92 ls [])) (n : Nat), ∀ (sg : dd_S) (v3 : Int32) (v4 : Int32) (v5 : Int32) (v6 : Int32) (v7 : Int32) (v10 : Int32) (v11 : Int32) (v12 : Int32) (H : Heap) (locs : List Loc) (ls : Array Slot), f_L_law_190 L xs k_92 n sg v3 v4 v5 v6 v7 v10 v11 v12 = some s0 → va_P g.1 vwCl (WC g ad sg ++ X) H → va_S (lA s) s.heap H locs → lv_has ls 18 [(0, .ref b), (1, .ref (ad 30)), (3, .int v3), (4, .int v4), (5, .int v5), (6, .int v6), (7, .int v7), (10, .int v10), (11, .int v11), (12, .int v12)] → W p l e room_1 s m #[Value.ref b] below meth c H locs 100 10000 Q (F0 m 190 ls []) := by
    intro k_92 hk_92 n
    induction n with
    | zero =>
      intro sg v3 v4 v5 v6 v7 v10 v11 v12 H locs ls hf
      rw [f_L_law_190] at hf
      cases hf
    | succ n ih =>
      intro sg v3 v4 v5 v6 v7 v10 v11 v12 H locs ls hf hP hS hl
      rw [f_L_law_190] at hf
      refine lv_iload hx hb dL_law_190 (lv_at hl 9 rfl) ?_
      refine lv_aload_n hx hb dL_law_192 rfl (lv_at hl 1 rfl) ?_
      refine lv_iconst (v := (1 : Int32)) hx hb dL_law_193 (by decide) ?_
      obtain ⟨r37, q36, hf⟩ := bd_so hf
      refine cl_i (va_runV (As := [.int (1 : Int32)]) (rest := [.int v12]) ⟨hx, hb, hml, hown, hts⟩ (c_X5_count l g ad X _ sg (1 : Int32) r37 q36) (cwV 1 hts gl_L_47 rfl rfl rfl yd_X5_count ⟨Nat.le_of_ble_eq_true rfl, Nat.le_of_ble_eq_true rfl⟩) (preV_of hK hP (hD sg) (dd_at (by decide) cc_30) rfl) rfl rfl hl.1 rfl (lv_room (Nat.le_of_ble_eq_true rfl)) dL_law_194 ⟨Nat.le_of_ble_eq_true rfl, Nat.le_of_ble_eq_true rfl⟩) hS (fun q h => law_A (hD sg) hS.1 h) (fun q h => law_A (hD sg) hS.1 h) (fun H locs hP hS => ?_)
      refine lv_icmp_ge (tgt := 388) hx hb dL_law_197 (by decide) (fun c38 => ?_) (fun c38 => ?_)
      · have hf := if_t c38 hf
        refine lv_iload hx hb dL_law_388 (lv_at hl 8 rfl) ?_
        refine lv_iload hx hb dL_law_390 (lv_at hl 5 rfl) ?_
        refine lv_icmp_ne (tgt := 414) hx hb dL_law_392 (by decide) (fun c39 => ?_) (fun c39 => ?_)
        · have hf := if_f c39 hf
          exact hL_414 sg _ _ _ hf hP hS (lv_sub hl [1] rfl)
        · have hf := if_t c39 hf
          refine lv_iload hx hb dL_law_395 (lv_at hl 7 rfl) ?_
          refine lv_iload_n hx hb dL_law_397 rfl (lv_at hl 2 rfl) ?_
          refine lv_iload hx hb dL_law_398 (lv_at hl 3 rfl) ?_
          refine lv_isub hx hb dL_law_400 ?_
          refine lv_icmp_ne (tgt := 414) hx hb dL_law_401 (by decide) (fun c40 => ?_) (fun c40 => ?_)
          · have hf := if_f c40 hf
            exact hL_414 sg _ _ _ hf hP hS (lv_sub hl [1] rfl)
          · have hf := if_t c40 hf
            refine lv_aload_n hx hb dL_law_404 rfl (lv_at hl 1 rfl) ?_
            refine lv_iconst (v := (3 : Int32)) hx hb dL_law_405 (by decide) ?_
            obtain ⟨r42, q41, hf⟩ := bd_so hf
            refine cl_i (va_runV (As := [.int (3 : Int32)]) (rest := []) ⟨hx, hb, hml, hown, hts⟩ (c_X5_count l g ad X _ sg (3 : Int32) r42 q41) (cwV 1 hts gl_L_47 rfl rfl rfl yd_X5_count ⟨Nat.le_of_ble_eq_true rfl, Nat.le_of_ble_eq_true rfl⟩) (preV_of hK hP (hD sg) (dd_at (by decide) cc_30) rfl) rfl rfl hl.1 rfl (lv_room (Nat.le_of_ble_eq_true rfl)) dL_law_406 ⟨Nat.le_of_ble_eq_true rfl, Nat.le_of_ble_eq_true rfl⟩) hS (fun q h => law_A (hD sg) hS.1 h) (fun q h => law_A (hD sg) hS.1 h) (fun H locs hP hS => ?_)
            refine lv_iload hx hb dL_law_409 (lv_at hl 3 rfl) ?_
            refine lv_icmp_eq (tgt := 416) hx hb dL_law_411 (by decide) (fun c43 => ?_) (fun c43 => ?_)
            · have hf := if_t c43 hf
              refine lv_iconst (v := (0 : Int32)) hx hb dL_law_416 (by decide) ?_
              refine lv_istore (lv' := [(12, .int (0 : Int32)), (0, .ref b), (1, .ref (ad 30)), (3, .int v3), (4, .int v4), (5, .int v5), (6, .int v6), (7, .int v7), (10, .int v10), (11, .int v11)]) hx hb dL_law_417 hl (by decide) rfl (fun ls hl => ?_)
              exact hL_419 k_92 hk_92 64 sg v3 v4 v5 v6 v7 (0 : Int32) _ _ _ hf hP hS (lv_sub hl [1, 2, 3, 4, 5, 6, 7, 0] rfl)
            · have hf := if_f c43 hf
              exact hL_414 sg _ _ _ hf hP hS (lv_sub hl [1] rfl)
      · have hf := if_f c38 hf
        refine lv_aload_n hx hb dL_law_200 rfl (lv_at hl 1 rfl) ?_
        refine lv_iload hx hb dL_law_201 (lv_at hl 9 rfl) ?_
        refine lv_iconst (v := (0 : Int32)) hx hb dL_law_203 (by decide) ?_
        obtain ⟨r45, q44, hf⟩ := bd_so hf
        refine cl_i (va_runV (As := [.int v12, .int (0 : Int32)]) (rest := []) ⟨hx, hb, hml, hown, hts⟩ (c_X5_duty l g ad X _ sg v12 (0 : Int32) r45 q44) (cwV 2 hts gl_L_50 rfl rfl rfl yd_X5_duty ⟨Nat.le_of_ble_eq_true rfl, Nat.le_of_ble_eq_true rfl⟩) (preV_of hK hP (hD sg) (dd_at (by decide) cc_30) rfl) rfl rfl hl.1 rfl (lv_room (Nat.le_of_ble_eq_true rfl)) dL_law_204 ⟨Nat.le_of_ble_eq_true rfl, Nat.le_of_ble_eq_true rfl⟩) hS (fun q h => law_A (hD sg) hS.1 h) (fun q h => law_A (hD sg) hS.1 h) (fun H locs hP hS => ?_)
        refine lv_istore (lv' := [(13, .int r45), (0, .ref b), (1, .ref (ad 30)), (3, .int v3), (4, .int v4), (5, .int v5), (6, .int v6), (7, .int v7), (10, .int v10), (11, .int v11), (12, .int v12)]) hx hb dL_law_207 hl (by decide) rfl (fun ls hl => ?_)
        refine lv_iload hx hb dL_law_209 (lv_at hl 8 rfl) ?_
        refine lv_iload hx hb dL_law_211 (lv_at hl 0 rfl) ?_
        refine lv_iadd hx hb dL_law_213 ?_
        refine lv_topi (fun x46 ex46 => ?_)
        have hf := lt_so ex46 hf
        refine lv_istore (lv' := [(10, .int x46), (13, .int r45), (0, .ref b), (1, .ref (ad 30)), (3, .int v3), (4, .int v4), (5, .int v5), (6, .int v6), (7, .int v7), (11, .int v11), (12, .int v12)]) hx hb dL_law_214 hl (by decide) rfl (fun ls hl => ?_)
        refine lv_iload hx hb dL_law_216 (lv_at hl 9 rfl) ?_
        refine lv_aload_n hx hb dL_law_218 rfl (lv_at hl 3 rfl) ?_
        refine lv_iload hx hb dL_law_219 (lv_at hl 10 rfl) ?_
        refine lv_iconst (v := (4 : Int32)) hx hb dL_law_221 (by decide) ?_
        obtain ⟨r48, q47, hf⟩ := bd_so hf
        refine cl_i (va_runV (As := [.int v12, .int (4 : Int32)]) (rest := [.int v11]) ⟨hx, hb, hml, hown, hts⟩ (c_X5_duty l g ad X _ sg v12 (4 : Int32) r48 q47) (cwV 2 hts gl_L_50 rfl rfl rfl yd_X5_duty ⟨Nat.le_of_ble_eq_true rfl, Nat.le_of_ble_eq_true rfl⟩) (preV_of hK hP (hD sg) (dd_at (by decide) cc_30) rfl) rfl rfl hl.1 rfl (lv_room (Nat.le_of_ble_eq_true rfl)) dL_law_222 ⟨Nat.le_of_ble_eq_true rfl, Nat.le_of_ble_eq_true rfl⟩) hS (fun q h => law_A (hD sg) hS.1 h) (fun q h => law_A (hD sg) hS.1 h) (fun H locs hP hS => ?_)
        refine lv_iadd hx hb dL_law_225 ?_
        refine lv_topi (fun x49 ex49 => ?_)
        have hf := lt_so ex49 hf
        refine lv_istore (lv' := [(11, .int x49), (10, .int x46), (13, .int r45), (0, .ref b), (1, .ref (ad 30)), (3, .int v3), (4, .int v4), (5, .int v5), (6, .int v6), (7, .int v7), (12, .int v12)]) hx hb dL_law_226 hl (by decide) rfl (fun ls hl => ?_)
        refine lv_aload_n hx hb dL_law_228 rfl (lv_at hl 4 rfl) ?_
        refine lv_iload hx hb dL_law_229 (lv_at hl 10 rfl) ?_
        refine lv_bipush (v := (7 : Int32)) hx hb dL_law_231 (by decide) ?_
        obtain ⟨r51, q50, hf⟩ := bd_so hf
        refine cl_i (va_runV (As := [.int v12, .int (7 : Int32)]) (rest := []) ⟨hx, hb, hml, hown, hts⟩ (c_X5_duty l g ad X _ sg v12 (7 : Int32) r51 q50) (cwV 2 hts gl_L_50 rfl rfl rfl yd_X5_duty ⟨Nat.le_of_ble_eq_true rfl, Nat.le_of_ble_eq_true rfl⟩) (preV_of hK hP (hD sg) (dd_at (by decide) cc_30) rfl) rfl rfl hl.1 rfl (lv_room (Nat.le_of_ble_eq_true rfl)) dL_law_233 ⟨Nat.le_of_ble_eq_true rfl, Nat.le_of_ble_eq_true rfl⟩) hS (fun q h => law_A (hD sg) hS.1 h) (fun q h => law_A (hD sg) hS.1 h) (fun H locs hP hS => ?_)
        refine lv_iconst (v := (1 : Int32)) hx hb dL_law_236 (by decide) ?_
        refine lv_icmp_ne (tgt := 310) hx hb dL_law_237 (by decide) (fun c52 => ?_) (fun c52 => ?_)
        · have hf := if_f c52 hf
          exact hL_310 sg _ _ _ hf hP hS (lv_sub hl [4] rfl)
        · have hf := if_t c52 hf
          refine lv_iload hx hb dL_law_240 (lv_at hl 2 rfl) ?_
          refine lv_if_le (tgt := 312) hx hb dL_law_242 (by decide) (fun c53 => ?_) (fun c53 => ?_)
          · have hf := if_t c53 hf
            exact hL_312 k_92 hk_92 (fun zs z0 z1 z2 z3 z4 z5 z6 z7 => f_L_law_190 L xs k_92 n zs z0 z1 z2 z3 z4 z5 z6 z7) ih sg v3 v4 v5 v6 v7 x46 x49 v12 r45 _ _ _ hf hP hS (lv_sub hl [3, 4, 5, 6, 7, 8, 9, 1, 0, 10, 2] rfl)
          · have hf := if_f c53 hf
            refine lv_aload_n hx hb dL_law_245 rfl (lv_at hl 4 rfl) ?_
            refine lv_iload hx hb dL_law_246 (lv_at hl 10 rfl) ?_
            refine lv_iconst (v := (4 : Int32)) hx hb dL_law_248 (by decide) ?_
            obtain ⟨r55, q54, hf⟩ := bd_so hf
            refine cl_i (va_runV (As := [.int v12, .int (4 : Int32)]) (rest := []) ⟨hx, hb, hml, hown, hts⟩ (c_X5_duty l g ad X _ sg v12 (4 : Int32) r55 q54) (cwV 2 hts gl_L_50 rfl rfl rfl yd_X5_duty ⟨Nat.le_of_ble_eq_true rfl, Nat.le_of_ble_eq_true rfl⟩) (preV_of hK hP (hD sg) (dd_at (by decide) cc_30) rfl) rfl rfl hl.1 rfl (lv_room (Nat.le_of_ble_eq_true rfl)) dL_law_249 ⟨Nat.le_of_ble_eq_true rfl, Nat.le_of_ble_eq_true rfl⟩) hS (fun q h => law_A (hD sg) hS.1 h) (fun q h => law_A (hD sg) hS.1 h) (fun H locs hP hS => ?_)
            refine lv_sipush (v := (360 : Int32)) hx hb dL_law_252 (by decide) ?_
            refine lv_icmp_lt (tgt := 310) hx hb dL_law_255 (by decide) (fun c56 => ?_) (fun c56 => ?_)
            · have hf := if_t c56 hf
              exact hL_310 sg _ _ _ hf hP hS (lv_sub hl [4] rfl)
            · have hf := if_f c56 hf
              refine lv_aload_n hx hb dL_law_258 rfl (lv_at hl 4 rfl) ?_
              refine lv_iload hx hb dL_law_259 (lv_at hl 10 rfl) ?_
              refine lv_iconst (v := (4 : Int32)) hx hb dL_law_261 (by decide) ?_
              obtain ⟨r58, q57, hf⟩ := bd_so hf
              refine cl_i (va_runV (As := [.int v12, .int (4 : Int32)]) (rest := []) ⟨hx, hb, hml, hown, hts⟩ (c_X5_duty l g ad X _ sg v12 (4 : Int32) r58 q57) (cwV 2 hts gl_L_50 rfl rfl rfl yd_X5_duty ⟨Nat.le_of_ble_eq_true rfl, Nat.le_of_ble_eq_true rfl⟩) (preV_of hK hP (hD sg) (dd_at (by decide) cc_30) rfl) rfl rfl hl.1 rfl (lv_room (Nat.le_of_ble_eq_true rfl)) dL_law_262 ⟨Nat.le_of_ble_eq_true rfl, Nat.le_of_ble_eq_true rfl⟩) hS (fun q h => law_A (hD sg) hS.1 h) (fun q h => law_A (hD sg) hS.1 h) (fun H locs hP hS => ?_)
              refine lv_aload_n hx hb dL_law_265 rfl (lv_at hl 4 rfl) ?_
              refine lv_iload hx hb dL_law_266 (lv_at hl 10 rfl) ?_
              refine lv_iconst (v := (3 : Int32)) hx hb dL_law_268 (by decide) ?_
              obtain ⟨r60, q59, hf⟩ := bd_so hf
              refine cl_i (va_runV (As := [.int v12, .int (3 : Int32)]) (rest := [.int r58]) ⟨hx, hb, hml, hown, hts⟩ (c_X5_duty l g ad X _ sg v12 (3 : Int32) r60 q59) (cwV 2 hts gl_L_50 rfl rfl rfl yd_X5_duty ⟨Nat.le_of_ble_eq_true rfl, Nat.le_of_ble_eq_true rfl⟩) (preV_of hK hP (hD sg) (dd_at (by decide) cc_30) rfl) rfl rfl hl.1 rfl (lv_room (Nat.le_of_ble_eq_true rfl)) dL_law_269 ⟨Nat.le_of_ble_eq_true rfl, Nat.le_of_ble_eq_true rfl⟩) hS (fun q h => law_A (hD sg) hS.1 h) (fun q h => law_A (hD sg) hS.1 h) (fun H locs hP hS => ?_)
              refine lv_icmp_lt (tgt := 310) hx hb dL_law_272 (by decide) (fun c61 => ?_) (fun c61 => ?_)
              · have hf := if_t c61 hf
                exact hL_310 sg _ _ _ hf hP hS (lv_sub hl [4] rfl)
              · have hf := if_f c61 hf
                refine lv_aload_n hx hb dL_law_275 rfl (lv_at hl 4 rfl) ?_
                refine lv_iload hx hb dL_law_276 (lv_at hl 10 rfl) ?_
                refine lv_bipush (v := (6 : Int32)) hx hb dL_law_278 (by decide) ?_
                obtain ⟨r63, q62, hf⟩ := bd_so hf
                refine cl_i (va_runV (As := [.int v12, .int (6 : Int32)]) (rest := []) ⟨hx, hb, hml, hown, hts⟩ (c_X5_duty l g ad X _ sg v12 (6 : Int32) r63 q62) (cwV 2 hts gl_L_50 rfl rfl rfl yd_X5_duty ⟨Nat.le_of_ble_eq_true rfl, Nat.le_of_ble_eq_true rfl⟩) (preV_of hK hP (hD sg) (dd_at (by decide) cc_30) rfl) rfl rfl hl.1 rfl (lv_room (Nat.le_of_ble_eq_true rfl)) dL_law_280 ⟨Nat.le_of_ble_eq_true rfl, Nat.le_of_ble_eq_true rfl⟩) hS (fun q h => law_A (hD sg) hS.1 h) (fun q h => law_A (hD sg) hS.1 h) (fun H locs hP hS => ?_)
                refine lv_sipush (v := (270 : Int32)) hx hb dL_law_283 (by decide) ?_
                refine lv_icmp_gt (tgt := 310) hx hb dL_law_286 (by decide) (fun c64 => ?_) (fun c64 => ?_)
                · have hf := if_t c64 hf
                  exact hL_310 sg _ _ _ hf hP hS (lv_sub hl [4] rfl)
                · have hf := if_f c64 hf
                  refine lv_aload_n hx hb dL_law_289 rfl (lv_at hl 4 rfl) ?_
                  refine lv_iload hx hb dL_law_290 (lv_at hl 10 rfl) ?_
                  refine lv_iconst (v := (2 : Int32)) hx hb dL_law_292 (by decide) ?_
                  obtain ⟨r66, q65, hf⟩ := bd_so hf
                  refine cl_i (va_runV (As := [.int v12, .int (2 : Int32)]) (rest := []) ⟨hx, hb, hml, hown, hts⟩ (c_X5_duty l g ad X _ sg v12 (2 : Int32) r66 q65) (cwV 2 hts gl_L_50 rfl rfl rfl yd_X5_duty ⟨Nat.le_of_ble_eq_true rfl, Nat.le_of_ble_eq_true rfl⟩) (preV_of hK hP (hD sg) (dd_at (by decide) cc_30) rfl) rfl rfl hl.1 rfl (lv_room (Nat.le_of_ble_eq_true rfl)) dL_law_293 ⟨Nat.le_of_ble_eq_true rfl, Nat.le_of_ble_eq_true rfl⟩) hS (fun q h => law_A (hD sg) hS.1 h) (fun q h => law_A (hD sg) hS.1 h) (fun H locs hP hS => ?_)
                  refine lv_aload_n hx hb dL_law_296 rfl (lv_at hl 4 rfl) ?_
                  refine lv_iload hx hb dL_law_297 (lv_at hl 10 rfl) ?_
                  refine lv_iconst (v := (1 : Int32)) hx hb dL_law_299 (by decide) ?_
                  obtain ⟨r68, q67, hf⟩ := bd_so hf
                  refine cl_i (va_runV (As := [.int v12, .int (1 : Int32)]) (rest := [.int r66]) ⟨hx, hb, hml, hown, hts⟩ (c_X5_duty l g ad X _ sg v12 (1 : Int32) r68 q67) (cwV 2 hts gl_L_50 rfl rfl rfl yd_X5_duty ⟨Nat.le_of_ble_eq_true rfl, Nat.le_of_ble_eq_true rfl⟩) (preV_of hK hP (hD sg) (dd_at (by decide) cc_30) rfl) rfl rfl hl.1 rfl (lv_room (Nat.le_of_ble_eq_true rfl)) dL_law_300 ⟨Nat.le_of_ble_eq_true rfl, Nat.le_of_ble_eq_true rfl⟩) hS (fun q h => law_A (hD sg) hS.1 h) (fun q h => law_A (hD sg) hS.1 h) (fun H locs hP hS => ?_)
                  refine lv_isub hx hb dL_law_303 ?_
                  refine lv_sipush (v := (720 : Int32)) hx hb dL_law_304 (by decide) ?_
                  refine lv_icmp_le (tgt := 312) hx hb dL_law_307 (by decide) (fun c69 => ?_) (fun c69 => ?_)
                  · have hf := if_t c69 hf
                    exact hL_312 k_92 hk_92 (fun zs z0 z1 z2 z3 z4 z5 z6 z7 => f_L_law_190 L xs k_92 n zs z0 z1 z2 z3 z4 z5 z6 z7) ih sg v3 v4 v5 v6 v7 x46 x49 v12 r45 _ _ _ hf hP hS (lv_sub hl [3, 4, 5, 6, 7, 8, 9, 1, 0, 10, 2] rfl)
                  · have hf := if_f c69 hf
                    exact hL_310 sg _ _ _ hf hP hS (lv_sub hl [4] rfl)
  have hL_155 : ∀ (k_92 : dd_S → Int32 → Int32 → Int32 → Int32 → Int32 → Option (dd_S)) (hk_92 : ∀ (sg : dd_S) (v3 : Int32) (v4 : Int32) (v5 : Int32) (v6 : Int32) (v7 : Int32) (H : Heap) (locs : List Loc) (ls : Array Slot), k_92 sg v3 v4 v5 v6 v7 = some s0 → va_P g.1 vwCl (WC g ad sg ++ X) H → va_S (lA s) s.heap H locs → lv_has ls 18 [(0, .ref b), (1, .ref (ad 30)), (3, .int v3), (4, .int v4), (5, .int v5), (6, .int v6), (7, .int v7)] → W p l e room_1 s m #[Value.ref b] below meth c H locs 100 10000 Q (F0 m 92 ls [])), ∀ (sg : dd_S) (v3 : Int32) (v4 : Int32) (v5 : Int32) (v6 : Int32) (v7 : Int32) (v9 : Int32) (H : Heap) (locs : List Loc) (ls : Array Slot), f_L_law_155 L xs k_92 sg v3 v4 v5 v6 v7 v9 = some s0 → va_P g.1 vwCl (WC g ad sg ++ X) H → va_S (lA s) s.heap H locs → lv_has ls 18 [(0, .ref b), (1, .ref (ad 30)), (3, .int v3), (4, .int v4), (5, .int v5), (6, .int v6), (7, .int v7), (9, .int v9)] → W p l e room_1 s m #[Value.ref b] below meth c H locs 100 10000 Q (F0 m 155 ls []) := by
    intro k_92 hk_92 sg v3 v4 v5 v6 v7 v9 H locs ls hf hP hS hl
    unfold f_L_law_155 at hf
    refine lv_iload hx hb dL_law_155 (lv_at hl 7 rfl) ?_
    refine lv_if_gt (tgt := 172) hx hb dL_law_157 (by decide) (fun c31 => ?_) (fun c31 => ?_)
    · have hf := if_t c31 hf
      exact hL_172 sg _ _ _ hf hP hS (lv_sub hl [1] rfl)
    · have hf := if_f c31 hf
      refine lv_aload_n hx hb dL_law_160 rfl (lv_at hl 1 rfl) ?_
      obtain ⟨r33, q32, hf⟩ := bd_so hf
      refine cl_i (va_runV (As := []) (rest := []) ⟨hx, hb, hml, hown, hts⟩ (c_X5_pay l g ad X _ sg r33 q32) (cwV 0 hts gl_L_37 rfl rfl rfl yd_X5_pay ⟨Nat.le_of_ble_eq_true rfl, Nat.le_of_ble_eq_true rfl⟩) (preV_of hK hP (hD sg) (dd_at (by decide) cc_30) rfl) rfl rfl hl.1 rfl (lv_room (Nat.le_of_ble_eq_true rfl)) dL_law_161 ⟨Nat.le_of_ble_eq_true rfl, Nat.le_of_ble_eq_true rfl⟩) hS (fun q h => law_A (hD sg) hS.1 h) (fun q h => law_A (hD sg) hS.1 h) (fun H locs hP hS => ?_)
      refine lv_iload hx hb dL_law_164 (lv_at hl 5 rfl) ?_
      refine lv_iload hx hb dL_law_166 (lv_at hl 7 rfl) ?_
      refine lv_iadd hx hb dL_law_168 ?_
      refine lv_icmp_eq (tgt := 174) hx hb dL_law_169 (by decide) (fun c34 => ?_) (fun c34 => ?_)
      · have hf := if_t c34 hf
        refine lv_iload hx hb dL_law_174 (lv_at hl 5 rfl) ?_
        refine lv_iload hx hb dL_law_176 (lv_at hl 7 rfl) ?_
        refine lv_iadd hx hb dL_law_178 ?_
        refine lv_topi (fun x35 ex35 => ?_)
        have hf := lt_so ex35 hf
        refine lv_istore (lv' := [(6, .int x35), (0, .ref b), (1, .ref (ad 30)), (3, .int v3), (4, .int v4), (5, .int v5), (7, .int v7), (9, .int v9)]) hx hb dL_law_179 hl (by decide) rfl (fun ls hl => ?_)
        refine lv_iconst (v := (0 : Int32)) hx hb dL_law_181 (by decide) ?_
        refine lv_istore (lv' := [(10, .int (0 : Int32)), (6, .int x35), (0, .ref b), (1, .ref (ad 30)), (3, .int v3), (4, .int v4), (5, .int v5), (7, .int v7), (9, .int v9)]) hx hb dL_law_182 hl (by decide) rfl (fun ls hl => ?_)
        refine lv_iconst (v := (0 : Int32)) hx hb dL_law_184 (by decide) ?_
        refine lv_istore (lv' := [(11, .int (0 : Int32)), (10, .int (0 : Int32)), (6, .int x35), (0, .ref b), (1, .ref (ad 30)), (3, .int v3), (4, .int v4), (5, .int v5), (7, .int v7), (9, .int v9)]) hx hb dL_law_185 hl (by decide) rfl (fun ls hl => ?_)
        refine lv_iconst (v := (0 : Int32)) hx hb dL_law_187 (by decide) ?_
        refine lv_istore (lv' := [(12, .int (0 : Int32)), (11, .int (0 : Int32)), (10, .int (0 : Int32)), (6, .int x35), (0, .ref b), (1, .ref (ad 30)), (3, .int v3), (4, .int v4), (5, .int v5), (7, .int v7), (9, .int v9)]) hx hb dL_law_188 hl (by decide) rfl (fun ls hl => ?_)
        exact hL_190 k_92 hk_92 64 sg v3 v4 v5 x35 v7 (0 : Int32) (0 : Int32) (0 : Int32) _ _ _ hf hP hS (lv_sub hl [4, 5, 6, 7, 8, 3, 9, 2, 1, 0] rfl)
      · have hf := if_f c34 hf
        exact hL_172 sg _ _ _ hf hP hS (lv_sub hl [1] rfl)
  have hL_92 : ∀ (n : Nat), ∀ (sg : dd_S) (v3 : Int32) (v4 : Int32) (v5 : Int32) (v6 : Int32) (v7 : Int32) (H : Heap) (locs : List Loc) (ls : Array Slot), f_L_law_92 L xs n sg v3 v4 v5 v6 v7 = some s0 → va_P g.1 vwCl (WC g ad sg ++ X) H → va_S (lA s) s.heap H locs → lv_has ls 18 [(0, .ref b), (1, .ref (ad 30)), (3, .int v3), (4, .int v4), (5, .int v5), (6, .int v6), (7, .int v7)] → W p l e room_1 s m #[Value.ref b] below meth c H locs 100 10000 Q (F0 m 92 ls []) := by
    intro n
    induction n with
    | zero =>
      intro sg v3 v4 v5 v6 v7 H locs ls hf
      rw [f_L_law_92] at hf
      cases hf
    | succ n ih =>
      intro sg v3 v4 v5 v6 v7 H locs ls hf hP hS hl
      rw [f_L_law_92] at hf
      refine lv_iload hx hb dL_law_92 (lv_at hl 6 rfl) ?_
      refine lv_bipush (v := (12 : Int32)) hx hb dL_law_94 (by decide) ?_
      refine lv_icmp_ge (tgt := 611) hx hb dL_law_96 (by decide) (fun c16 => ?_) (fun c16 => ?_)
      · have hf := if_t c16 hf
        obtain rfl := so1 hf
        exact fin _ _ _ hP hS (lv_sub hl [1] rfl)
      · have hf := if_f c16 hf
        refine lv_aload_n hx hb dL_law_99 rfl (lv_at hl 0 rfl) ?_
        refine lv_bipush (v := (8 : Int32)) hx hb dL_law_100 (by decide) ?_
        refine lv_iload hx hb dL_law_102 (lv_at hl 6 rfl) ?_
        refine lv_bipush (v := (6 : Int32)) hx hb dL_law_104 (by decide) ?_
        refine lv_irem hx hb dL_law_106 (by decide) ?_
        refine lv_iadd hx hb dL_law_107 ?_
        obtain ⟨r18, q17, hf⟩ := bd_so hf
        refine cl_i (va_runS (As := [.ref b, .int ((8 : Int32) + (v7 - v7 / (6 : Int32) * (6 : Int32)))]) (rest := []) ⟨hx, hb, hml, hown, hts⟩ (c_L_cell l g ad X _ sg b L xs ((8 : Int32) + (v7 - v7 / (6 : Int32) * (6 : Int32))) (fun h => hbA (law_A (hD sg) hS.1 h)) r18 q17) (cwS 2 hts gl_L_9 rfl rfl rfl yd_L_cell ⟨Nat.le_of_ble_eq_true rfl, Nat.le_of_ble_eq_true rfl⟩) (preZ_of hK hP (hD sg) hX hbl hbA hS) rfl rfl hl.1 rfl (lv_room (Nat.le_of_ble_eq_true rfl)) dL_law_108 ⟨Nat.le_of_ble_eq_true rfl, Nat.le_of_ble_eq_true rfl⟩) hS (fun q h => law_A (hD sg) hS.1 h) (fun q h => law_A (hD sg) hS.1 h) (fun H locs hP hS => ?_)
        refine lv_iload hx hb dL_law_111 (lv_at hl 6 rfl) ?_
        refine lv_sipush (v := (2741 : Int32)) hx hb dL_law_113 (by decide) ?_
        refine lv_imul hx hb dL_law_116 ?_
        refine lv_ixor hx hb dL_law_117 ?_
        refine lv_topi (fun x19 ex19 => ?_)
        have hf := lt_so ex19 hf
        refine lv_istore (lv' := [(8, .int x19), (0, .ref b), (1, .ref (ad 30)), (3, .int v3), (4, .int v4), (5, .int v5), (6, .int v6), (7, .int v7)]) hx hb dL_law_118 hl (by decide) rfl (fun ls hl => ?_)
        refine lv_iconst (v := (0 : Int32)) hx hb dL_law_120 (by decide) ?_
        refine lv_istore (lv' := [(9, .int (0 : Int32)), (8, .int x19), (0, .ref b), (1, .ref (ad 30)), (3, .int v3), (4, .int v4), (5, .int v5), (6, .int v6), (7, .int v7)]) hx hb dL_law_121 hl (by decide) rfl (fun ls hl => ?_)
        refine lv_iload hx hb dL_law_123 (lv_at hl 1 rfl) ?_
        refine lv_iconst (v := (3 : Int32)) hx hb dL_law_125 (by decide) ?_
        obtain ⟨r21, q20, hf⟩ := bd_so hf
        refine cl_i (va_runS (As := [.int x19, .int (3 : Int32)]) (rest := []) ⟨hx, hb, hml, hown, hts⟩ (c_L_below l g ad X _ sg x19 (3 : Int32) r21 q20) (cwS 2 hts gl_L_15 rfl rfl rfl yd_L_below ⟨Nat.le_of_ble_eq_true rfl, Nat.le_of_ble_eq_true rfl⟩) (preS_of hK hP (hD sg)) rfl rfl hl.1 rfl (lv_room (Nat.le_of_ble_eq_true rfl)) dL_law_126 ⟨Nat.le_of_ble_eq_true rfl, Nat.le_of_ble_eq_true rfl⟩) hS (fun q h => law_A (hD sg) hS.1 h) (fun q h => law_A (hD sg) hS.1 h) (fun H locs hP hS => ?_)
        refine lv_if_ne (tgt := 141) hx hb dL_law_129 (by decide) (fun c22 => ?_) (fun c22 => ?_)
        · have hf := if_f c22 hf
          refine lv_aload_n hx hb dL_law_141 rfl (lv_at hl 3 rfl) ?_
          refine lv_iload hx hb dL_law_142 (lv_at hl 1 rfl) ?_
          refine lv_iconst (v := (3 : Int32)) hx hb dL_law_144 (by decide) ?_
          refine lv_ishr hx hb dL_law_145 ?_
          refine lv_bipush (v := (7 : Int32)) hx hb dL_law_146 (by decide) ?_
          obtain ⟨r24, q23, hf⟩ := bd_so hf
          refine cl_i (va_runS (As := [.int (x19 >>> ((3 : Int32) &&& 31)), .int (7 : Int32)]) (rest := [.ref (ad 30)]) ⟨hx, hb, hml, hown, hts⟩ (c_L_below l g ad X _ sg (x19 >>> ((3 : Int32) &&& 31)) (7 : Int32) r24 q23) (cwS 2 hts gl_L_15 rfl rfl rfl yd_L_below ⟨Nat.le_of_ble_eq_true rfl, Nat.le_of_ble_eq_true rfl⟩) (preS_of hK hP (hD sg)) rfl rfl hl.1 rfl (lv_room (Nat.le_of_ble_eq_true rfl)) dL_law_148 ⟨Nat.le_of_ble_eq_true rfl, Nat.le_of_ble_eq_true rfl⟩) hS (fun q h => law_A (hD sg) hS.1 h) (fun q h => law_A (hD sg) hS.1 h) (fun H locs hP hS => ?_)
          obtain ⟨r27, sg26, q25, hf⟩ := bd2_so hf
          refine cl_i (va_runV (As := [.int r24]) (rest := []) ⟨hx, hb, hml, hown, hts⟩ (c_X5_fill l g ad X _ sg r24 r27 sg26 q25) (cwV 1 hts gl_L_43 rfl rfl rfl yd_X5_fill ⟨Nat.le_of_ble_eq_true rfl, Nat.le_of_ble_eq_true rfl⟩) (preV_of hK hP (hD sg) (dd_at (by decide) cc_30) rfl) rfl rfl hl.1 rfl (lv_room (Nat.le_of_ble_eq_true rfl)) dL_law_151 ⟨Nat.le_of_ble_eq_true rfl, Nat.le_of_ble_eq_true rfl⟩) hS (fun q h => law_A (hD sg) hS.1 h) (fun q h => law_A (hD sg) hS.1 h) (fun H locs hP hS => ?_)
          refine lv_pop hx hb dL_law_154 rfl ?_
          exact hL_155 (fun zs z0 z1 z2 z3 z4 => f_L_law_92 L xs n zs z0 z1 z2 z3 z4) ih sg26 v3 v4 v5 v6 v7 (0 : Int32) _ _ _ hf hP hS (lv_sub hl [2, 3, 4, 5, 6, 7, 8, 0] rfl)
        · have hf := if_t c22 hf
          refine lv_aload_n hx hb dL_law_132 rfl (lv_at hl 3 rfl) ?_
          obtain ⟨r30, sg29, q28, hf⟩ := bd2_so hf
          refine cl_i (va_runV (As := []) (rest := []) ⟨hx, hb, hml, hown, hts⟩ (c_X5_improve l g ad X _ sg r30 sg29 q28) (cwV 0 hts gl_L_40 rfl rfl rfl yd_X5_improve ⟨Nat.le_of_ble_eq_true rfl, Nat.le_of_ble_eq_true rfl⟩) (preV_of hK hP (hD sg) (dd_at (by decide) cc_30) rfl) rfl rfl hl.1 rfl (lv_room (Nat.le_of_ble_eq_true rfl)) dL_law_133 ⟨Nat.le_of_ble_eq_true rfl, Nat.le_of_ble_eq_true rfl⟩) hS (fun q h => law_A (hD sg) hS.1 h) (fun q h => law_A (hD sg) hS.1 h) (fun H locs hP hS => ?_)
          refine lv_istore (lv' := [(9, .int r30), (8, .int x19), (0, .ref b), (1, .ref (ad 30)), (3, .int v3), (4, .int v4), (5, .int v5), (6, .int v6), (7, .int v7)]) hx hb dL_law_136 hl (by decide) rfl (fun ls hl => ?_)
          refine lv_goto (tgt := 155) hx hb dL_law_138 (by decide) ?_
          exact hL_155 (fun zs z0 z1 z2 z3 z4 => f_L_law_92 L xs n zs z0 z1 z2 z3 z4) ih sg29 v3 v4 v5 v6 v7 r30 _ _ _ hf hP hS (lv_sub hl [2, 3, 4, 5, 6, 7, 8, 0] rfl)
  have hL_65 : ∀ (n : Nat), ∀ (sg : dd_S) (v3 : Int32) (v4 : Int32) (v5 : Int32) (v6 : Int32) (H : Heap) (locs : List Loc) (ls : Array Slot), f_L_law_65 L xs n sg v3 v4 v5 v6 = some s0 → va_P g.1 vwCl (WC g ad sg ++ X) H → va_S (lA s) s.heap H locs → lv_has ls 18 [(0, .ref b), (1, .ref (ad 30)), (3, .int v3), (4, .int v4), (5, .int v5), (6, .int v6)] → W p l e room_1 s m #[Value.ref b] below meth c H locs 100 10000 Q (F0 m 65 ls []) := by
    intro n
    induction n with
    | zero =>
      intro sg v3 v4 v5 v6 H locs ls hf
      rw [f_L_law_65] at hf
      cases hf
    | succ n ih =>
      intro sg v3 v4 v5 v6 H locs ls hf hP hS hl
      rw [f_L_law_65] at hf
      refine lv_iload hx hb dL_law_65 (lv_at hl 5 rfl) ?_
      refine lv_iload hx hb dL_law_67 (lv_at hl 4 rfl) ?_
      refine lv_icmp_ge (tgt := 83) hx hb dL_law_69 (by decide) (fun c9 => ?_) (fun c9 => ?_)
      · have hf := if_t c9 hf
        refine lv_aload_n hx hb dL_law_83 rfl (lv_at hl 1 rfl) ?_
        obtain ⟨r11, q10, hf⟩ := bd_so hf
        refine cl_i (va_runV (As := []) (rest := []) ⟨hx, hb, hml, hown, hts⟩ (c_X5_pay l g ad X _ sg r11 q10) (cwV 0 hts gl_L_37 rfl rfl rfl yd_X5_pay ⟨Nat.le_of_ble_eq_true rfl, Nat.le_of_ble_eq_true rfl⟩) (preV_of hK hP (hD sg) (dd_at (by decide) cc_30) rfl) rfl rfl hl.1 rfl (lv_room (Nat.le_of_ble_eq_true rfl)) dL_law_84 ⟨Nat.le_of_ble_eq_true rfl, Nat.le_of_ble_eq_true rfl⟩) hS (fun q h => law_A (hD sg) hS.1 h) (fun q h => law_A (hD sg) hS.1 h) (fun H locs hP hS => ?_)
        refine lv_istore (lv' := [(6, .int r11), (0, .ref b), (1, .ref (ad 30)), (3, .int v3), (4, .int v4), (5, .int v5)]) hx hb dL_law_87 hl (by decide) rfl (fun ls hl => ?_)
        refine lv_iconst (v := (0 : Int32)) hx hb dL_law_89 (by decide) ?_
        refine lv_istore (lv' := [(7, .int (0 : Int32)), (6, .int r11), (0, .ref b), (1, .ref (ad 30)), (3, .int v3), (4, .int v4), (5, .int v5)]) hx hb dL_law_90 hl (by decide) rfl (fun ls hl => ?_)
        exact hL_92 64 sg v3 v4 v5 r11 (0 : Int32) _ _ _ hf hP hS (lv_sub hl [2, 3, 4, 5, 6, 1, 0] rfl)
      · have hf := if_f c9 hf
        refine lv_aload_n hx hb dL_law_72 rfl (lv_at hl 1 rfl) ?_
        obtain ⟨r14, sg13, q12, hf⟩ := bd2_so hf
        refine cl_i (va_runV (As := []) (rest := []) ⟨hx, hb, hml, hown, hts⟩ (c_X5_addDriver l g ad X _ sg r14 sg13 q12) (cwV 0 hts gl_L_34 rfl rfl rfl yd_X5_addDriver ⟨Nat.le_of_ble_eq_true rfl, Nat.le_of_ble_eq_true rfl⟩) (preV_of hK hP (hD sg) (dd_at (by decide) cc_30) rfl) rfl rfl hl.1 rfl (lv_room (Nat.le_of_ble_eq_true rfl)) dL_law_73 ⟨Nat.le_of_ble_eq_true rfl, Nat.le_of_ble_eq_true rfl⟩) hS (fun q h => law_A (hD sg) hS.1 h) (fun q h => law_A (hD sg) hS.1 h) (fun H locs hP hS => ?_)
        refine lv_pop hx hb dL_law_76 rfl ?_
        obtain ⟨x15, ex15, hf⟩ := lt_ex hf
        refine lv_iinc (v := x15) (lv' := [(6, .int x15), (0, .ref b), (1, .ref (ad 30)), (3, .int v3), (4, .int v4), (5, .int v5)]) hx hb dL_law_77 hl (k := 5) rfl (by rw [ex15]; rfl) (by decide) rfl (fun ls hl => ?_)
        refine lv_goto (tgt := 65) hx hb dL_law_80 (by decide) ?_
        exact ih sg13 v3 v4 v5 x15 _ _ _ hf hP hS (lv_sub hl [1, 2, 3, 4, 5, 0] rfl)
  have hL_42 : ∀ (sg : dd_S) (v3 : Int32) (H : Heap) (locs : List Loc) (ls : Array Slot), f_L_law_42 L xs sg v3 = some s0 → va_P g.1 vwCl (WC g ad sg ++ X) H → va_S (lA s) s.heap H locs → lv_has ls 18 [(0, .ref b), (1, .ref (ad 30)), (3, .int v3)] → W p l e room_1 s m #[Value.ref b] below meth c H locs 100 10000 Q (F0 m 42 ls []) := by
    intro sg v3 H locs ls hf hP hS hl
    unfold f_L_law_42 at hf
    refine lv_aload_n hx hb dL_law_42 rfl (lv_at hl 1 rfl) ?_
    obtain ⟨r3, sg2, q1, hf⟩ := bd2_so hf
    refine cl_i (va_runV (As := []) (rest := []) ⟨hx, hb, hml, hown, hts⟩ (c_X5_plan l g ad X _ sg r3 sg2 q1) (cwV 0 hts gl_L_30 rfl rfl rfl yd_X5_plan ⟨Nat.le_of_ble_eq_true rfl, Nat.le_of_ble_eq_true rfl⟩) (preV_of hK hP (hD sg) (dd_at (by decide) cc_30) rfl) rfl rfl hl.1 rfl (lv_room (Nat.le_of_ble_eq_true rfl)) dL_law_43 ⟨Nat.le_of_ble_eq_true rfl, Nat.le_of_ble_eq_true rfl⟩) hS (fun q h => law_A (hD sg) hS.1 h) (fun q h => law_A (hD sg) hS.1 h) (fun H locs hP hS => ?_)
    refine lv_istore (lv' := [(4, .int r3), (0, .ref b), (1, .ref (ad 30)), (3, .int v3)]) hx hb dL_law_46 hl (by decide) rfl (fun ls hl => ?_)
    refine lv_iconst (v := (2 : Int32)) hx hb dL_law_48 (by decide) ?_
    refine lv_aload_n hx hb dL_law_49 rfl (lv_at hl 1 rfl) ?_
    refine lv_bipush (v := (7 : Int32)) hx hb dL_law_50 (by decide) ?_
    obtain ⟨r5, q4, hf⟩ := bd_so hf
    refine cl_i (va_runS (As := [.ref b, .int (7 : Int32)]) (rest := [.int (2 : Int32)]) ⟨hx, hb, hml, hown, hts⟩ (c_L_cell l g ad X _ sg2 b L xs (7 : Int32) (fun h => hbA (law_A (hD sg2) hS.1 h)) r5 q4) (cwS 2 hts gl_L_9 rfl rfl rfl yd_L_cell ⟨Nat.le_of_ble_eq_true rfl, Nat.le_of_ble_eq_true rfl⟩) (preZ_of hK hP (hD sg2) hX hbl hbA hS) rfl rfl hl.1 rfl (lv_room (Nat.le_of_ble_eq_true rfl)) dL_law_52 ⟨Nat.le_of_ble_eq_true rfl, Nat.le_of_ble_eq_true rfl⟩) hS (fun q h => law_A (hD sg2) hS.1 h) (fun q h => law_A (hD sg2) hS.1 h) (fun H locs hP hS => ?_)
    refine lv_iconst (v := (5 : Int32)) hx hb dL_law_55 (by decide) ?_
    obtain ⟨r7, q6, hf⟩ := bd_so hf
    refine cl_i (va_runS (As := [.int r5, .int (5 : Int32)]) (rest := [.int (2 : Int32)]) ⟨hx, hb, hml, hown, hts⟩ (c_L_below l g ad X _ sg2 r5 (5 : Int32) r7 q6) (cwS 2 hts gl_L_15 rfl rfl rfl yd_L_below ⟨Nat.le_of_ble_eq_true rfl, Nat.le_of_ble_eq_true rfl⟩) (preS_of hK hP (hD sg2)) rfl rfl hl.1 rfl (lv_room (Nat.le_of_ble_eq_true rfl)) dL_law_56 ⟨Nat.le_of_ble_eq_true rfl, Nat.le_of_ble_eq_true rfl⟩) hS (fun q h => law_A (hD sg2) hS.1 h) (fun q h => law_A (hD sg2) hS.1 h) (fun H locs hP hS => ?_)
    refine lv_iadd hx hb dL_law_59 ?_
    refine lv_topi (fun x8 ex8 => ?_)
    have hf := lt_so ex8 hf
    refine lv_istore (lv' := [(5, .int x8), (4, .int r3), (0, .ref b), (1, .ref (ad 30)), (3, .int v3)]) hx hb dL_law_60 hl (by decide) rfl (fun ls hl => ?_)
    refine lv_iconst (v := (0 : Int32)) hx hb dL_law_62 (by decide) ?_
    refine lv_istore (lv' := [(6, .int (0 : Int32)), (5, .int x8), (4, .int r3), (0, .ref b), (1, .ref (ad 30)), (3, .int v3)]) hx hb dL_law_63 hl (by decide) rfl (fun ls hl => ?_)
    exact hL_65 64 sg2 v3 r3 x8 (0 : Int32) _ _ _ hf hP hS (lv_sub hl [3, 4, 5, 2, 1, 0] rfl)
  exact hL_42
