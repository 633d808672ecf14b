/-! THE STATE: a world is a list of cells at the addresses ad 0, ad 1 ..; what they hold of ints is sg k j (cell k, slot j); references never move. WC: the class's 59 cells; WM: the reference's 9. -/
abbrev dd_S : Type := Nat → Nat → Int32
abbrev dd_G : Type := va_G × ClassId × ClassId × ClassId
def dd_up (sg : dd_S) (k : Nat) (f : Nat → Int32) : dd_S := fun j => if j = k then f else sg j
/-- one int set -/
def st2 (sg : dd_S) (k j : Nat) (v : Int32) : dd_S := dd_up sg k (upd (sg k) j v)
def dd_wd (n : Nat) (cd : Nat → (Nat → Int32) → va_E) (ad : Nat → Nat) (sg : dd_S) : va_W := (List.range n).map fun k => (ad k, cd k (sg k))
theorem dd_at {n : Nat} {cd : Nat → (Nat → Int32) → va_E} {ad : Nat → Nat} {sg : dd_S} {X : va_W} {k : Nat} (h : k < n) {e : va_E} (he : cd k (sg k) = e) : (dd_wd n cd ad sg ++ X)[k]? = some (ad k, e) := by
  subst he
  rw [List.getElem?_append_left (by simp [dd_wd, h])]
  simp [dd_wd, h]
theorem dd_set {n : Nat} {cd : Nat → (Nat → Int32) → va_E} {ad : Nat → Nat} {sg : dd_S} {X : va_W} {k : Nat} (h : k < n) {e : va_E} {f : Nat → Int32} (he : cd k f = e) : (dd_wd n cd ad sg ++ X).set k (ad k, e) = dd_wd n cd ad (dd_up sg k f) ++ X := by
  subst he
  rw [List.set_append_left (h := by simp [dd_wd, h])]
  congr 1
  apply List.ext_getElem?
  intro i
  rw [List.getElem?_set]
  by_cases hi : i < n
  · by_cases hk : k = i
    · subst hk
      simp [dd_wd, dd_up, h]
    · simp [dd_wd, dd_up, hi, hk, Ne.symm hk]
  · have e1 : ¬ k = i := by omega
    simp [dd_wd, hi, e1]
theorem dd_len {n : Nat} {cd : Nat → (Nat → Int32) → va_E} {ad : Nat → Nat} {sg : dd_S} : (dd_wd n cd ad sg).length = n := by simp [dd_wd]
/-- apartness speaks of addresses alone -/
theorem dd_ads {A : Nat → Prop} {w1 w2 : va_W} (h : va_D A w1) (e : w1.map (·.1) = w2.map (·.1)) : va_D A w2 := by
  have key : ∀ (k : Nat) (q : Nat × va_E), w2[k]? = some q → ∃ q0, w1[k]? = some q0 ∧ q0.1 = q.1 := by
    intro k q hk
    have h1 : (w1.map (·.1))[k]? = some q.1 := by rw [e, List.getElem?_map, hk]; rfl
    rw [List.getElem?_map] at h1
    cases hq : w1[k]? with
    | none => rw [hq] at h1; cases h1
    | some q0 => rw [hq] at h1; exact ⟨q0, rfl, Option.some.inj h1⟩
  refine ⟨fun i j x y hi hj hxy => ?_, fun k q hk => ?_⟩
  · obtain ⟨x0, h1, h2⟩ := key i x hi
    obtain ⟨y0, h3, h4⟩ := key j y hj
    exact h.1 i j x0 y0 h1 h3 (h2.trans (hxy.trans h4.symm))
  · obtain ⟨q0, h1, h2⟩ := key k q hk
    rw [← h2]
    exact h.2 k q0 h1
theorem dd_D {n : Nat} {cd : Nat → (Nat → Int32) → va_E} {ad : Nat → Nat} {sg s2 : dd_S} {X : va_W} {A : Nat → Prop} (h : va_D A (dd_wd n cd ad sg ++ X)) : va_D A (dd_wd n cd ad s2 ++ X) := dd_ads h (by simp [dd_wd])
/-- what a method may change: its world's cells, and new ones -/
def dd_A (n : Nat) (ad : Nat → Nat) (X : va_W) (sz : Nat) : Nat → Prop := fun q => (∃ k, k < n ∧ q = ad k) ∨ (∃ x, x ∈ X ∧ q = x.1) ∨ sz ≤ q
theorem dd_A_mono {n : Nat} {ad : Nat → Nat} {X : va_W} {sz s2 : Nat} (h : sz ≤ s2) {q : Nat} (hq : dd_A n ad X s2 q) : dd_A n ad X sz q := hq.imp id (Or.imp id (Nat.le_trans h))
theorem dd_A_more {n : Nat} {ad : Nat → Nat} {X : va_W} {t : Nat × va_E} {sz s2 : Nat} (h : sz ≤ s2) (ht : sz ≤ t.1) {q : Nat} (hq : dd_A n ad (X ++ [t]) s2 q) : dd_A n ad X sz q := by
  rcases hq with h1 | ⟨x, hx, e⟩ | h1
  · exact Or.inl h1
  · rcases List.mem_append.mp hx with h2 | h2
    · exact Or.inr (Or.inl ⟨x, h2, e⟩)
    · rw [List.mem_singleton.mp h2] at e
      exact Or.inr (Or.inr (by rw [e]; exact ht))
  · exact Or.inr (Or.inr (Nat.le_trans h h1))
theorem dd_A_new {n : Nat} {ad : Nat → Nat} {X : va_W} {sz q : Nat} (h : sz ≤ q) : dd_A n ad X sz q := Or.inr (Or.inr h)
theorem dd_A_D {n : Nat} {cd : Nat → (Nat → Int32) → va_E} {ad : Nat → Nat} {sg : dd_S} {X : va_W} {A : Nat → Prop} {sz : Nat} (h : va_D A (dd_wd n cd ad sg ++ X)) : va_D (dd_A n ad X sz) (dd_wd n cd ad sg ++ X) := by
  refine ⟨h.1, fun k q hk => ?_⟩
  rcases List.mem_append.mp (List.mem_of_getElem? hk) with h1 | h1
  · obtain ⟨j, hj, e⟩ := List.mem_map.mp h1
    exact Or.inl ⟨j, List.mem_range.mp hj, by rw [← e]⟩
  · exact Or.inr (Or.inl ⟨q, h1, rfl⟩)
/-! the class's cells: 0..14 duties (12 the trial, 13 the other one, 14 the stand-in), 15..29 their trips, 30 the desk, 31 the timetable, 32 the rules, 33 the row of duties, 34 dutyOfTrip, 35 the roster, 36 the queue (37, 38), 39 the exchange, 40 the ways, 41..44 from, to, departure, arrival, 45..52 the roster's rows, 53..58 the ways' rows -/
def cdC (c : ClassId × ClassId × ClassId) (ad : Nat → Nat) (k : Nat) (f : Nat → Int32) : va_E :=
  if k < 15 then .inr (0, [.ref (ad (15 + k)), .int (f 1), .int (f 2), .int (f 3), .int (f 4), .int (f 5), .int (f 6), .int (f 7), .int (f 8)])
  else if k < 30 then .inl (c.1, 40, .inl f)
  else if 53 ≤ k then .inl (c.1, 6, .inl f)
  else if 45 ≤ k then .inl (c.1, 7, .inl f)
  else if k = 30 then .inr (5, [.ref (ad 31), .ref (ad 32), .ref (ad 33), .ref (ad 34), .ref (ad 35), .int (f 5), .int (f 6), .ref (ad 12), .ref (ad 13), .ref (ad 36), .ref (ad 39), .ref (ad 14)])
  else if k = 31 then .inr (4, [.ref (ad 40), .ref (ad 41), .ref (ad 42), .ref (ad 43), .ref (ad 44), .int (f 5)])
  else if k = 32 then .inr (3, [.int (f 0), .int (f 1), .int (f 2), .int (f 3)])
  else if k = 33 then .inl (c.2.1, 12, .inr (.inr (.inr (.inr (fun j => some (ad j))))))
  else if k = 35 then .inl (c.2.2, 8, .inr (.inr (.inr (.inr (fun j => some (ad (45 + j)))))))
  else if k = 36 then .inr (2, [.ref (ad 37), .ref (ad 38), .int (f 2)])
  else if k = 39 then .inr (1, [.int (f 0), .int (f 1), .int (f 2), .int (f 3)])
  else if k = 40 then .inl (c.2.2, 6, .inr (.inr (.inr (.inr (fun j => some (ad (53 + j)))))))
  else .inl (c.1, 40, .inl f)
abbrev WC (g : dd_G) (ad : Nat → Nat) (sg : dd_S) : va_W := dd_wd 59 (cdC g.2 ad) ad sg
section
variable {c : ClassId × ClassId × ClassId} {ad : Nat → Nat} {f : Nat → Int32}
theorem cc_duty {d : Nat} (h : d < 15) : cdC c ad d f = .inr (0, [.ref (ad (15 + d)), .int (f 1), .int (f 2), .int (f 3), .int (f 4), .int (f 5), .int (f 6), .int (f 7), .int (f 8)]) := by simp [cdC, h]
theorem cc_trips {d : Nat} (h : d < 15) : cdC c ad (15 + d) f = .inl (c.1, 40, .inl f) := by
  have h1 : ¬ 15 + d < 15 := by omega
  have h2 : 15 + d < 30 := by omega
  simp [cdC, h1, h2]
theorem cc_30 : cdC c ad 30 f = .inr (5, [.ref (ad 31), .ref (ad 32), .ref (ad 33), .ref (ad 34), .ref (ad 35), .int (f 5), .int (f 6), .ref (ad 12), .ref (ad 13), .ref (ad 36), .ref (ad 39), .ref (ad 14)]) := rfl
theorem cc_31 : cdC c ad 31 f = .inr (4, [.ref (ad 40), .ref (ad 41), .ref (ad 42), .ref (ad 43), .ref (ad 44), .int (f 5)]) := rfl
theorem cc_32 : cdC c ad 32 f = .inr (3, [.int (f 0), .int (f 1), .int (f 2), .int (f 3)]) := rfl
theorem cc_33 : cdC c ad 33 f = .inl (c.2.1, 12, .inr (.inr (.inr (.inr (fun j => some (ad j)))))) := rfl
theorem cc_34 : cdC c ad 34 f = .inl (c.1, 40, .inl f) := rfl
theorem cc_35 : cdC c ad 35 f = .inl (c.2.2, 8, .inr (.inr (.inr (.inr (fun j => some (ad (45 + j))))))) := rfl
theorem cc_36 : cdC c ad 36 f = .inr (2, [.ref (ad 37), .ref (ad 38), .int (f 2)]) := rfl
theorem cc_37 : cdC c ad 37 f = .inl (c.1, 40, .inl f) := rfl
theorem cc_38 : cdC c ad 38 f = .inl (c.1, 40, .inl f) := rfl
theorem cc_39 : cdC c ad 39 f = .inr (1, [.int (f 0), .int (f 1), .int (f 2), .int (f 3)]) := rfl
theorem cc_40 : cdC c ad 40 f = .inl (c.2.2, 6, .inr (.inr (.inr (.inr (fun j => some (ad (53 + j))))))) := rfl
theorem cc_41 : cdC c ad 41 f = .inl (c.1, 40, .inl f) := rfl
theorem cc_42 : cdC c ad 42 f = .inl (c.1, 40, .inl f) := rfl
theorem cc_43 : cdC c ad 43 f = .inl (c.1, 40, .inl f) := rfl
theorem cc_44 : cdC c ad 44 f = .inl (c.1, 40, .inl f) := rfl
theorem cc_roster {i : Nat} (h : i < 8) : cdC c ad (45 + i) f = .inl (c.1, 7, .inl f) := by
  have h1 : ¬ 45 + i < 15 := by omega
  have h2 : ¬ 45 + i < 30 := by omega
  have h3 : ¬ 53 ≤ 45 + i := by omega
  have h4 : 45 ≤ 45 + i := by omega
  simp only [cdC, if_neg h1, if_neg h2, if_neg h3, if_pos h4]
theorem cc_ways {i : Nat} (h : i < 6) : cdC c ad (53 + i) f = .inl (c.1, 6, .inl f) := by
  have h1 : ¬ 53 + i < 15 := by omega
  have h2 : ¬ 53 + i < 30 := by omega
  have h3 : 53 ≤ 53 + i := by omega
  simp only [cdC, if_neg h1, if_neg h2, if_pos h3]
end
/-! the reference's cells: 0 the model, 1 ways, 2..5 froms, tos, departures, arrivals, 6 dutyOf, 7 given, 8 row -/
def cdM (c : ClassId × ClassId × ClassId) (ad : Nat → Nat) (k : Nat) (f : Nat → Int32) : va_E :=
  if k = 0 then .inr (6, [.int (f 0), .ref (ad 1), .int (f 2), .ref (ad 2), .ref (ad 3), .ref (ad 4), .ref (ad 5), .ref (ad 6), .int (f 8), .int (f 9), .ref (ad 7), .int (f 11), .int (f 12), .int (f 13), .int (f 14), .ref (ad 8), .int (f 16), .int (f 17), .int (f 18), .int (f 19), .int (f 20), .int (f 21), .int (f 22), .int (f 23), .int (f 24)])
  else if k = 1 then .inl (c.1, 36, .inl f)
  else if k = 7 then .inl (c.1, 56, .inl f)
  else .inl (c.1, 40, .inl f)
abbrev WM (g : dd_G) (ad : Nat → Nat) (sg : dd_S) : va_W := dd_wd 9 (cdM g.2 ad) ad sg
section
variable {c : ClassId × ClassId × ClassId} {ad : Nat → Nat} {f : Nat → Int32}
theorem cm_0 : cdM c ad 0 f = .inr (6, [.int (f 0), .ref (ad 1), .int (f 2), .ref (ad 2), .ref (ad 3), .ref (ad 4), .ref (ad 5), .ref (ad 6), .int (f 8), .int (f 9), .ref (ad 7), .int (f 11), .int (f 12), .int (f 13), .int (f 14), .ref (ad 8), .int (f 16), .int (f 17), .int (f 18), .int (f 19), .int (f 20), .int (f 21), .int (f 22), .int (f 23), .int (f 24)]) := rfl
theorem cm_1 : cdM c ad 1 f = .inl (c.1, 36, .inl f) := rfl
theorem cm_2 : cdM c ad 2 f = .inl (c.1, 40, .inl f) := rfl
theorem cm_3 : cdM c ad 3 f = .inl (c.1, 40, .inl f) := rfl
theorem cm_4 : cdM c ad 4 f = .inl (c.1, 40, .inl f) := rfl
theorem cm_5 : cdM c ad 5 f = .inl (c.1, 40, .inl f) := rfl
theorem cm_6 : cdM c ad 6 f = .inl (c.1, 40, .inl f) := rfl
theorem cm_7 : cdM c ad 7 f = .inl (c.1, 56, .inl f) := rfl
theorem cm_8 : cdM c ad 8 f = .inl (c.1, 40, .inl f) := rfl
end
/-! words -/
def lw_all : List Cond := lw_tbl.filter goodWord
theorem lw_in {w : Cond} (i : Nat) (h : lw_tbl[i]? = some w) (hg : goodWord w = true) : w ∈ lw_all := List.mem_filter.mpr ⟨List.mem_of_getElem? h, hg⟩
theorem lw_allGood : ∀ w ∈ lw_all, goodWord w = true := fun _ h => (List.mem_filter.mp h).2
abbrev lw_ws (y : MethodName) (c : ByteArray) (n : Nat) (r : Option FieldType) : List Cond := Cond.code y c n r :: lw_all
theorem lw_gi {y : MethodName} {c : ByteArray} {n : Nat} {r : Option FieldType} (h : Cond.code y c n r ∈ lw_all) : GoodIn lw_all (lw_ws y c n r) := fun w hw => by
  have hm : w ∈ lw_all := (List.mem_cons.mp hw).elim (fun e => e ▸ h) id
  exact ⟨hm, good_of_word (lw_allGood w hm)⟩
theorem lw_gV {own C : String} {i : Nat} {y : MethodName} {c : ByteArray} {n : Nat} {r : Option FieldType} (h1 : Cond.methodLink own i y ∈ lw_all) (h2 : Cond.instanceMethod y ∈ lw_all) (h3 : Cond.selects C y y ∈ lw_all) (h4 : Cond.initialized C ∈ lw_all) (h : Cond.code y c n r ∈ lw_all) : GoodIn lw_all (wsV own i C y (lw_ws y c n r)) := by
  intro w hw
  rcases List.mem_append.mp hw with h9 | h9
  · have hm : w ∈ lw_all := by
      rcases List.mem_cons.mp h9 with e | h9
      · exact e ▸ h1
      rcases List.mem_cons.mp h9 with e | h9
      · exact e ▸ h2
      rcases List.mem_cons.mp h9 with e | h9
      · exact e ▸ h3
      rcases List.mem_cons.mp h9 with e | h9
      · exact e ▸ h4
      · cases h9
    exact ⟨hm, good_of_word (lw_allGood w hm)⟩
  · exact lw_gi h w h9
theorem lw_gS {own : String} {i : Nat} {y : MethodName} {c : ByteArray} {n : Nat} {r : Option FieldType} (h1 : Cond.methodLink own i y ∈ lw_all) (h2 : Cond.static y ∈ lw_all) (h4 : Cond.initialized own ∈ lw_all) (h : Cond.code y c n r ∈ lw_all) : GoodIn lw_all (wsS own i y (lw_ws y c n r)) := by
  intro w hw
  rcases List.mem_append.mp hw with h9 | h9
  · have hm : w ∈ lw_all := by
      rcases List.mem_cons.mp h9 with e | h9
      · exact e ▸ h1
      rcases List.mem_cons.mp h9 with e | h9
      · exact e ▸ h2
      rcases List.mem_cons.mp h9 with e | h9
      · exact e ▸ h4
      · cases h9
    exact ⟨hm, good_of_word (lw_allGood w hm)⟩
  · exact lw_gi h w h9
/-- the words of nest mates: they aren't 'good', so they go with the world's facts -/
def nw_is : Cond → Bool
  | .fieldLinkNest .. => true
  | .methodLinkNest .. => true
  | .castable .. => true
  | .declares _ => true
  | _ => false
def lw_nest : List Cond := tables_1.filter nw_is
theorem nw_in {w : Cond} (i : Nat) (h : tables_1[i]? = some w) (hg : nw_is w = true) : w ∈ lw_nest := List.mem_filter.mpr ⟨List.mem_of_getElem? h, hg⟩
theorem nw_warm {w : Cond} (hw : nw_is w = true) {s U : State} (hW : s.WarmedH U.vm) (h : va_Nw w s) : va_Nw w U := by
  cases w <;> first | (simp [nw_is] at hw; done) | exact va_Nw.warmF hW h | exact va_Nw.warmM hW h | exact va_Nw.warmC hW h | exact va_Nw.warmD hW h
theorem nw_same {w : Cond} (hw : nw_is w = true) {s U : State} (hv : s.vm = U.vm) (h : va_Nw w s) : va_Nw w U := by
  cases w <;> first | (simp [nw_is] at hw; done) | exact va_Nw.same rfl hv h
abbrev dd_tys (c : ClassId × ClassId × ClassId) : List (ClassId × FieldType) := [(c.1, .int), (c.2.1, .object RX0), (c.2.2, .array .int)]
def KC (g : dd_G) (U : State) : Prop := va_K g.1 vwCl (dd_tys g.2) U ∧ ∀ w ∈ lw_nest, va_Nw w U
theorem KC.warm {g : dd_G} {s U : State} (hW : s.WarmedH U.vm) (h : KC g s) : KC g U := ⟨va_K.moved hW.alike h.1, fun w hw => nw_warm (List.mem_filter.mp hw).2 hW (h.2 w hw)⟩
theorem KC.same {g : dd_G} {s U : State} (hv : s.vm = U.vm) (h : KC g s) : KC g U := ⟨va_K.moved (by rw [hv]; exact Vm.Alike.refl _) h.1, fun w hw => nw_same (List.mem_filter.mp hw).2 hv (h.2 w hw)⟩
/-- a method's start over a world -/
def PreW (g : dd_G) (ws : va_W) (sz : Nat) (U : State) : Prop := U.heap.size = sz ∧ va_P g.1 vwCl ws U.heap ∧ KC g U ∧ va_D (fun _ => True) ws
theorem PreW.blind {g : dd_G} {ws : va_W} {sz : Nat} {av : List Value} : FrameBlind (va_Pc av (PreW g ws sz)) := fun a U fr mk h => ⟨h.1, h.2.1, h.2.2.1, KC.same (s := U) (U := U.calling fr mk a) rfl h.2.2.2.1, h.2.2.2.2⟩
theorem preW_of {g : dd_G} {ws : va_W} {s U : State} {H : Heap} {A : Nat → Prop} (hK : KC g s) (hP : va_P g.1 vwCl ws H) (hD : va_D A ws) (hU : U.heap = H) (hW : s.WarmedH U.vm) : PreW g ws H.size U := ⟨by rw [hU], by rw [hU]; exact hP, hK.warm hW, hD.weaken fun _ _ _ _ => trivial⟩
theorem preS_of {g : dd_G} {ws : va_W} {s : State} {H : Heap} {A : Nat → Prop} {As : List Value} (hK : KC g s) (hP : va_P g.1 vwCl ws H) (hD : va_D A ws) : PreS s H (va_Pc As (PreW g ws H.size)) As := ⟨PreW.blind, fun U hU hW => ⟨rfl, preW_of hK hP hD hU hW⟩⟩
theorem preV_of {g : dd_G} {ws : va_W} {s : State} {H : Heap} {A : Nat → Prop} {a k ci : Nat} {q : vw_C} {fs : List Value} {As : List Value} (hK : KC g s) (hP : va_P g.1 vwCl ws H) (hD : va_D A ws) (he : ws[k]? = some (a, .inr (ci, fs))) (hc : vwCl[ci]? = some q) : PreV s H q.1 a (va_Pc (.ref a :: As) (PreW g ws H.size)) As := ⟨PreW.blind, va_recv hK.1 hP hc he, fun U hU hW => ⟨rfl, preW_of hK hP hD hU hW⟩⟩
/-! ends: the answer, the world behind -/
abbrev QI (g : dd_G) (ws : va_W) (A : Nat → Prop) (r0 : Int32) : Array Value → State → Outcome → State → Prop := va_Qi (fun (r : Int32) (_ : Unit) => r = r0) (fun _ t => va_P g.1 vwCl ws t.heap) A
abbrev QL (g : dd_G) (ws : va_W) (A : Nat → Prop) (r0 : Int64) : Array Value → State → Outcome → State → Prop := va_Ql (fun (r : Int64) (_ : Unit) => r = r0) (fun _ t => va_P g.1 vwCl ws t.heap) A
abbrev QV (g : dd_G) (ws : va_W) (A : Nat → Prop) : Array Value → State → Outcome → State → Prop := va_Qv (fun (_ : Unit) => True) (fun _ t => va_P g.1 vwCl ws t.heap) A
abbrev QR (g : dd_G) (ws : va_W) (A : Nat → Prop) (a0 : Nat) : Array Value → State → Outcome → State → Prop := va_Qr (fun (_ : Unit) => True) (fun _ a t => a = a0 ∧ va_P g.1 vwCl ws t.heap) A
section
variable {p : Program} {l : Launch} {e : Env} {R : Room} {s : State} {m : MethodId} {args : Array Value} {below : List Frame} {meth : Method} {c : Code} {H : Heap} {locs : List Loc} {cells slots mc ms : Nat} {Q : State → Prop}
variable {cc : ByteArray} {pc : Nat} {ls : Array Slot} {rest st0 : List Value} {a : Array Value} {g : dd_G} {ad : Nat → Nat} {sg : dd_S} {ws w1 : va_W} {A0 A1 : Nat → Prop} {H0 : Heap} {free : Addr → Prop}
theorem cl_i {r0 : Int32} (hr : va_Run p l e R s m args below meth c H locs cells slots mc ms (F0 m pc ls st0) rest (QI g w1 A1 r0 a) free) (hS : va_S A0 H0 H locs) (hA : ∀ q, A1 q → A0 q) (hf : ∀ q, free q → A0 q)
    (kk : ∀ (H1 : Heap) (locs1 : List Loc), va_P g.1 vwCl w1 H1 → va_S A0 H0 H1 locs1 → W p l e R s m args below meth c H1 locs1 (cells + mc) (slots + ms) Q (F0 m (pc + 3) ls (.int r0 :: rest))) : W p l e R s m args below meth c H locs cells slots Q (F0 m pc ls st0) :=
  va_calli hr hS (fun q _ h => hA q h) hf fun r u t H1 locs1 ht hvm hw hB hz hk hS1 => by
    subst hw
    rw [ht] at hB
    exact kk H1 locs1 hB hS1
theorem cl_l {r0 : Int64} (hr : va_Run p l e R s m args below meth c H locs cells slots mc ms (F0 m pc ls st0) rest (QL g w1 A1 r0 a) free) (hS : va_S A0 H0 H locs) (hA : ∀ q, A1 q → A0 q) (hf : ∀ q, free q → A0 q)
    (kk : ∀ (H1 : Heap) (locs1 : List Loc), va_P g.1 vwCl w1 H1 → va_S A0 H0 H1 locs1 → W p l e R s m args below meth c H1 locs1 (cells + mc) (slots + ms) Q (F0 m (pc + 3) ls (.long r0 :: rest))) : W p l e R s m args below meth c H locs cells slots Q (F0 m pc ls st0) :=
  va_calll hr hS (fun q _ h => hA q h) hf fun r u t H1 locs1 ht hvm hw hB hz hk hS1 => by
    subst hw
    rw [ht] at hB
    exact kk H1 locs1 hB hS1
theorem cl_v (hr : va_Run p l e R s m args below meth c H locs cells slots mc ms (F0 m pc ls st0) rest (QV g w1 A1 a) free) (hS : va_S A0 H0 H locs) (hA : ∀ q, A1 q → A0 q) (hf : ∀ q, free q → A0 q)
    (kk : ∀ (H1 : Heap) (locs1 : List Loc), va_P g.1 vwCl w1 H1 → va_S A0 H0 H1 locs1 → W p l e R s m args below meth c H1 locs1 (cells + mc) (slots + ms) Q (F0 m (pc + 3) ls rest)) : W p l e R s m args below meth c H locs cells slots Q (F0 m pc ls st0) :=
  va_callv hr hS (fun q _ h => hA q h) hf fun u t H1 locs1 ht hvm hw hB hz hk hS1 => by
    rw [ht] at hB
    exact kk H1 locs1 hB hS1
theorem cl_r {a0 : Nat} (hr : va_Run p l e R s m args below meth c H locs cells slots mc ms (F0 m pc ls st0) rest (QR g w1 A1 a0 a) free) (hS : va_S A0 H0 H locs) (hA : ∀ q, A1 q → A0 q) (hf : ∀ q, free q → A0 q)
    (kk : ∀ (H1 : Heap) (locs1 : List Loc), va_P g.1 vwCl w1 H1 → va_S A0 H0 H1 locs1 → W p l e R s m args below meth c H1 locs1 (cells + mc) (slots + ms) Q (F0 m (pc + 3) ls (.ref a0 :: rest))) : W p l e R s m args below meth c H locs cells slots Q (F0 m pc ls st0) :=
  va_callr hr hS (fun q _ h => hA q h) hf fun u ra t H1 locs1 ht hvm hw hB hz hk hS1 => by
    obtain ⟨e1, hB⟩ := hB
    subst e1
    rw [ht] at hB
    exact kk H1 locs1 hB hS1
/-- an int array's place is read, written -/
theorem W_iald {n N : Nat} {cd : Nat → (Nat → Int32) → va_E} {X : va_W} (hexec : p.tables.exec = Jvm.exec) (hb : c.code = cc) (hK : KC g s) (hP : va_P g.1 vwCl (dd_wd n cd ad sg ++ X) H) (k : Nat) (hk : k < n) (he : cd k (sg k) = .inl (g.2.1, N, .inl (sg k))) {i : Int32} (hin : vp_in i N) (hdg : decode cc pc = .ok (.iaload, 1))
    (kk : W p l e R s m args below meth c H locs cells slots Q (F0 m (pc + 1) ls (.int (sg k i.toNatClampNeg) :: rest))) : W p l e R s m args below meth c H locs cells slots Q (F0 m pc ls (.int i :: .ref (ad k) :: rest)) :=
  va_iald hexec hb hK.1 hP k 0 (dd_at hk he) rfl hin hdg kk
theorem W_iast {n N : Nat} {cd : Nat → (Nat → Int32) → va_E} {X : va_W} (hexec : p.tables.exec = Jvm.exec) (hb : c.code = cc) (hK : KC g s) (hP : va_P g.1 vwCl (dd_wd n cd ad sg ++ X) H) (hD : ∀ s2 : dd_S, va_D A0 (dd_wd n cd ad s2 ++ X)) (hS : va_S A0 H0 H locs) (k : Nat) (hk : k < n) (he : ∀ f : Nat → Int32, cd k f = .inl (g.2.1, N, .inl f)) {i x : Int32} (hin : vp_in i N) (hdg : decode cc pc = .ok (.iastore, 1))
    (kk : ∀ (H1 : Heap) (locs1 : List Loc), va_P g.1 vwCl (dd_wd n cd ad (st2 sg k i.toNatClampNeg x) ++ X) H1 → va_S A0 H0 H1 locs1 → W p l e R s m args below meth c H1 locs1 cells slots Q (F0 m (pc + 1) ls rest)) : W p l e R s m args below meth c H locs cells slots Q (F0 m pc ls (.int x :: .int i :: .ref (ad k) :: rest)) :=
  va_iast hexec hb hK.1 hP (hD sg) hS k 0 (dd_at hk (he _)) rfl hin hdg fun H1 locs1 hP1 _ hS1 => by
    rw [dd_set hk (he _)] at hP1
    exact kk H1 locs1 hP1 hS1
theorem W_aald {n N : Nat} {cA : ClassId} {ty : FieldType} {cd : Nat → (Nat → Int32) → va_E} {X : va_W} {b : Nat → Nat} (hexec : p.tables.exec = Jvm.exec) (hb : c.code = cc) (hK : KC g s) (hP : va_P g.1 vwCl (dd_wd n cd ad sg ++ X) H) (k : Nat) (hk : k < n) (he : cd k (sg k) = .inl (cA, N, .inr (.inr (.inr (.inr (fun j => some (ad (b j)))))))) (t : Nat) (ht : (dd_tys g.2)[t]? = some (cA, ty)) (hrf : ty.isReference = true) {i : Int32} (hin : vp_in i N) (hdg : decode cc pc = .ok (.aaload, 1))
    (kk : W p l e R s m args below meth c H locs cells slots Q (F0 m (pc + 1) ls (.ref (ad (b i.toNatClampNeg)) :: rest))) : W p l e R s m args below meth c H locs cells slots Q (F0 m pc ls (.int i :: .ref (ad k) :: rest)) := by
  have hlt : i.toNatClampNeg < N := Nat.not_le.mp fun q => hin (Or.inr q)
  exact W.aald (v := va_rf (some (ad (b i.toNatClampNeg)))) (ty := ty) hexec hb (hP k _ (dd_at hk he)) ((hK.1.2 t _ ht).1 N (fun j => va_rf (some (ad (b j))))) hrf (fun q => by cases q) (by show ¬ (i < 0 ∨ (arrV _ _ _).slots.size ≤ _); rw [arrV_size]; exact hin) (by show (arrV _ _ _).slots[_]? = _; rw [arrV_read _ _ hlt]) rfl rfl hdg kk
theorem W_alen {n N : Nat} {cA : ClassId} {ty : FieldType} {cd : Nat → (Nat → Int32) → va_E} {X : va_W} {x} (hexec : p.tables.exec = Jvm.exec) (hb : c.code = cc) (hK : KC g s) (hP : va_P g.1 vwCl (dd_wd n cd ad sg ++ X) H) (k : Nat) (hk : k < n) (he : cd k (sg k) = .inl (cA, N, x)) (t : Nat) (ht : (dd_tys g.2)[t]? = some (cA, ty)) {v : Int32} (hv : Int32.ofNat N = v) (hdg : decode cc pc = .ok (.arraylength, 1))
    (kk : W p l e R s m args below meth c H locs cells slots Q (F0 m (pc + 1) ls (.int v :: rest))) : W p l e R s m args below meth c H locs cells slots Q (F0 m pc ls (.ref (ad k) :: rest)) :=
  va_alen hexec hb hK.1 hP k t (dd_at hk he) ht hv hdg kk
theorem W_get {n : Nat} {cd : Nat → (Nat → Int32) → va_E} {X : va_W} {own ref C : String} {T : u_T} {N ci index : Nat} (hexec : p.tables.exec = Jvm.exec) (hb : c.code = cc) (hts : ∀ w ∈ lw_all, w.before args s = true) (hin : ∀ w ∈ u_ws C T N, w ∈ lw_all) (hown : s.vm.findClass own = some m.cls) (hK : KC g s) (hP : va_P g.1 vwCl (dd_wd n cd ad sg ++ X) H) (k : Nat) (hk : k < n) {fs : List Value} (he : cd k (sg k) = .inr (ci, fs)) (hc : vwCl[ci]? = some (C, T, N)) (j : Nat) (hj : j < N) (hlink : Cond.fieldLink own index ref (T j).2.1 (T j).2.2.1 ∈ lw_all) (href : (T j).1 = ref) {v : Value} (hv : fs[j]? = some v) (hdg : decode cc pc = .ok (.getfield index, 3))
    (kk : W p l e R s m args below meth c H locs cells slots Q (F0 m (pc + 3) ls (v :: rest))) : W p l e R s m args below meth c H locs cells slots Q (F0 m pc ls (.ref (ad k) :: rest)) :=
  va_get hexec hb hts hin hown hK.1 hP k (dd_at hk he) hc j hj (hts _ hlink) (fun x h => href ▸ h) hv hdg kk
theorem W_getN {n : Nat} {cd : Nat → (Nat → Int32) → va_E} {X : va_W} {own ref C host : String} {T : u_T} {N ci index : Nat} (hexec : p.tables.exec = Jvm.exec) (hb : c.code = cc) (hts : ∀ w ∈ lw_all, w.before args s = true) (hin : ∀ w ∈ u_ws C T N, w ∈ lw_all) (hown : s.vm.findClass own = some m.cls) (hK : KC g s) (hP : va_P g.1 vwCl (dd_wd n cd ad sg ++ X) H) (k : Nat) (hk : k < n) {fs : List Value} (he : cd k (sg k) = .inr (ci, fs)) (hc : vwCl[ci]? = some (C, T, N)) (j : Nat) (hj : j < N) (hlink : Cond.fieldLinkNest own index ref (T j).2.1 (T j).2.2.1 host ∈ lw_nest) (href : (T j).1 = ref) {v : Value} (hv : fs[j]? = some v) (hdg : decode cc pc = .ok (.getfield index, 3))
    (kk : W p l e R s m args below meth c H locs cells slots Q (F0 m (pc + 3) ls (v :: rest))) : W p l e R s m args below meth c H locs cells slots Q (F0 m pc ls (.ref (ad k) :: rest)) :=
  va_getN hexec hb hts hin hown hK.1 hP k (dd_at hk he) hc j hj (va_Nw.use rfl (hK.2 _ hlink)) (fun x h => href ▸ h) hv hdg kk
theorem W_put {n : Nat} {cd : Nat → (Nat → Int32) → va_E} {X : va_W} {own ref C : String} {T : u_T} {N ci index : Nat} (hexec : p.tables.exec = Jvm.exec) (hb : c.code = cc) (hts : ∀ w ∈ lw_all, w.before args s = true) (hin : ∀ w ∈ u_ws C T N, w ∈ lw_all) (ty0 : Nat → FieldType) (hty : ∀ k, k < N → parseFieldDescriptor (T k).2.2.1 = some (ty0 k)) (hnm : ∀ a, a < N → ∀ b, b < N → a ≠ b → (T a).2.1 ≠ (T b).2.1) (hown : s.vm.findClass own = some m.cls) (hK : KC g s) (hP : va_P g.1 vwCl (dd_wd n cd ad sg ++ X) H) (hD : ∀ s2 : dd_S, va_D A0 (dd_wd n cd ad s2 ++ X)) (hS : va_S A0 H0 H locs) (k : Nat) (hk : k < n) {fs : List Value} (he : cd k (sg k) = .inr (ci, fs)) (hc : vwCl[ci]? = some (C, T, N)) (j : Nat) (hj : j < N) (hlink : Cond.fieldLink own index ref (T j).2.1 (T j).2.2.1 ∈ lw_all) (href : (T j).1 = ref) (hfin : (T j).2.2.2 = false) {ty : FieldType} {x : Int32} (hd : parseFieldDescriptor (T j).2.2.1 = some ty) (hn : narrow ty (.int x) = .int x) (hfit : fits ty (.int x) = true) (hl : j < fs.length) (he2 : cd k (upd (sg k) j x) = .inr (ci, fs.set j (.int x))) (hdg : decode cc pc = .ok (.putfield index, 3))
    (kk : ∀ (H1 : Heap) (locs1 : List Loc), va_P g.1 vwCl (dd_wd n cd ad (st2 sg k j x) ++ X) H1 → va_S A0 H0 H1 locs1 → W p l e R s m args below meth c H1 locs1 cells slots Q (F0 m (pc + 3) ls rest)) : W p l e R s m args below meth c H locs cells slots Q (F0 m pc ls (.int x :: .ref (ad k) :: rest)) :=
  va_put hexec hb hts hin ty0 hty hnm hown hK.1 hP (hD sg) hS k (dd_at hk he) hc j hj (hts _ hlink) (fun x h => href ▸ h) hfin hd hn hfit hl hdg fun H1 locs1 hP1 _ hS1 => by
    rw [dd_set hk he2] at hP1
    exact kk H1 locs1 hP1 hS1
theorem W_putN {n : Nat} {cd : Nat → (Nat → Int32) → va_E} {X : va_W} {own ref C host : String} {T : u_T} {N ci index : Nat} (hexec : p.tables.exec = Jvm.exec) (hb : c.code = cc) (hts : ∀ w ∈ lw_all, w.before args s = true) (hin : ∀ w ∈ u_ws C T N, w ∈ lw_all) (ty0 : Nat → FieldType) (hty : ∀ k, k < N → parseFieldDescriptor (T k).2.2.1 = some (ty0 k)) (hnm : ∀ a, a < N → ∀ b, b < N → a ≠ b → (T a).2.1 ≠ (T b).2.1) (hown : s.vm.findClass own = some m.cls) (hK : KC g s) (hP : va_P g.1 vwCl (dd_wd n cd ad sg ++ X) H) (hD : ∀ s2 : dd_S, va_D A0 (dd_wd n cd ad s2 ++ X)) (hS : va_S A0 H0 H locs) (k : Nat) (hk : k < n) {fs : List Value} (he : cd k (sg k) = .inr (ci, fs)) (hc : vwCl[ci]? = some (C, T, N)) (j : Nat) (hj : j < N) (hlink : Cond.fieldLinkNest own index ref (T j).2.1 (T j).2.2.1 host ∈ lw_nest) (href : (T j).1 = ref) (hfin : (T j).2.2.2 = false) {ty : FieldType} {x : Int32} (hd : parseFieldDescriptor (T j).2.2.1 = some ty) (hn : narrow ty (.int x) = .int x) (hfit : fits ty (.int x) = true) (hl : j < fs.length) (he2 : cd k (upd (sg k) j x) = .inr (ci, fs.set j (.int x))) (hdg : decode cc pc = .ok (.putfield index, 3))
    (kk : ∀ (H1 : Heap) (locs1 : List Loc), va_P g.1 vwCl (dd_wd n cd ad (st2 sg k j x) ++ X) H1 → va_S A0 H0 H1 locs1 → W p l e R s m args below meth c H1 locs1 cells slots Q (F0 m (pc + 3) ls rest)) : W p l e R s m args below meth c H locs cells slots Q (F0 m pc ls (.int x :: .ref (ad k) :: rest)) :=
  va_putN hexec hb hts hin ty0 hty hnm hown hK.1 hP (hD sg) hS k (dd_at hk he) hc j hj (va_Nw.use rfl (hK.2 _ hlink)) (fun x h => href ▸ h) hfin hd hn hfit hl hdg fun H1 locs1 hP1 _ hS1 => by
    rw [dd_set hk he2] at hP1
    exact kk H1 locs1 hP1 hS1
end
/-! the pure side: what a method's code computes, as a partial function; the parts that it is made of -/
def gd {α : Type} (b : Bool) (x : Option α) : Option α := if b = true then x else none
def bd {α β : Type} (x : Option α) (f : α → Option β) : Option β := x.bind f
def bd2 {α β γ : Type} (x : Option (α × β)) (f : α → β → Option γ) : Option γ := x.bind fun q => f q.1 q.2
def lt {α β : Type} (x : α) (f : α → β) : β := f x
def ix (i : Int32) (n : Nat) : Bool := decide (¬ (i < 0 ∨ n ≤ i.toNatClampNeg))
def bz (x : Int32) : Bool := decide (x = 0 ∨ x = 1)
theorem gd_so {α : Type} {b : Bool} {x : Option α} {y : α} (h : gd b x = some y) : b = true ∧ x = some y := by
  unfold gd at h
  split at h
  · exact ⟨by assumption, h⟩
  · cases h
theorem bd_so {α β : Type} {x : Option α} {f : α → Option β} {y : β} (h : bd x f = some y) : ∃ a, x = some a ∧ f a = some y := by
  cases x with
  | none => cases h
  | some a => exact ⟨a, rfl, h⟩
theorem bd2_so {α β γ : Type} {x : Option (α × β)} {f : α → β → Option γ} {y : γ} (h : bd2 x f = some y) : ∃ a b, x = some (a, b) ∧ f a b = some y := by
  cases x with
  | none => cases h
  | some a => exact ⟨a.1, a.2, rfl, h⟩
theorem lt_so {α β : Type} {x z : α} {f : α → β} {y : β} (e : z = x) (h : lt x f = y) : f z = y := by subst e; exact h
theorem lt_ex {α β : Type} {x : α} {f : α → β} {y : β} (h : lt x f = y) : ∃ z, z = x ∧ f z = y := ⟨x, rfl, h⟩
theorem if_t {α : Type} {c : Prop} [Decidable c] {a b y : α} (h : c) (hf : (if c then a else b) = y) : a = y := by rw [if_pos h] at hf; exact hf
theorem if_f {α : Type} {c : Prop} [Decidable c] {a b y : α} (h : ¬ c) (hf : (if c then a else b) = y) : b = y := by rw [if_neg h] at hf; exact hf
theorem ix_in {i : Int32} {n : Nat} (h : ix i n = true) : vp_in i n := by
  unfold ix at h
  unfold vp_in
  exact of_decide_eq_true h
theorem ix_lt {i : Int32} {n m : Nat} (h : ix i n = true) (hm : n ≤ m) : i.toNatClampNeg < m := by
  have h1 := ix_in h
  unfold vp_in at h1
  omega
theorem bz_z {x : Int32} (h : bz x = true) : narrow .boolean (.int x) = .int x := by
  rcases of_decide_eq_true h with e | e <;> rw [e] <;> rfl
theorem bz_f {x : Int32} (h : bz x = true) : fits .boolean (.int x) = true := by
  rcases of_decide_eq_true h with e | e <;> rw [e] <;> rfl
theorem so1 {α : Type} {a b : α} (h : some a = some b) : a = b := Option.some.inj h
theorem so2 {α β : Type} {a c : α} {b d : β} (h : some (a, b) = some (c, d)) : a = c ∧ b = d := by cases h; exact ⟨rfl, rfl⟩
theorem nth_lt15 {i : Nat} (h : i < 12) : i < 15 := by omega
theorem P_at {D : va_G} {cl : List vw_C} {ws : va_W} {H : Heap} {t : State} (ht : t.heap = H) (hP : va_P D cl ws H) : va_P D cl ws t.heap := by rw [ht]; exact hP
theorem P_at2 {D : va_G} {cl : List vw_C} {n : Nat} {cd : Nat → (Nat → Int32) → va_E} {ad : Nat → Nat} {X : va_W} {s1 s2 : dd_S} {H : Heap} {t : State} (e : s1 = s2) (ht : t.heap = H) (hP : va_P D cl (dd_wd n cd ad s1 ++ X) H) : va_P D cl (dd_wd n cd ad s2 ++ X) t.heap := by subst e; rw [ht]; exact hP
theorem dd_out {x : Int32} {lo hi : Int} (h : ∀ k : Int, lo ≤ k → k ≤ hi → ¬ x.toInt = k) : x.toInt < lo ∨ hi < x.toInt := by
  rcases Int.lt_or_le x.toInt lo with h1 | h1
  · exact Or.inl h1
  · rcases Int.lt_or_le hi x.toInt with h2 | h2
    · exact Or.inr h2
    · exact absurd rfl (h _ h1 h2)
