/-! THE PURE PART: what the two programs' pure functions say of each other. First: places, small numbers, the combinators -/
theorem st2_at (sg : dd_S) (k j : Nat) (v : Int32) (k2 j2 : Nat) : st2 sg k j v k2 j2 = if k2 = k then (if j2 = j then v else sg k j2) else sg k2 j2 := by
  unfold st2 dd_up upd
  by_cases h : k2 = k <;> simp [h]
theorem st2_s (sg : dd_S) (k j : Nat) (v : Int32) : st2 sg k j v k j = v := by simp [st2_at]
theorem st2_j (sg : dd_S) (k j : Nat) (v : Int32) {j2 : Nat} (h : j2 ≠ j) : st2 sg k j v k j2 = sg k j2 := by simp [st2_at, h]
theorem st2_k (sg : dd_S) (k j : Nat) (v : Int32) {k2 : Nat} (h : k2 ≠ k) : st2 sg k j v k2 = sg k2 := by unfold st2 dd_up; simp [h]
theorem gd_t {α : Type} (x : Option α) : gd true x = x := rfl
theorem gd_p {α : Type} {b : Bool} (h : b = true) (x : Option α) : gd b x = x := by subst h; rfl
theorem bd_s {α β : Type} (a : α) (f : α → Option β) : bd (some a) f = f a := rfl
theorem bd2_s {α β γ : Type} (a : α) (b : β) (f : α → β → Option γ) : bd2 (some (a, b)) f = f a b := rfl
theorem lt_e {α β : Type} (x : α) (f : α → β) : lt x f = f x := rfl
theorem ix_ok {t N : Nat} (h : t < N) (hN : N < 2 ^ 31) : ix (nI t) N = true := by
  unfold ix
  exact decide_eq_true (nI_in h hN)
theorem bz_0 : bz 0 = true := by decide
theorem bz_1 : bz 1 = true := by decide
theorem nI_inj {a b : Nat} (ha : a < 2 ^ 31) (hb : b < 2 ^ 31) (h : nI a = nI b) : a = b := by
  have := congrArg Int32.toNatClampNeg h
  rwa [nI_clamp ha, nI_clamp hb] at this
theorem nI_m1 {n : Nat} (h : n < 2 ^ 31) : nI n ≠ -1 := fun e => by
  have := congrArg Int32.toInt e
  rw [nI_toInt h] at this
  have e2 : (-1 : Int32).toInt = -1 := by decide
  omega
theorem nI_le_iff {a b : Nat} (ha : a < 2 ^ 31) (hb : b < 2 ^ 31) : nI a ≤ nI b ↔ a ≤ b := by
  rw [Int32.le_iff_toInt_le, nI_toInt ha, nI_toInt hb]; omega
theorem nI_lt_iff {a b : Nat} (ha : a < 2 ^ 31) (hb : b < 2 ^ 31) : nI a < nI b ↔ a < b := by
  rw [Int32.lt_iff_toInt_lt, nI_toInt ha, nI_toInt hb]; omega
theorem nI_eq_iff {a b : Nat} (ha : a < 2 ^ 31) (hb : b < 2 ^ 31) : nI a = nI b ↔ a = b := ⟨nI_inj ha hb, fun h => by rw [h]⟩
theorem nI_sub1 {a : Nat} (h : 0 < a) : nI a - 1 = nI (a - 1) := by
  obtain ⟨b, rfl⟩ : ∃ b, a = b + 1 := ⟨a - 1, by omega⟩
  exact nI_pred b
theorem nI_dec {a : Nat} (h : 0 < a) : nI a + (-1 : Int32) = nI (a - 1) := by
  rw [← nI_sub1 h]
  have : ∀ x : Int32, x + (-1) = x - 1 := fun x => by rw [Int32.sub_eq_add_neg]
  exact this _
theorem nI_inc (a : Nat) : nI a + 1 = nI (a + 1) := nI_1 a
/-- every small number that isn't negative is of that form -/
theorem pu_of {x : Int32} (h : 0 ≤ x) : ∃ n, n < 2 ^ 31 ∧ x = nI n := by
  refine ⟨x.toInt.toNat, ?_, ?_⟩
  · have := x.toInt_lt
    have := Int32.le_iff_toInt_le.mp h
    simp at this
    omega
  · apply Int32.toInt_inj.mp
    have h1 := x.toInt_lt
    have h2 := Int32.le_iff_toInt_le.mp h
    simp at h2
    rw [nI_toInt (by omega)]
    omega
/-- a number below a bound -/
theorem nI_upto {x : Int32} {n : Nat} (h : ¬ x < 0) (h2 : x < nI n) (hn : n < 2 ^ 31) : ∃ m, m < n ∧ x = nI m := by
  obtain ⟨m, hm, rfl⟩ := pu_of (x := x) (Int32.not_lt.mp h)
  exact ⟨m, (nI_lt_iff hm hn).mp h2, rfl⟩
/-! the timetable -/
theorem dep_ev {sg : dd_S} {t : Nat} (h : t < 40) : f_X4_departureOf sg (nI t) = some (sg 43 t) := by
  unfold f_X4_departureOf
  rw [if_neg (nI_pos (by omega)), if_neg (show ¬ (40 : Int32) ≤ _ from nI_ge (b := 40) h (by decide)), gd_p (ix_ok h (by decide)), nI_clamp (by omega)]; rfl
theorem arr_ev {sg : dd_S} {t : Nat} (h : t < 40) : f_X4_arrivalOf sg (nI t) = some (sg 44 t) := by
  unfold f_X4_arrivalOf
  rw [if_neg (nI_pos (by omega)), if_neg (show ¬ (40 : Int32) ≤ _ from nI_ge (b := 40) h (by decide)), gd_p (ix_ok h (by decide)), nI_clamp (by omega)]; rfl
theorem fro_ev {sg : dd_S} {t : Nat} (h : t < 40) : f_X4_fromOf sg (nI t) = some (sg 41 t) := by
  unfold f_X4_fromOf
  rw [if_neg (nI_pos (by omega)), if_neg (show ¬ (40 : Int32) ≤ _ from nI_ge (b := 40) h (by decide)), gd_p (ix_ok h (by decide)), nI_clamp (by omega)]; rfl
theorem to_ev {sg : dd_S} {t : Nat} (h : t < 40) : f_X4_toOf sg (nI t) = some (sg 42 t) := by
  unfold f_X4_toOf
  rw [if_neg (nI_pos (by omega)), if_neg (show ¬ (40 : Int32) ≤ _ from nI_ge (b := 40) h (by decide)), gd_p (ix_ok h (by decide)), nI_clamp (by omega)]; rfl
theorem min_ev {sg : dd_S} {t : Nat} (h : t < 40) : f_X4_minutesOf sg (nI t) = some (sg 44 t - sg 43 t) := by
  unfold f_X4_minutesOf
  rw [if_neg (nI_pos (by omega)), if_neg (show ¬ (40 : Int32) ≤ _ from nI_ge (b := 40) h (by decide)), if_neg (show ¬ (40 : Int32) ≤ _ from nI_ge (b := 40) h (by decide)), gd_p (ix_ok h (by decide)), gd_p (ix_ok h (by decide)), nI_clamp (by omega)]; rfl
def wy (sg : dd_S) (a b : Int32) : Int32 := sg (53 + a.toNatClampNeg) b.toNatClampNeg
theorem way_ev {sg : dd_S} {a b : Nat} (ha : a < 6) (hb : b < 6) : f_X4_wayFrom sg (nI a) (nI b) = some (wy sg (nI a) (nI b)) := by
  unfold f_X4_wayFrom wy
  rw [if_neg (nI_pos (by omega)), if_neg (show ¬ (6 : Int32) ≤ _ from nI_ge (b := 6) ha (by decide)), if_neg (nI_pos (by omega)), if_neg (show ¬ (6 : Int32) ≤ _ from nI_ge (b := 6) hb (by decide)), gd_p (ix_ok ha (by decide)), gd_p (ix_ok hb (by decide))]; rfl
theorem tin_ev {sg : dd_S} {d i : Nat} (h : i < 40) : f_X0_tripIn sg d (nI i) = some (sg (15 + d) i) := by
  unfold f_X0_tripIn
  rw [if_neg (nI_pos (by omega)), if_neg (show ¬ (40 : Int32) ≤ _ from nI_ge (b := 40) h (by decide)), gd_p (ix_ok h (by decide)), nI_clamp (by omega)]; rfl
/-! a duty's row: its size, its trips -/
def RowAt (f : Nat → Int32) (l : List Nat) : Prop := ∀ (i : Nat) (h : i < l.length), f i = nI l[i]
def DutyAt (sg : dd_S) (d : Nat) (l : List Nat) : Prop := sg d 1 = nI l.length ∧ RowAt (sg (15 + d)) l
theorem app_ev {sg : dd_S} {d n : Nat} {a : Int32} (hn : sg d 1 = nI n) (h : n < 40) : ∃ s2, f_X0_append sg d a = some s2 ∧ s2 = st2 (st2 sg (15 + d) n a) d 1 (nI (n + 1)) := by
  refine ⟨_, ?_, rfl⟩
  unfold f_X0_append
  rw [hn, if_neg (nI_pos (by omega)), if_neg (show ¬ (40 : Int32) ≤ _ from nI_ge (b := 40) h (by decide)), gd_p (ix_ok h (by decide)), nI_clamp (by omega), lt_e, lt_e, st2_k _ _ _ _ (show d ≠ 15 + d by omega), hn, nI_inc]; rfl
theorem RowAt.snoc {f : Nat → Int32} {l : List Nat} {t : Nat} (h : RowAt f l) : RowAt (upd f l.length (nI t)) (l ++ [t]) := by
  intro i hi
  rw [List.length_append, List.length_singleton] at hi
  by_cases e : i = l.length
  · subst e; simp [upd]
  · rw [List.getElem_append_left (by omega)]
    simp only [upd, if_neg e]
    exact h i (by omega)
/-- the cells of one duty alone -/
def FrD (d : Nat) (s1 s2 : dd_S) : Prop := ∀ k, k ≠ d → k ≠ 15 + d → s2 k = s1 k
theorem FrD.refl {d : Nat} {s : dd_S} : FrD d s s := fun _ _ _ => rfl
theorem FrD.trans {d : Nat} {a b c : dd_S} (h1 : FrD d a b) (h2 : FrD d b c) : FrD d a c := fun k h3 h4 => (h2 k h3 h4).trans (h1 k h3 h4)
theorem app_duty {sg : dd_S} {d t : Nat} {l : List Nat} (hd : DutyAt sg d l) (h : l.length < 40) : ∃ s2, f_X0_append sg d (nI t) = some s2 ∧ DutyAt s2 d (l ++ [t]) ∧ FrD d sg s2 ∧ ∀ j, j ≠ 1 → s2 d j = sg d j := by
  obtain ⟨s2, e1, e2⟩ := app_ev (a := nI t) hd.1 h
  refine ⟨s2, e1, ⟨?_, ?_⟩, fun k h1 h2 => ?_, fun j hj => ?_⟩
  · rw [e2, st2_s]; simp
  · rw [e2, st2_k _ _ _ _ (show 15 + d ≠ d by omega)]
    have : st2 sg (15 + d) l.length (nI t) (15 + d) = upd (sg (15 + d)) l.length (nI t) := by simp [st2, dd_up]
    rw [this]
    exact hd.2.snoc
  · rw [e2, st2_k _ _ _ _ h1, st2_k _ _ _ _ h2]
  · rw [e2, st2_j _ _ _ _ hj, st2_k _ _ _ _ (show d ≠ 15 + d by omega)]
theorem tin_duty {sg : dd_S} {d i : Nat} {l : List Nat} (hd : DutyAt sg d l) (h : i < l.length) (h40 : l.length ≤ 40) : f_X0_tripIn sg d (nI i) = some (nI l[i]) := by
  rw [tin_ev (by omega), hd.2 i h]
theorem DutyAt.fr {d d2 : Nat} {s1 s2 : dd_S} {l : List Nat} (hd : DutyAt s1 d2 l) (h : FrD d s1 s2) (h1 : d2 ≠ d) (h2 : d2 ≠ 15 + d) (h3 : 15 + d2 ≠ d) : DutyAt s2 d2 l := ⟨by rw [h d2 h1 h2]; exact hd.1, by rw [h _ h3 (by omega)]; exact hd.2⟩
