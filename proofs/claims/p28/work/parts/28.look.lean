/-! THE REFERENCE'S LOOK AT A DUTY -/
def IsRow (dep du : Nat → Int32) (T : Nat) (d : Int32) (l : List Nat) : Prop := Asc dep l ∧ ∀ t, t ∈ l ↔ t < T ∧ du t = d
theorem asc_inj {dep : Nat → Int32} {l : List Nat} (h : Asc dep l) {t u : Nat} (ht : t ∈ l) (hu : u ∈ l) (e : dep t = dep u) : t = u := by
  obtain ⟨i, hi, rfl⟩ := List.mem_iff_getElem.mp ht
  obtain ⟨j, hj, rfl⟩ := List.mem_iff_getElem.mp hu
  rcases Nat.lt_trichotomy i j with q | q | q
  · have := asc_lt h hj q
    rw [e] at this
    exact absurd this (i32_irr _)
  · subst q; rfl
  · have := asc_lt h hi q
    rw [e] at this
    exact absurd this (i32_irr _)
theorem IsRow.uniq {dep du : Nat → Int32} {T : Nat} {d : Int32} {l1 l2 : List Nat} (h1 : IsRow dep du T d l1) (h2 : IsRow dep du T d l2) : l1 = l2 := asc_uniq h1.1 h2.1 (fun x => (h1.2 x).trans (h2.2 x).symm)
theorem IsRow.lt {dep du : Nat → Int32} {T : Nat} {d : Int32} {l : List Nat} (h : IsRow dep du T d l) {x : Nat} (hx : x ∈ l) : x < T := ((h.2 x).mp hx).1
theorem IsRow.len {dep du : Nat → Int32} {T : Nat} {d : Int32} {l : List Nat} (h : IsRow dep du T d l) : l.length ≤ T := nodup_len T l h.1.nodup (fun _ hx => h.lt hx)
theorem nI_mul (a b : Nat) : nI a * nI b = nI (a * b) := (Int32.ofNat_mul a b).symm
theorem mx_lt (mo a : Int32) : (if mo < a then a else mo) = mx mo a := by
  unfold mx
  by_cases h : a ≤ mo
  · rw [if_neg (i32_nlt.mpr h), if_pos h]
  · rw [if_pos (i32_nle.mp h), if_neg h]
/-! the reference's look, its loop -/
theorem nz_or {x : Int32} (h : bz x = true) : x = 0 ∨ x = 1 := of_decide_eq_true h
theorem bz_if {c : Prop} [Decidable c] {x y : Int32} (h : bz x = true) (h2 : bz y = true) : bz (if c then x else y) = true := by split <;> assumption
def mbr (sg : dd_S) (lb dr idle : Int32) : dd_S := if idle < lb then st2 sg 0 23 (if (0 : Int32) ≤ idle then sg 0 23 else 0) else st2 (st2 (st2 (st2 sg 0 23 (if (0 : Int32) ≤ idle then sg 0 23 else 0)) 0 21 (sg 0 21 + 1)) 0 19 (sg 0 19 - idle)) 0 22 (mx (sg 0 22) dr)
theorem mbr_k {sg : dd_S} {lb dr idle : Int32} {k : Nat} (h : k ≠ 0) : mbr sg lb dr idle k = sg k := by
  unfold mbr
  split
  · rw [st2_k _ _ _ _ h]
  · rw [st2_k _ _ _ _ h, st2_k _ _ _ _ h, st2_k _ _ _ _ h, st2_k _ _ _ _ h]
theorem mbr_j {sg : dd_S} {lb dr idle : Int32} {j : Nat} (h1 : j ≠ 19) (h2 : j ≠ 21) (h3 : j ≠ 22) (h4 : j ≠ 23) : mbr sg lb dr idle 0 j = sg 0 j := by
  unfold mbr
  split
  · rw [st2_j _ _ _ _ h4]
  · rw [st2_j _ _ _ _ h3, st2_j _ _ _ _ h1, st2_j _ _ _ _ h2, st2_j _ _ _ _ h4]
theorem mbr_q {sg : dd_S} {lb dr idle : Int32} : mbr sg lb dr idle 0 23 = (if (0 : Int32) ≤ idle then sg 0 23 else 0) ∧ mbr sg lb dr idle 0 21 = (if idle < lb then sg 0 21 else sg 0 21 + 1) ∧ mbr sg lb dr idle 0 19 = (if idle < lb then sg 0 19 else sg 0 19 - idle) ∧ mbr sg lb dr idle 0 22 = (if idle < lb then sg 0 22 else mx (sg 0 22) dr) := by
  unfold mbr
  by_cases h : idle < lb
  · simp only [if_pos h, st2_at]; simp
  · simp only [if_neg h, st2_at]; simp
/-! HOW LARGE THINGS ARE -/
def EnvB (E : dd_S) (T : Nat) : Prop := (∀ t, t < T → TrOk E t ∧ 0 ≤ (E 43 t).toInt ∧ (E 43 t).toInt < (E 44 t).toInt ∧ (E 44 t).toInt ≤ 1799) ∧ (∀ a b : Nat, a < 6 → b < 6 → 0 ≤ (E (53 + a) b).toInt ∧ (E (53 + a) b).toInt ≤ 90) ∧ 0 ≤ (E 32 2).toInt
theorem i32_sub {a b : Int32} (h1 : -2147483648 ≤ a.toInt - b.toInt) (h2 : a.toInt - b.toInt < 2147483648) : (a - b).toInt = a.toInt - b.toInt := by
  rw [Int32.toInt_sub]
  exact Int.bmod_eq_of_le (by omega) (by omega)
theorem i32_add {a b : Int32} (h1 : -2147483648 ≤ a.toInt + b.toInt) (h2 : a.toInt + b.toInt < 2147483648) : (a + b).toInt = a.toInt + b.toInt := by
  rw [Int32.toInt_add]
  exact Int.bmod_eq_of_le (by omega) (by omega)
theorem wyI {E : dd_S} {a b : Nat} (ha : a < 6) (hb : b < 6) : wy E (nI a) (nI b) = E (53 + a) b := by
  unfold wy
  rw [nI_clamp (by omega), nI_clamp (by omega)]
theorem EnvB.wy {E : dd_S} {T : Nat} (h : EnvB E T) {x y : Int32} (hx : Pt x) (hy : Pt y) : 0 ≤ (wy E x y).toInt ∧ (wy E x y).toInt ≤ 90 := by
  obtain ⟨a, ha, rfl⟩ := hx
  obtain ⟨b, hb, rfl⟩ := hy
  have := h.2.1 a b ha hb
  rw [wyI ha hb]
  exact this
theorem EnvB.ok {E : dd_S} {T : Nat} (h : EnvB E T) {l : List Nat} (hl : ∀ t ∈ l, t < T) : ∀ t ∈ l, TrOk E t := fun t ht => (h.1 t (hl t ht)).1
theorem idle_b {E : dd_S} {T : Nat} (h : EnvB E T) {e x : Nat} (he : e < T) (hx : x < T) : ((E 43 x - E 44 e) - wy E (E 42 e) (E 41 x)).toInt = (E 43 x).toInt - (E 44 e).toInt - (wy E (E 42 e) (E 41 x)).toInt := by
  have h1 := h.1 e he
  have h2 := h.1 x hx
  have h3 := h.wy h1.1.2.2 h2.1.2.1
  have e1 : (E 43 x - E 44 e).toInt = (E 43 x).toInt - (E 44 e).toInt := i32_sub (by omega) (by omega)
  rw [i32_sub (by omega) (by omega), e1]
theorem mst_b {E : dd_S} {T : Nat} (h : EnvB E T) : ∀ (rest : List Nat) (e : Nat) (dr br wk mo rt : Int32), (∀ t ∈ e :: rest, t < T) → Asc (E 43) (e :: rest) → wk.toInt ≤ 5000 → -5000 ≤ wk.toInt - ((E 43 ((e :: rest).getLast (by simp))).toInt - (E 43 e).toInt) →
    (mst E e rest dr br wk mo rt).2.1.toInt ≤ wk.toInt ∧ wk.toInt - ((E 43 ((e :: rest).getLast (by simp))).toInt - (E 43 e).toInt) ≤ (mst E e rest dr br wk mo rt).2.1.toInt := by
  intro rest
  induction rest with
  | nil =>
    intro e dr br wk mo rt hl hA h1 h2
    unfold mst
    simp
  | cons x r ih =>
    intro e dr br wk mo rt hl hA h1 h2
    have he := hl e (by simp)
    have hx := hl x (by simp)
    have hid := idle_b h he hx
    have b1 := h.1 e he
    have b2 := h.1 x hx
    have b3 := h.wy b1.1.2.2 b2.1.2.1
    have hA' := List.pairwise_cons.mp hA
    have hex : (E 43 e).toInt < (E 43 x).toInt := Int32.lt_iff_toInt_lt.mp (hA'.1 x (by simp))
    have hlast : (e :: x :: r).getLast (by simp) = (x :: r).getLast (by simp) := by simp
    have hll := h.1 ((x :: r).getLast (by simp)) (hl _ (List.mem_cons_of_mem _ (List.getLast_mem _)))
    have hxl : (E 43 x).toInt ≤ (E 43 ((x :: r).getLast (by simp))).toInt := by
      rcases List.mem_cons.mp (List.getLast_mem (l := x :: r) (by simp)) with q | q
      · rw [q]; exact Int.le_refl _
      · exact Int.le_of_lt (Int32.lt_iff_toInt_lt.mp ((List.pairwise_cons.mp hA'.2).1 _ q))
    rw [hlast] at h2 ⊢
    unfold mst
    by_cases c : ((E 43 x - E 44 e) - wy E (E 42 e) (E 41 x)) < E 32 2
    · rw [if_pos c]
      have := ih x (dr + (wy E (E 42 e) (E 41 x) + (E 44 x - E 43 x))) br wk mo (if (0 : Int32) ≤ ((E 43 x - E 44 e) - wy E (E 42 e) (E 41 x)) then rt else 0) (fun t ht => hl t (List.mem_cons_of_mem _ ht)) hA'.2 h1 (by omega)
      omega
    · rw [if_neg c]
      have hc := Int32.le_iff_toInt_le.mp (i32_nlt.mp c)
      have h32 := h.2.2
      have hw : (wk - ((E 43 x - E 44 e) - wy E (E 42 e) (E 41 x))).toInt = wk.toInt - ((E 43 x).toInt - (E 44 e).toInt - (wy E (E 42 e) (E 41 x)).toInt) := by
        rw [i32_sub (by omega) (by omega), hid]
      have := ih x (0 + (wy E (E 42 e) (E 41 x) + (E 44 x - E 43 x))) (br + 1) (wk - ((E 43 x - E 44 e) - wy E (E 42 e) (E 41 x))) (mx mo dr) (if (0 : Int32) ≤ ((E 43 x - E 44 e) - wy E (E 42 e) (E 41 x)) then rt else 0) (fun t ht => hl t (List.mem_cons_of_mem _ ht)) hA'.2 (by omega) (by omega)
      omega
theorem bg_b {E : dd_S} {T : Nat} (h : EnvB E T) {x : Nat} (hx : x < T) : -100 ≤ (bgS E x).toInt ∧ (bgS E x).toInt ≤ (E 43 x).toInt - 10 := by
  have b := h.1 x hx
  have w := h.wy pt_0 b.1.2.1
  unfold bgS
  have e1 : (E 43 x - wy E 0 (E 41 x)).toInt = (E 43 x).toInt - (wy E 0 (E 41 x)).toInt := i32_sub (by omega) (by omega)
  have e10 : (10 : Int32).toInt = 10 := by decide
  rw [i32_sub (by omega) (by omega), e1, e10]
  omega
theorem en_b {E : dd_S} {T : Nat} (h : EnvB E T) {y : Nat} (hy : y < T) : (E 44 y).toInt + 5 ≤ (enS E y).toInt ∧ (enS E y).toInt ≤ 1894 := by
  have b := h.1 y hy
  have w := h.wy b.1.2.2 pt_0
  unfold enS
  have e1 : (E 44 y + wy E (E 42 y) 0).toInt = (E 44 y).toInt + (wy E (E 42 y) 0).toInt := i32_add (by omega) (by omega)
  have e5 : (5 : Int32).toInt = 5 := by decide
  rw [i32_add (by omega) (by omega), e1, e5]
  omega
/-- a duty with trips has work -/
theorem work_b {E : dd_S} {T : Nat} (h : EnvB E T) {x : Nat} {r : List Nat} (hl : ∀ t ∈ x :: r, t < T) (hA : Asc (E 43) (x :: r)) : 16 ≤ (mstS E x r).2.1.toInt ∧ (mstS E x r).2.1.toInt ≤ 2000 := by
  have hx := hl x (by simp)
  have hy := hl ((x :: r).getLast (by simp)) (List.getLast_mem _)
  have b1 := bg_b h hx
  have b2 := en_b h hy
  have b3 := h.1 _ hy
  have b4 := h.1 _ hx
  have hw : (enS E ((x :: r).getLast (by simp)) - bgS E x).toInt = (enS E ((x :: r).getLast (by simp))).toInt - (bgS E x).toInt := i32_sub (by omega) (by omega)
  unfold mstS
  have := mst_b h r x (wy E 0 (E 41 x) + (E 44 x - E 43 x)) 0 (enS E ((x :: r).getLast (by simp)) - bgS E x) 0 1 hl hA (by omega) (by omega)
  omega
theorem pay_m {w : Int32} (h : -100000 ≤ w.toInt) : ((if (360 : Int32) < w then w else 360) + (if (0 : Int32) < w - 480 then w - 480 else 0) / 2) = payS w := by
  unfold payS
  have e48 : (480 : Int32).toInt = 480 := by decide
  have hlt := w.toInt_lt
  have e0 : (0 : Int32).toInt = 0 := by decide
  have e1 : (w - 480).toInt = w.toInt - 480 := by rw [i32_sub (by omega) (by omega), e48]
  have p1 : (if (360 : Int32) < w then w else 360) = if (360 : Int32) ≤ w then w else 360 := by
    by_cases c : (360 : Int32) ≤ w
    · rw [if_pos c]
      by_cases c2 : (360 : Int32) < w
      · rw [if_pos c2]
      · rw [if_neg c2]
        apply Int32.toInt_inj.mp
        have a1 := Int32.le_iff_toInt_le.mp c
        have a2 := Int32.le_iff_toInt_le.mp (i32_nlt.mp c2)
        omega
    · rw [if_neg c, if_neg (fun c2 => c (by
        rw [Int32.lt_iff_toInt_lt] at c2
        rw [Int32.le_iff_toInt_le]
        omega))]
  rw [p1]
  congr 1
  by_cases c : w ≤ (480 : Int32)
  · rw [if_pos c, if_neg (fun c2 => by
      rw [Int32.lt_iff_toInt_lt, e1, e0] at c2
      have := Int32.le_iff_toInt_le.mp c
      omega)]
    decide
  · rw [if_neg c, if_pos (by
      rw [Int32.lt_iff_toInt_lt, e1, e0]
      have := Int32.lt_iff_toInt_lt.mp (i32_nle.mp c)
      omega)]
theorem ft8_bz {E : dd_S} {l : List Nat} (h : ∀ x r, l = x :: r → bz (mstS E x r).2.2.2 = true) : bz (ftS E l 8) = true := by
  cases l with
  | nil => rfl
  | cons x r =>
    have := h x r rfl
    simp only [ftS]
    simp
    split
    · exact bz_0
    · split
      · exact this
      · exact bz_0
theorem mst_bz {E : dd_S} : ∀ (r : List Nat) (e : Nat) (dr br wk mo rt : Int32), bz rt = true → bz (mst E e r dr br wk mo rt).2.2.2 = true := by
  intro r
  induction r with
  | nil => intro e dr br wk mo rt h; unfold mst; exact h
  | cons x r ih =>
    intro e dr br wk mo rt h
    unfold mst
    split
    · exact ih _ _ _ _ _ _ (bz_if h bz_0)
    · exact ih _ _ _ _ _ _ (bz_if h bz_0)
theorem ft8 {E : dd_S} {l : List Nat} : bz (ftS E l 8) = true := ft8_bz (fun x r _ => mst_bz _ _ _ _ _ _ _ bz_1)
