/-! P28: what a right duty keeps -/
theorem i32_div2 {a : Int32} (h : 0 ≤ a.toInt) : (a / 2).toInt = a.toInt / 2 := by
  rw [Int32.toInt_div_of_ne_right a 2 (by decide), show (2 : Int32).toInt = 2 from by decide]
  exact Int.tdiv_eq_ediv_of_nonneg h
theorem payS_b {w : Int32} (h0 : 0 ≤ w.toInt) (h1 : w.toInt ≤ 100000) : 360 ≤ (payS w).toInt ∧ w.toInt ≤ (payS w).toInt := by
  have e36 : (360 : Int32).toInt = 360 := by decide
  have e48 : (480 : Int32).toInt = 480 := by decide
  have e0 : (0 : Int32).toInt = 0 := by decide
  have hs : (w - 480).toInt = w.toInt - 480 := by rw [i32_sub (by omega) (by omega), e48]
  unfold payS
  by_cases c : w ≤ (480 : Int32)
  · rw [if_pos c, Int32.add_zero]
    by_cases d : (360 : Int32) ≤ w
    · rw [if_pos d]
      have := Int32.le_iff_toInt_le.mp d
      omega
    · rw [if_neg d]
      have := Int32.lt_iff_toInt_lt.mp (i32_nle.mp d)
      omega
  · have c2 := Int32.lt_iff_toInt_lt.mp (i32_nle.mp c)
    have hd : ((w - 480) / 2).toInt = (w.toInt - 480) / 2 := by rw [i32_div2 (by omega), hs]
    rw [if_neg c, if_pos (Int32.le_iff_toInt_le.mpr (by omega)), i32_add (by omega) (by omega), hd]
    omega
/-- the trips' minutes as a whole number -/
def smI (m : Nat → Int32) : List Nat → Int
  | [] => 0
  | x :: r => (m x).toInt + smI m r
theorem smL_I {m : Nat → Int32} : ∀ (l : List Nat), l.length ≤ 1000 → (∀ t ∈ l, 0 ≤ (m t).toInt ∧ (m t).toInt ≤ 2000) → (smL m l).toInt = smI m l ∧ 0 ≤ smI m l ∧ smI m l ≤ 2000 * l.length := by
  intro l
  induction l with
  | nil => intro _ _; exact ⟨rfl, Int.le_refl _, by unfold smI; omega⟩
  | cons x r ih =>
    intro hl h
    have hx := h x (by simp)
    obtain ⟨a1, a2, a3⟩ := ih (by simp at hl; omega) (fun t ht => h t (List.mem_cons_of_mem _ ht))
    rw [List.length_cons] at hl ⊢
    unfold smL smI
    rw [i32_add (by omega) (by omega), a1]
    omega
theorem mnt_b {E : dd_S} {T : Nat} (h : EnvB E T) {t : Nat} (ht : t < T) : (mnt E t).toInt = (E 44 t).toInt - (E 43 t).toInt ∧ 0 ≤ (mnt E t).toInt ∧ (mnt E t).toInt ≤ 2000 := by
  have b := h.1 t ht
  have e : (mnt E t).toInt = (E 44 t).toInt - (E 43 t).toInt := i32_sub (by omega) (by omega)
  omega
/-- a row is right only if it is in order -/
theorem mst_ord {E : dd_S} {T : Nat} (h : EnvB E T) : ∀ (r : List Nat) (e : Nat) (dr br wk mo rt : Int32), (∀ t ∈ e :: r, t < T) → (mst E e r dr br wk mo rt).2.2.2 = 1 → rt = 1 ∧ ∀ (i : Nat) (hi : i + 1 < (e :: r).length), E 44 ((e :: r)[i]'(by omega)) ≤ E 43 (e :: r)[i + 1] := by
  intro r
  induction r with
  | nil =>
    intro e dr br wk mo rt hl h1
    unfold mst at h1
    exact ⟨h1, fun i hi => absurd hi (by simp)⟩
  | cons x r ih =>
    intro e dr br wk mo rt hl h1
    have he := hl e (by simp)
    have hx := hl x (by simp)
    have hid := idle_b h he hx
    have b1 := h.1 e he
    have b2 := h.1 x hx
    have b3 := h.wy b1.1.2.2 b2.1.2.1
    have e0 : (0 : Int32).toInt = 0 := by decide
    have fin : ∀ rt2 : Int32, rt2 = (if (0 : Int32) ≤ ((E 43 x - E 44 e) - wy E (E 42 e) (E 41 x)) then rt else 0) → rt2 = 1 → (∀ (i : Nat) (hi : i + 1 < (x :: r).length), E 44 ((x :: r)[i]'(by omega)) ≤ E 43 (x :: r)[i + 1]) → rt = 1 ∧ ∀ (i : Nat) (hi : i + 1 < (e :: x :: r).length), E 44 ((e :: x :: r)[i]'(by omega)) ≤ E 43 (e :: x :: r)[i + 1] := by
      intro rt2 h2 h3 h4
      by_cases c : (0 : Int32) ≤ ((E 43 x - E 44 e) - wy E (E 42 e) (E 41 x))
      · rw [if_pos c] at h2
        refine ⟨h2.symm.trans h3, fun i hi => ?_⟩
        cases i with
        | zero =>
          have c2 := Int32.le_iff_toInt_le.mp c
          refine Int32.le_iff_toInt_le.mpr ?_
          show (E 44 e).toInt ≤ (E 43 x).toInt
          omega
        | succ i => exact h4 i (by simp at hi ⊢; omega)
      · rw [if_neg c, h3] at h2
        exact absurd h2 (by decide)
    unfold mst at h1
    by_cases c : ((E 43 x - E 44 e) - wy E (E 42 e) (E 41 x)) < E 32 2
    · rw [if_pos c] at h1
      obtain ⟨g1, g2⟩ := ih _ _ _ _ _ _ (fun t ht => hl t (List.mem_cons_of_mem _ ht)) h1
      exact fin _ rfl g1 g2
    · rw [if_neg c] at h1
      obtain ⟨g1, g2⟩ := ih _ _ _ _ _ _ (fun t ht => hl t (List.mem_cons_of_mem _ ht)) h1
      exact fin _ rfl g1 g2
/-- the work of a right row is at least its trips' minutes -/
theorem mst_w {E : dd_S} {T : Nat} (h : EnvB E T) : ∀ (r : List Nat) (e : Nat) (dr br wk mo rt : Int32), (∀ t ∈ e :: r, t < T) → (∀ (i : Nat) (hi : i + 1 < (e :: r).length), E 44 ((e :: r)[i]'(by omega)) ≤ E 43 (e :: r)[i + 1]) → wk.toInt ≤ 5000 → (E 44 ((e :: r).getLast (by simp))).toInt - (E 44 e).toInt ≤ wk.toInt → wk.toInt - ((E 44 ((e :: r).getLast (by simp))).toInt - (E 44 e).toInt) + smI (mnt E) r ≤ (mst E e r dr br wk mo rt).2.1.toInt := by
  intro r
  induction r with
  | nil =>
    intro e dr br wk mo rt hl ho h1 h2
    unfold mst smI
    simp
  | cons x r ih =>
    intro e dr br wk mo rt hl ho h1 h2
    have he := hl e (by simp)
    have hx := hl x (by simp)
    have hid := idle_b h he hx
    have b1 := h.1 e he
    have b2 := h.1 x hx
    have b3 := h.wy b1.1.2.2 b2.1.2.1
    have bm := mnt_b h hx
    have hll := h.1 ((x :: r).getLast (by simp)) (hl _ (List.mem_cons_of_mem _ (List.getLast_mem _)))
    have hlast : (e :: x :: r).getLast (by simp) = (x :: r).getLast (by simp) := by simp
    have hgap : (E 44 e).toInt ≤ (E 43 x).toInt := Int32.le_iff_toInt_le.mp (ho 0 (by simp))
    have ho2 : ∀ (i : Nat) (hi : i + 1 < (x :: r).length), E 44 ((x :: r)[i]'(by omega)) ≤ E 43 (x :: r)[i + 1] := fun i hi => ho (i + 1) (by simp at hi ⊢; omega)
    rw [hlast] at h2 ⊢
    have es : smI (mnt E) (x :: r) = (mnt E x).toInt + smI (mnt E) r := rfl
    rw [es]
    unfold mst
    by_cases c : ((E 43 x - E 44 e) - wy E (E 42 e) (E 41 x)) < E 32 2
    · rw [if_pos c]
      have := ih x (dr + (wy E (E 42 e) (E 41 x) + (E 44 x - E 43 x))) br wk mo (if (0 : Int32) ≤ ((E 43 x - E 44 e) - wy E (E 42 e) (E 41 x)) then rt else 0) (fun t ht => hl t (List.mem_cons_of_mem _ ht)) ho2 h1 (by omega)
      omega
    · rw [if_neg c]
      have hc := Int32.le_iff_toInt_le.mp (i32_nlt.mp c)
      have h32 := h.2.2
      have hw : (wk - ((E 43 x - E 44 e) - wy E (E 42 e) (E 41 x))).toInt = wk.toInt - ((E 43 x).toInt - (E 44 e).toInt - (wy E (E 42 e) (E 41 x)).toInt) := by
        rw [i32_sub (by omega) (by omega), hid]
      have := ih x (0 + (wy E (E 42 e) (E 41 x) + (E 44 x - E 43 x))) (br + 1) (wk - ((E 43 x - E 44 e) - wy E (E 42 e) (E 41 x))) (mx mo dr) (if (0 : Int32) ≤ ((E 43 x - E 44 e) - wy E (E 42 e) (E 41 x)) then rt else 0) (fun t ht => hl t (List.mem_cons_of_mem _ ht)) ho2 (by omega) (by omega)
      omega
/-- what the law asks of a duty with trips -/
theorem row_facts {E : dd_S} {T : Nat} (h : EnvB E T) (hU : RU E) {l : List Nat} (hl : ∀ t ∈ l, t < T) (hA : Asc (E 43) l) (h40 : l.length ≤ 40) (hne : l ≠ []) (h8 : ftS E l 8 = 1) :
    (360 ≤ (ftS E l 5).toInt ∧ (ftS E l 4).toInt ≤ (ftS E l 5).toInt ∧ (ftS E l 7).toInt ≤ 270 ∧ (ftS E l 3 - ftS E l 2).toInt ≤ 720) ∧ (∀ (i : Nat) (hi : i + 1 < l.length), E 44 (l[i]'(by omega)) ≤ E 43 l[i + 1]) ∧ 0 ≤ (smL (mnt E) l).toInt ∧ (smL (mnt E) l).toInt ≤ (ftS E l 4).toInt ∧ 16 ≤ (ftS E l 4).toInt ∧ (ftS E l 4).toInt ≤ 2000 := by
  cases l with
  | nil => exact absurd rfl hne
  | cons x r =>
    have hw := work_b h hl hA
    have e2 : ftS E (x :: r) 2 = bgS E x := by simp [ftS]
    have e3 : ftS E (x :: r) 3 = enS E ((x :: r).getLast (by simp)) := by simp [ftS]
    have e4 : ftS E (x :: r) 4 = (mstS E x r).2.1 := by simp [ftS]
    have e5 : ftS E (x :: r) 5 = payS (mstS E x r).2.1 := by simp [ftS]
    have e7 : ftS E (x :: r) 7 = (mstS E x r).2.2.1 := by simp [ftS]
    have e8 : ftS E (x :: r) 8 = if E 32 0 < (mstS E x r).2.2.1 then 0 else if (enS E ((x :: r).getLast (by simp)) - bgS E x) ≤ E 32 1 then (mstS E x r).2.2.2 else 0 := by simp [ftS]
    rw [e8] at h8
    have q1 : ¬ E 32 0 < (mstS E x r).2.2.1 := fun c => by rw [if_pos c] at h8; exact absurd h8 (by decide)
    rw [if_neg q1] at h8
    have q2 : (enS E ((x :: r).getLast (by simp)) - bgS E x) ≤ E 32 1 := Decidable.byContradiction (fun c => by rw [if_neg c] at h8; exact absurd h8 (by decide))
    rw [if_pos q2] at h8
    have e270 : (270 : Int32).toInt = 270 := by decide
    have e720 : (720 : Int32).toInt = 720 := by decide
    have hp := payS_b (w := (mstS E x r).2.1) (by omega) (by omega)
    have ho := (mst_ord h r x _ _ _ _ _ hl h8).2
    have hx := hl x (by simp)
    have hy := hl ((x :: r).getLast (by simp)) (List.getLast_mem _)
    have b1 := bg_b h hx
    have b2 := en_b h hy
    have b3 := h.1 _ hy
    have b4 := h.1 _ hx
    have hwk : (enS E ((x :: r).getLast (by simp)) - bgS E x).toInt = (enS E ((x :: r).getLast (by simp))).toInt - (bgS E x).toInt := i32_sub (by omega) (by omega)
    have hm := mst_w h r x (wy E 0 (E 41 x) + (E 44 x - E 43 x)) 0 (enS E ((x :: r).getLast (by simp)) - bgS E x) 0 1 hl ho (by omega) (by omega)
    have hmx := mnt_b h hx
    have hs := smL_I (m := mnt E) (x :: r) (by omega) (fun t ht => (mnt_b h (hl t ht)).2)
    have es : smI (mnt E) (x :: r) = (mnt E x).toInt + smI (mnt E) r := rfl
    have hmS : (mst E x r (wy E 0 (E 41 x) + (E 44 x - E 43 x)) 0 (enS E ((x :: r).getLast (by simp)) - bgS E x) 0 1) = mstS E x r := rfl
    rw [hmS] at hm
    rw [hU.1] at q1
    rw [hU.2.1] at q2
    have q1' := Int32.le_iff_toInt_le.mp (i32_nlt.mp q1)
    have q2' := Int32.le_iff_toInt_le.mp q2
    rw [e2, e3, e4, e5, e7]
    refine ⟨⟨hp.1, hp.2, by omega, by omega⟩, ho, by omega, by omega, hw.1, hw.2⟩
