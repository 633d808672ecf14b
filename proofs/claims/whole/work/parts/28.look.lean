/-! THE REFERENCE'S LOOK AT A DUTY -/
def IsRow (dep du : Nat → Int32) (T : Nat) (d : Int32) (l : List Nat) : Prop := Asc dep l ∧ ∀ t, t ∈ l ↔ t < T ∧ du t = d
theorem asc_inj {dep : Nat → Int32} {l : List Nat} (h : Asc dep l) {t u : Nat} (ht : t ∈ l) (hu : u ∈ l) (e : dep t = dep u) : t = u := by
  obtain ⟨i, hi, rfl⟩ := List.mem_iff_getElem.mp ht
  obtain ⟨j, hj, rfl⟩ := List.mem_iff_getElem.mp hu
  rcases Nat.lt_trichotomy i j with q | q | q
  · have := asc_lt h hj q
    rw [e] at this
    exact absurd this (i32_irr _)
  · subst q; rfl
  · have := asc_lt h hi q
    rw [e] at this
    exact absurd this (i32_irr _)
theorem IsRow.uniq {dep du : Nat → Int32} {T : Nat} {d : Int32} {l1 l2 : List Nat} (h1 : IsRow dep du T d l1) (h2 : IsRow dep du T d l2) : l1 = l2 := asc_uniq h1.1 h2.1 (fun x => (h1.2 x).trans (h2.2 x).symm)
theorem IsRow.lt {dep du : Nat → Int32} {T : Nat} {d : Int32} {l : List Nat} (h : IsRow dep du T d l) {x : Nat} (hx : x ∈ l) : x < T := ((h.2 x).mp hx).1
theorem IsRow.len {dep du : Nat → Int32} {T : Nat} {d : Int32} {l : List Nat} (h : IsRow dep du T d l) : l.length ≤ T := nodup_len T l h.1.nodup (fun _ hx => h.lt hx)
theorem nI_mul (a b : Nat) : nI a * nI b = nI (a * b) := (Int32.ofNat_mul a b).symm
/-- what sorting leaves alone -/
def Fr8 (s1 s2 : dd_S) : Prop := (∀ k, k ≠ 0 → k ≠ 8 → s2 k = s1 k) ∧ ∀ j, j ≠ 16 → s2 0 j = s1 0 j
theorem Fr8.refl {s : dd_S} : Fr8 s s := ⟨fun _ _ _ => rfl, fun _ _ => rfl⟩
theorem Fr8.trans {a b c : dd_S} (h1 : Fr8 a b) (h2 : Fr8 b c) : Fr8 a c := ⟨fun k h3 h4 => (h2.1 k h3 h4).trans (h1.1 k h3 h4), fun j h => (h2.2 j h).trans (h1.2 j h)⟩
theorem so_79 {sg : dd_S} {l : List Nat} {v m : Nat} {d : Int32} {k : dd_S → Int32 → Option dd_S} (hl : l.length < 40) (hm : m ≤ l.length) (h16 : sg 0 16 = nI l.length) (hS : Shift (sg 8) l m) : ∃ s2, f_X6_sort_79 d k sg (nI v) (nI m) = k s2 (nI (v + 1)) ∧ Fr8 sg s2 ∧ s2 0 16 = nI (l.length + 1) ∧ RowAt (s2 8) (l.take m ++ v :: l.drop m) := by
  unfold f_X6_sort_79
  rw [gd_p (ix_ok (by omega) (by decide)), nI_clamp (by omega), lt_e, lt_e]
  unfold f_X6_sort_96
  rw [lt_e, nI_inc]
  refine ⟨_, rfl, ⟨fun k h1 h2 => by rw [st2_k _ _ _ _ h1, st2_k _ _ _ _ h2], fun j h => by rw [st2_j _ _ _ _ h, st2_k _ _ _ _ (by decide)]⟩, ?_, ?_⟩
  · rw [st2_s, st2_k _ _ _ _ (by decide), h16, nI_inc]
  · rw [st2_k _ _ _ _ (by decide)]
    have : st2 sg 8 m (nI v) 8 = upd (sg 8) m (nI v) := by simp [st2, dd_up]
    rw [this]
    exact hS.fill hm
theorem so_33 {dep : Nat → Int32} {l : List Nat} {v : Nat} {d : Int32} {k : dd_S → Int32 → Option dd_S} (hl : l.length < 40) (hv : v < 40) (hl40 : ∀ x ∈ l, x < 40) (hA : Asc dep l) (hne : ∀ x ∈ l, dep x ≠ dep v) : ∀ (m n : Nat) (sg : dd_S), m ≤ l.length → m < n → sg 4 = dep → sg 0 16 = nI l.length → Shift (sg 8) l m → (∀ (j : Nat) (h : j < l.length), m ≤ j → dep v < dep l[j]) →
    ∃ (i : Nat) (s2 : dd_S), f_X6_sort_33 d k n sg (nI v) (nI m) = k s2 (nI (v + 1)) ∧ Fr8 sg s2 ∧ s2 0 16 = nI (l.length + 1) ∧ RowAt (s2 8) (l.take i ++ v :: l.drop i) ∧ Asc dep (l.take i ++ v :: l.drop i) := by
  intro m
  induction m with
  | zero =>
    intro n sg hm hn hd h16 hS hgt
    obtain ⟨n, rfl⟩ : ∃ q, n = q + 1 := ⟨n - 1, by omega⟩
    unfold f_X6_sort_33
    rw [if_pos (show nI 0 ≤ (0 : Int32) by decide)]
    obtain ⟨s2, b1, b2, b3, b4⟩ := so_79 (v := v) (d := d) (k := k) hl hm h16 hS
    exact ⟨0, s2, b1, b2, b3, b4, ins_asc hA (fun j _ h => absurd h (Nat.not_lt_zero _)) hgt⟩
  | succ m ih =>
    intro n sg hm hn hd h16 hS hgt
    obtain ⟨n, rfl⟩ : ∃ q, n = q + 1 := ⟨n - 1, by omega⟩
    have hml : m < l.length := by omega
    have hr : sg 8 m = nI l[m] := (hS m hml).1 (by omega)
    have hx : l[m] < 40 := hl40 _ (List.getElem_mem _)
    have hpos : ¬ nI (m + 1) ≤ (0 : Int32) := nI_nle (by omega) (by omega)
    unfold f_X6_sort_33
    rw [if_neg hpos, nI_sub1 (by omega), Nat.add_sub_cancel, gd_p (ix_ok (by omega) (by decide)), nI_clamp (by omega), hr, gd_p (ix_ok hx (by decide)), gd_p (ix_ok hv (by decide)), nI_clamp (by omega), nI_clamp (by omega), hd]
    by_cases e : dep l[m] ≤ dep v
    · rw [if_pos e]
      obtain ⟨s2, b1, b2, b3, b4⟩ := so_79 (v := v) (d := d) (k := k) hl hm h16 hS
      have e2 : dep l[m] < dep v := i32_le_of e (hne _ (List.getElem_mem _))
      refine ⟨m + 1, s2, b1, b2, b3, b4, ins_asc hA (fun j hj h => ?_) hgt⟩
      rcases Nat.lt_or_ge j m with q | q
      · exact i32_trans (asc_lt hA hml q) e2
      · have : j = m := by omega
        subst this
        exact e2
    · rw [if_neg e, gd_p (ix_ok (by omega) (by decide)), gd_p (ix_ok (by omega) (by decide)), nI_clamp (show m + 1 < 2 ^ 31 by omega), lt_e, lt_e, nI_dec (by omega), Nat.add_sub_cancel]
      have hs : st2 sg 8 (m + 1) (nI l[m]) 8 = upd (sg 8) (m + 1) (sg 8 (m + 1 - 1)) := by simp [st2, dd_up, hr]
      obtain ⟨i, s2, b1, b2, b3, b4, b5⟩ := ih n (st2 sg 8 (m + 1) (nI l[m])) (by omega) (by omega) (by rw [st2_k _ _ _ _ (by decide)]; exact hd) (by rw [st2_k _ _ _ _ (by decide)]; exact h16) (by rw [hs]; exact hS.step (by omega) hm) (fun j hj h => by
        rcases Nat.lt_or_ge m j with q | q
        · exact hgt j hj (by omega)
        · have : j = m := by omega
          subst this
          exact i32_nle.mp e)
      exact ⟨i, s2, b1, Fr8.trans ⟨fun k h1 h2 => st2_k _ _ _ _ h2, fun j h => by rw [st2_k _ _ _ _ (by decide)]⟩ b2, b3, b4, b5⟩
theorem so_loop {dep du : Nat → Int32} {T : Nat} {d : Int32} (hT : T ≤ 40) (hdis : ∀ t u, t < T → u < T → du t = d → du u = d → dep t = dep u → t = u) : ∀ (q v n : Nat) (sg : dd_S) (l : List Nat), v + q = T → q < n → sg 0 2 = nI T → sg 4 = dep → sg 6 = du → sg 0 16 = nI l.length → RowAt (sg 8) l → IsRow dep du v d l →
    ∃ (s2 : dd_S) (l2 : List Nat), f_X6_sort_7 d n sg (nI v) = some s2 ∧ Fr8 sg s2 ∧ s2 0 16 = nI l2.length ∧ RowAt (s2 8) l2 ∧ IsRow dep du T d l2 := by
  intro q
  induction q with
  | zero =>
    intro v n sg l hv hn h2 h4 h6 h16 hR hI
    obtain ⟨n, rfl⟩ : ∃ q, n = q + 1 := ⟨n - 1, by omega⟩
    have : v = T := by omega
    subst this
    unfold f_X6_sort_7
    rw [h2, if_pos ((nI_le_iff (by omega) (by omega)).mpr (Nat.le_refl _))]
    exact ⟨sg, l, rfl, Fr8.refl, h16, hR, hI⟩
  | succ q ih =>
    intro v n sg l hv hn h2 h4 h6 h16 hR hI
    obtain ⟨n, rfl⟩ : ∃ q, n = q + 1 := ⟨n - 1, by omega⟩
    have hlen := hI.len
    unfold f_X6_sort_7
    rw [h2, if_neg (nI_ge (by omega) (by omega)), gd_p (ix_ok (by omega) (by decide)), nI_clamp (by omega), h6]
    by_cases e : du v = d
    · rw [if_pos e, h16]
      obtain ⟨i, s2, b1, b2, b3, b4, b5⟩ := so_33 (v := v) (d := d) (k := fun zs z0 => f_X6_sort_7 d n zs z0) (dep := dep) (l := l) (by omega) (by omega) (fun x hx => by have := hI.lt hx; omega) hI.1 (fun x hx ex => by
        have h9 := (hI.2 x).mp hx
        have := hdis x v (by omega) (by omega) h9.2 e ex
        omega) l.length 64 sg (Nat.le_refl _) (by omega) h4 h16 hR.shift (fun j hj h => absurd hj (by omega))
      obtain ⟨s3, l3, c1, c2, c3, c4, c5⟩ := ih (v + 1) n s2 _ (by omega) (by omega) (by rw [b2.2 2 (by decide)]; exact h2) (by rw [b2.1 4 (by decide) (by decide)]; exact h4) (by rw [b2.1 6 (by decide) (by decide)]; exact h6) (by rw [ins_len]; exact b3) b4 ⟨b5, fun t => by
        rw [ins_mem, hI.2 t]
        constructor
        · rintro (h | ⟨h, h'⟩)
          · subst h; exact ⟨by omega, e⟩
          · exact ⟨by omega, h'⟩
        · rintro ⟨h, h'⟩
          by_cases h9 : t = v
          · exact Or.inl h9
          · exact Or.inr ⟨by omega, h'⟩⟩
      exact ⟨s3, l3, b1.trans c1, b2.trans c2, c3, c4, c5⟩
    · rw [if_neg e]
      unfold f_X6_sort_96
      rw [lt_e, nI_inc]
      exact ih (v + 1) n sg l (by omega) (by omega) h2 h4 h6 h16 hR ⟨hI.1, fun t => by
        rw [hI.2 t]
        constructor
        · rintro ⟨h, h'⟩; exact ⟨by omega, h'⟩
        · rintro ⟨h, h'⟩
          by_cases h9 : t = v
          · subst h9; exact absurd h' e
          · exact ⟨by omega, h'⟩⟩
theorem sort_ev {sg : dd_S} {dep du : Nat → Int32} {T : Nat} {d : Int32} {l : List Nat} (hT : T ≤ 40) (h2 : sg 0 2 = nI T) (h4 : sg 4 = dep) (h6 : sg 6 = du) (hI : IsRow dep du T d l) : ∃ s2, f_X6_sort sg d = some s2 ∧ Fr8 sg s2 ∧ s2 0 16 = nI l.length ∧ RowAt (s2 8) l := by
  unfold f_X6_sort
  rw [lt_e]
  obtain ⟨s2, l2, b1, b2, b3, b4, b5⟩ := so_loop (dep := dep) (du := du) (d := d) hT (fun t u ht hu h3 h4 h5 => asc_inj hI.1 ((hI.2 t).mpr ⟨ht, h3⟩) ((hI.2 u).mpr ⟨hu, h4⟩) h5) T 0 64 (st2 sg 0 16 0) [] (by omega) (by omega) (by rw [st2_j _ _ _ _ (by decide)]; exact h2) (by rw [st2_k _ _ _ _ (by decide)]; exact h4) (by rw [st2_k _ _ _ _ (by decide)]; exact h6) (st2_s _ _ _ _) (fun i hi => absurd hi (Nat.not_lt_zero _)) ⟨List.Pairwise.nil, fun t => by simp⟩
  have e := b5.uniq hI
  subst e
  exact ⟨s2, b1, Fr8.trans ⟨fun k h1 h2 => st2_k _ _ _ _ h1, fun j h => st2_j _ _ _ _ h⟩ b2, b3, b4⟩
/-- the reference's tables are the class's -/
def LinkE (E sM : dd_S) : Prop := sM 2 = E 41 ∧ sM 3 = E 42 ∧ sM 4 = E 43 ∧ sM 5 = E 44 ∧ (∀ a b : Nat, a < 6 → b < 6 → sM 1 (6 * a + b) = E (53 + a) b) ∧ sM 0 11 = E 32 0 ∧ sM 0 12 = E 32 1 ∧ sM 0 13 = E 32 2 ∧ sM 0 14 = E 32 3
theorem LinkE.fr {E s1 s2 : dd_S} (h : LinkE E s1) (h1 : ∀ k, 1 ≤ k → k ≤ 5 → s2 k = s1 k) (h2 : ∀ j, 11 ≤ j → j ≤ 14 → s2 0 j = s1 0 j) : LinkE E s2 := by
  obtain ⟨a1, a2, a3, a4, a5, a6, a7, a8, a9⟩ := h
  exact ⟨by rw [h1 2 (by decide) (by decide)]; exact a1, by rw [h1 3 (by decide) (by decide)]; exact a2, by rw [h1 4 (by decide) (by decide)]; exact a3, by rw [h1 5 (by decide) (by decide)]; exact a4, fun a b ha hb => by rw [h1 1 (by decide) (by decide)]; exact a5 a b ha hb, by rw [h2 11 (by decide) (by decide)]; exact a6, by rw [h2 12 (by decide) (by decide)]; exact a7, by rw [h2 13 (by decide) (by decide)]; exact a8, by rw [h2 14 (by decide) (by decide)]; exact a9⟩
theorem mway_ev {E sM : dd_S} (h : LinkE E sM) {x y : Int32} (hx : Pt x) (hy : Pt y) : f_X6_way sM x y = some (wy E x y) := by
  obtain ⟨a, ha, rfl⟩ := hx
  obtain ⟨b, hb, rfl⟩ := hy
  unfold f_X6_way wy
  rw [show (6 : Int32) = nI 6 from rfl, nI_mul, nI_add, gd_p (ix_ok (by omega) (by decide)), nI_clamp (by omega), nI_clamp (by omega), nI_clamp (by omega), h.2.2.2.2.1 a b ha hb]
theorem mx_lt (mo a : Int32) : (if mo < a then a else mo) = mx mo a := by
  unfold mx
  by_cases h : a ≤ mo
  · rw [if_neg (i32_nlt.mpr h), if_pos h]
  · rw [if_pos (i32_nle.mp h), if_neg h]
