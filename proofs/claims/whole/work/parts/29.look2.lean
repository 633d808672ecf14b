/-! the reference's look, its loop -/
theorem nz_or {x : Int32} (h : bz x = true) : x = 0 ∨ x = 1 := of_decide_eq_true h
theorem bz_if {c : Prop} [Decidable c] {x y : Int32} (h : bz x = true) (h2 : bz y = true) : bz (if c then x else y) = true := by split <;> assumption
theorem l343_0 {d : Int32} {k : dd_S → Int32 → Int32 → Option (Int32 × dd_S)} {sg : dd_S} {dr w idle t0 : Int32} {i : Nat} (hb : bz t0 = true) : f_X6_look_343 d k sg dr (nI i) w idle 0 t0 = k (st2 sg 0 23 t0) (dr + w) (nI (i + 1)) := by
  unfold f_X6_look_343
  rw [gd_p hb, lt_e, if_pos rfl]
  unfold f_X6_look_386
  rw [lt_e, lt_e, nI_inc]
theorem l343_1 {d : Int32} {k : dd_S → Int32 → Int32 → Option (Int32 × dd_S)} {sg : dd_S} {dr w idle t0 : Int32} {i : Nat} (hb : bz t0 = true) : f_X6_look_343 d k sg dr (nI i) w idle 1 t0 = k (st2 (st2 (st2 (st2 sg 0 23 t0) 0 21 (sg 0 21 + 1)) 0 19 (sg 0 19 - idle)) 0 22 (mx (sg 0 22) dr)) (0 + w) (nI (i + 1)) := by
  unfold f_X6_look_343
  rw [gd_p hb, lt_e, if_neg (by decide)]
  simp only [lt_e]
  unfold f_X6_look_386
  have e1 : st2 sg 0 23 t0 0 21 = sg 0 21 := st2_j _ _ _ _ (by decide)
  rw [lt_e, lt_e, nI_inc, e1]
  have e2 : st2 (st2 sg 0 23 t0) 0 21 (sg 0 21 + 1) 0 19 = sg 0 19 := by rw [st2_j _ _ _ _ (by decide), st2_j _ _ _ _ (by decide)]
  rw [e2]
  have e3 : st2 (st2 (st2 sg 0 23 t0) 0 21 (sg 0 21 + 1)) 0 19 (sg 0 19 - idle) 0 22 = sg 0 22 := by rw [st2_j _ _ _ _ (by decide), st2_j _ _ _ _ (by decide), st2_j _ _ _ _ (by decide)]
  rw [e3, mx_lt]
theorem l323_ev {d : Int32} {k : dd_S → Int32 → Int32 → Option (Int32 × dd_S)} {sg : dd_S} {dr w idle v7 : Int32} {i : Nat} (hb : bz (sg 0 23) = true) : f_X6_look_323 d k sg dr (nI i) w idle v7 = f_X6_look_343 d k sg dr (nI i) w idle v7 (if (0 : Int32) ≤ idle then sg 0 23 else 0) := by
  unfold f_X6_look_323
  rcases nz_or hb with e | e
  · rw [e, if_pos rfl]
    have : (if (0 : Int32) ≤ idle then (0 : Int32) else 0) = 0 := by split <;> rfl
    rw [this]
    rfl
  · rw [e, if_neg (by decide)]
    by_cases h : idle < 0
    · rw [if_pos h, if_neg (i32_nle.mpr h)]
      rfl
    · rw [if_neg h, if_pos (i32_nlt.mp h)]
def mbr (sg : dd_S) (lb dr idle : Int32) : dd_S := if idle < lb then st2 sg 0 23 (if (0 : Int32) ≤ idle then sg 0 23 else 0) else st2 (st2 (st2 (st2 sg 0 23 (if (0 : Int32) ≤ idle then sg 0 23 else 0)) 0 21 (sg 0 21 + 1)) 0 19 (sg 0 19 - idle)) 0 22 (mx (sg 0 22) dr)
theorem mbr_k {sg : dd_S} {lb dr idle : Int32} {k : Nat} (h : k ≠ 0) : mbr sg lb dr idle k = sg k := by
  unfold mbr
  split
  · rw [st2_k _ _ _ _ h]
  · rw [st2_k _ _ _ _ h, st2_k _ _ _ _ h, st2_k _ _ _ _ h, st2_k _ _ _ _ h]
theorem mbr_j {sg : dd_S} {lb dr idle : Int32} {j : Nat} (h1 : j ≠ 19) (h2 : j ≠ 21) (h3 : j ≠ 22) (h4 : j ≠ 23) : mbr sg lb dr idle 0 j = sg 0 j := by
  unfold mbr
  split
  · rw [st2_j _ _ _ _ h4]
  · rw [st2_j _ _ _ _ h3, st2_j _ _ _ _ h1, st2_j _ _ _ _ h2, st2_j _ _ _ _ h4]
theorem mbr_q {sg : dd_S} {lb dr idle : Int32} : mbr sg lb dr idle 0 23 = (if (0 : Int32) ≤ idle then sg 0 23 else 0) ∧ mbr sg lb dr idle 0 21 = (if idle < lb then sg 0 21 else sg 0 21 + 1) ∧ mbr sg lb dr idle 0 19 = (if idle < lb then sg 0 19 else sg 0 19 - idle) ∧ mbr sg lb dr idle 0 22 = (if idle < lb then sg 0 22 else mx (sg 0 22) dr) := by
  unfold mbr
  by_cases h : idle < lb
  · simp only [if_pos h, st2_at]; simp
  · simp only [if_neg h, st2_at]; simp
theorem it_last {E sg : dd_S} {d : Int32} {k : dd_S → Int32 → Int32 → Option (Int32 × dd_S)} {x : Int32} {i e : Nat} (hL : LinkE E sg) (hi : i < 40) (hr : sg 8 i = nI e) (he : TrOk E e) (hb : bz (sg 0 23) = true) : f_X6_look_209 d k sg x (nI i) 1 = k sg (x + wy E (E 42 e) 0) (nI (i + 1)) := by
  have he40 := he.1
  unfold f_X6_look_209
  rw [if_neg (by decide), gd_p (ix_ok hi (by decide)), nI_clamp (by omega), hr, gd_p (ix_ok he.1 (by decide)), nI_clamp (by omega), hL.2.1, mway_ev hL he.2.2 pt_0, bd_s]
  unfold f_X6_look_263
  rw [if_neg (by decide)]
  unfold f_X6_look_302
  rw [if_neg (by decide)]
  unfold f_X6_look_322
  rw [l323_ev hb, l343_0 (bz_if hb bz_0), if_pos (show (0 : Int32) ≤ 0 by decide), st2_id]
theorem it_next {E sg : dd_S} {d : Int32} {k : dd_S → Int32 → Int32 → Option (Int32 × dd_S)} {x : Int32} {i e y : Nat} (hL : LinkE E sg) (hi : i + 1 < 40) (hr : sg 8 i = nI e) (hr2 : sg 8 (i + 1) = nI y) (he : TrOk E e) (hy : TrOk E y) (hb : bz (sg 0 23) = true) {w idle : Int32} (hw : wy E (E 42 e) (E 41 y) = w) (hid : (E 43 y - E 44 e) - w = idle) :
    f_X6_look_209 d k sg x (nI i) 0 = k (mbr sg (E 32 2) x idle) ((if idle < E 32 2 then x else 0) + w) (nI (i + 1)) := by
  have he40 := he.1
  have hy40 := hy.1
  unfold f_X6_look_209
  rw [if_pos rfl, gd_p (ix_ok (by omega) (by decide)), nI_inc, nI_clamp (show i < 2 ^ 31 by omega), nI_clamp (show i + 1 < 2 ^ 31 by omega), hr, hr2, gd_p (ix_ok he.1 (by decide)), gd_p (ix_ok hi (by decide)), gd_p (ix_ok hy.1 (by decide)), nI_clamp (show e < 2 ^ 31 by omega), nI_clamp (show y < 2 ^ 31 by omega), hL.2.1, hL.1, mway_ev hL he.2.2 hy.2.1, bd_s]
  unfold f_X6_look_263
  rw [if_pos rfl, nI_inc, gd_p (ix_ok hi (by decide)), nI_clamp (show i < 2 ^ 31 by omega), nI_clamp (show i + 1 < 2 ^ 31 by omega), hr, hr2, gd_p (ix_ok hy.1 (by decide)), gd_p (ix_ok (by omega) (by decide)), gd_p (ix_ok he.1 (by decide)), nI_clamp (show e < 2 ^ 31 by omega), nI_clamp (show y < 2 ^ 31 by omega), hL.2.2.1, hL.2.2.2.1, hw, hid]
  unfold f_X6_look_302
  rw [if_pos rfl, hL.2.2.2.2.2.2.2.1]
  unfold mbr
  by_cases h : idle < E 32 2
  · rw [if_pos h, if_pos h, if_pos h]
    unfold f_X6_look_322
    rw [l323_ev hb, l343_0 (bz_if hb bz_0)]
  · rw [if_neg h, if_neg h, if_neg h, l323_ev hb, l343_1 (bz_if hb bz_0)]
/-- the loop: then the end, with the sums of the row -/
theorem lk_loop {E : dd_S} {d : Int32} {l : List Nat} (h40 : l.length ≤ 40) (hT : ∀ t ∈ l, TrOk E t) : ∀ (rest pre : List Nat) (e n : Nat) (sg : dd_S) (x : Int32), l = pre ++ e :: rest → rest.length + 1 < n → LinkE E sg → sg 0 16 = nI l.length → RowAt (sg 8) l → bz (sg 0 23) = true →
    ∃ (n2 : Nat) (s2 : dd_S) (x2 : Int32), f_X6_look_160 d n sg x (nI pre.length) = f_X6_look_160 d (n2 + 1) s2 x2 (nI l.length) ∧ (∀ k, k ≠ 0 → s2 k = sg k) ∧ (∀ j, j ≠ 19 → j ≠ 21 → j ≠ 22 → j ≠ 23 → s2 0 j = sg 0 j) ∧ bz (s2 0 23) = true ∧ (s2 0 21, s2 0 19, mx (s2 0 22) x2, s2 0 23) = mst E e rest (x + (E 44 e - E 43 e)) (sg 0 21) (sg 0 19) (sg 0 22) (sg 0 23) := by
  intro rest
  induction rest with
  | nil =>
    intro pre e n sg x hl hn hL h16 hR hb
    obtain ⟨n, rfl⟩ : ∃ m, n = (m + 1) + 1 := ⟨n - 2, by simp at hn; omega⟩
    have hlen : l.length = pre.length + 1 := by rw [hl]; simp
    have he := hT e (by rw [hl]; simp)
    have he40 := he.1
    have hgt : l[pre.length]'(by omega) = e := by simp [hl]
    have hr : sg 8 pre.length = nI e := by rw [hR pre.length (by omega), hgt]
    refine ⟨n, sg, (x + (E 44 e - E 43 e)) + wy E (E 42 e) 0, ?_, fun _ _ => rfl, fun _ _ _ _ _ => rfl, hb, ?_⟩
    · conv => lhs; unfold f_X6_look_160
      rw [h16, if_neg (nI_ge (by omega) (by omega)), gd_p (ix_ok (by omega) (by decide)), nI_clamp (by omega), hr, gd_p (ix_ok he.1 (by decide)), gd_p (ix_ok (by omega) (by decide)), gd_p (ix_ok he.1 (by decide)), nI_clamp (by omega), hL.2.2.1, hL.2.2.2.1, lt_e, nI_sub1 (by omega), if_pos (by rw [hlen]; rfl), it_last hL (by omega) hr he hb, hlen]
    · unfold mst; rfl
  | cons y r ih =>
    intro pre e n sg x hl hn hL h16 hR hb
    obtain ⟨n, rfl⟩ : ∃ m, n = m + 1 := ⟨n - 1, by simp at hn; omega⟩
    have hlen : l.length = pre.length + 1 + (r.length + 1) := by rw [hl]; simp; omega
    have he := hT e (by rw [hl]; simp)
    have hy := hT y (by rw [hl]; simp)
    have he40 := he.1
    have hgt : l[pre.length]'(by omega) = e := by simp [hl]
    have hgt2 : l[pre.length + 1]'(by omega) = y := by simp [hl]
    have hr : sg 8 pre.length = nI e := by rw [hR pre.length (by omega), hgt]
    have hr2 : sg 8 (pre.length + 1) = nI y := by rw [hR (pre.length + 1) (by omega), hgt2]
    generalize hx43 : x + (E 44 e - E 43 e) = x43
    generalize hw : wy E (E 42 e) (E 41 y) = w
    generalize hid : (E 43 y - E 44 e) - w = idle
    have hstep : f_X6_look_160 d (n + 1) sg x (nI pre.length) = f_X6_look_160 d n (mbr sg (E 32 2) x43 idle) ((if idle < E 32 2 then x43 else 0) + w) (nI (pre.length + 1)) := by
      conv => lhs; unfold f_X6_look_160
      rw [h16, if_neg (nI_ge (by omega) (by omega)), gd_p (ix_ok (by omega) (by decide)), nI_clamp (by omega), hr, gd_p (ix_ok he.1 (by decide)), gd_p (ix_ok (by omega) (by decide)), gd_p (ix_ok he.1 (by decide)), nI_clamp (by omega), hL.2.2.1, hL.2.2.2.1, lt_e, nI_sub1 (by omega), if_neg (fun h => by have := nI_inj (by omega) (by omega) h; omega), hx43, it_next hL (by omega) hr hr2 he hy hb hw hid]
    obtain ⟨q23, q21, q19, q22⟩ := mbr_q (sg := sg) (lb := E 32 2) (dr := x43) (idle := idle)
    obtain ⟨n2, s2, x2, b1, b2, b3, b4, b5⟩ := ih (pre ++ [e]) y n (mbr sg (E 32 2) x43 idle) ((if idle < E 32 2 then x43 else 0) + w) (by rw [hl]; simp) (by simp at hn; omega) (hL.fr (fun k h1 h2 => mbr_k (by omega)) (fun j h1 h2 => mbr_j (by omega) (by omega) (by omega) (by omega))) (by rw [mbr_j (by decide) (by decide) (by decide) (by decide)]; exact h16) (by rw [mbr_k (by decide)]; exact hR) (by rw [q23]; exact bz_if hb bz_0)
    rw [List.length_append, List.length_singleton] at b1
    refine ⟨n2, s2, x2, hstep.trans b1, fun k hk => (b2 k hk).trans (mbr_k hk), fun j h1 h2 h3 h4 => (b3 j h1 h2 h3 h4).trans (mbr_j h1 h2 h3 h4), b4, b5.trans ?_⟩
    rw [q23, q21, q19, q22]
    conv => rhs; unfold mst
    rw [hw, hid]
    by_cases h : idle < E 32 2
    · simp only [if_pos h]; rw [Int32.add_assoc]
    · simp only [if_neg h]; rw [Int32.add_assoc]
