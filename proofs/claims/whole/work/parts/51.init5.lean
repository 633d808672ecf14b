/-! the start: the desk, and what holds of both -/
def I5 (tS : dd_S) (i a b : Nat) (sg : dd_S) : Prop := (∀ k, k ≠ 34 → ¬ (45 ≤ k ∧ k < 53) → sg k = sg5 tS k) ∧ (∀ p, p < i → sg 34 p = -1) ∧ ∀ p q : Nat, p < 8 → q < 7 → (p < a ∨ (p = a ∧ q < b)) → sg (45 + p) q = -1
theorem i5_in {tS : dd_S} {a : Nat} (ha : a < 8) {k : dd_S → Int32 → Option dd_S} : ∀ (q b n : Nat) (sg : dd_S), b + q = 7 → q < n → I5 tS 40 a b sg → ∃ s2, f_X5_init_174 k n sg (nI a) (nI b) = k s2 (nI (a + 1)) ∧ I5 tS 40 (a + 1) 0 s2 := by
  intro q
  induction q with
  | zero =>
    intro b n sg hb hn h
    obtain ⟨n, rfl⟩ : ∃ m, n = m + 1 := ⟨n - 1, by omega⟩
    have : b = 7 := by omega
    subst this
    unfold f_X5_init_174
    rw [if_pos (show (7 : Int32) ≤ nI 7 by decide), lt_e, nI_inc]
    exact ⟨sg, rfl, h.1, h.2.1, fun p q hp hq hpq => h.2.2 p q hp hq (by omega)⟩
  | succ q ih =>
    intro b n sg hb hn h
    obtain ⟨n, rfl⟩ : ∃ m, n = m + 1 := ⟨n - 1, by omega⟩
    unfold f_X5_init_174
    rw [if_neg (show ¬ (7 : Int32) ≤ nI b from nI_ge (b := 7) (by omega) (by omega)), gd_p (ix_ok ha (by decide)), gd_p (ix_ok (by omega) (by decide)), nI_clamp (by omega), nI_clamp (by omega)]
    simp only [lt_e]
    rw [nI_inc]
    refine ih (b + 1) n _ (by omega) (by omega) ⟨fun k h1 h2 => by rw [st2_k _ _ _ _ (by omega)]; exact h.1 k h1 h2, fun p hp => by rw [st2_k _ _ _ _ (by omega)]; exact h.2.1 p hp, fun p r hp hr hpr => ?_⟩
    rw [st2_at]
    by_cases e : 45 + p = 45 + a
    · rw [if_pos e]
      by_cases e2 : r = b
      · rw [if_pos e2]
      · rw [if_neg e2, ← e]; exact h.2.2 p r hp hr (by omega)
    · rw [if_neg e]; exact h.2.2 p r hp hr (by omega)
theorem i5_mid {tS : dd_S} : ∀ (q a n : Nat) (sg : dd_S), a + q = 8 → q < n → I5 tS 40 a 0 sg → ∃ s2, f_X5_init_166 n sg (nI a) = some s2 ∧ I5 tS 40 8 0 s2 := by
  intro q
  induction q with
  | zero =>
    intro a n sg ha hn h
    obtain ⟨n, rfl⟩ : ∃ m, n = m + 1 := ⟨n - 1, by omega⟩
    have : a = 8 := by omega
    subst this
    unfold f_X5_init_166
    rw [if_pos (show (8 : Int32) ≤ nI 8 by decide)]
    exact ⟨sg, rfl, h⟩
  | succ q ih =>
    intro a n sg ha hn h
    obtain ⟨n, rfl⟩ : ∃ m, n = m + 1 := ⟨n - 1, by omega⟩
    unfold f_X5_init_166
    rw [if_neg (show ¬ (8 : Int32) ≤ nI a from nI_ge (b := 8) (by omega) (by omega))]
    obtain ⟨s1, a1, a2⟩ := i5_in (tS := tS) (show a < 8 by omega) (k := fun zs z0 => f_X5_init_166 n zs z0) 7 0 64 sg (by omega) (by omega) h
    obtain ⟨s2, b1, b2⟩ := ih (a + 1) n s1 (by omega) (by omega) a2
    exact ⟨s2, a1.trans b1, b2⟩
theorem i5_out {tS : dd_S} : ∀ (q i n : Nat) (sg : dd_S), i + q = 40 → q < n → I5 tS i 0 0 sg → ∃ s2, f_X5_init_142 n sg (nI i) = some s2 ∧ I5 tS 40 8 0 s2 := by
  intro q
  induction q with
  | zero =>
    intro i n sg hi hn h
    obtain ⟨n, rfl⟩ : ∃ m, n = m + 1 := ⟨n - 1, by omega⟩
    have : i = 40 := by omega
    subst this
    unfold f_X5_init_142
    rw [if_pos (show (40 : Int32) ≤ nI 40 by decide)]
    exact i5_mid 8 0 64 sg (by omega) (by omega) h
  | succ q ih =>
    intro i n sg hi hn h
    obtain ⟨n, rfl⟩ : ∃ m, n = m + 1 := ⟨n - 1, by omega⟩
    unfold f_X5_init_142
    rw [if_neg (show ¬ (40 : Int32) ≤ nI i from nI_ge (b := 40) (by omega) (by omega)), gd_p (ix_ok (by omega) (by decide)), nI_clamp (by omega), lt_e, lt_e, nI_inc]
    refine ih (i + 1) n _ (by omega) (by omega) ⟨fun k h1 h2 => by rw [st2_k _ _ _ _ h1]; exact h.1 k h1 h2, fun p hp => ?_, fun p r _ _ h9 => by omega⟩
    rw [st2_at, if_pos rfl]
    by_cases e : p = i
    · rw [if_pos e]
    · rw [if_neg e]; exact h.2.1 p (by omega)
theorem inv_start : ∃ tS s0 mS, f_X4_init_50 64 (fun _ _ => 0) 0 = some tS ∧ f_X5_init_142 64 (sg5 tS) 0 = some s0 ∧ f_X6_init_97 64 sg6 0 = some mS ∧ Inv s0 mS := by
  obtain ⟨tS, t1, t2⟩ := i4_ev
  obtain ⟨mS, m1, m2⟩ := i6_ev
  obtain ⟨s0, c1, c2⟩ := i5_out (tS := tS) 40 0 64 (sg5 tS) (by omega) (by omega) ⟨fun _ _ _ => rfl, fun p hp => absurd hp (Nat.not_lt_zero _), fun p q _ _ h => by omega⟩
  refine ⟨tS, s0, mS, t1, c1, m1, 0, 0, 0, fun _ => [], ?_, ?_⟩
  · have k : ∀ k, k ≠ 34 → ¬ (45 ≤ k ∧ k < 53) → s0 k = sg5 tS k := c2.1
    have hdu : ∀ d, d < 15 → s0 d = fun j => if j = 8 then 1 else 0 := fun d hd => by
      rw [k d (by omega) (by omega)]; unfold sg5; rw [if_pos hd]
    have hw : ∀ a b : Nat, a < 6 → b < 6 → s0 (53 + a) b = if a = b then 0 else 15 := fun a b ha hb => by
      rw [k (53 + a) (by omega) (by omega)]
      unfold sg5
      rw [if_neg (by omega), if_neg (by omega), if_neg (by omega), if_neg (by omega), if_neg (by omega), if_neg (by omega), show 53 + a - 47 = 6 + a by omega]
      exact t2.2 a b ha hb (Or.inl ha)
    have h32 : s0 32 2 = 30 := by rw [k 32 (by decide) (by decide)]; rfl
    refine ⟨by decide, ⟨?_, ?_, ?_⟩, ⟨fun t ht => absurd ht (Nat.not_lt_zero _), fun a b ha hb => ?_, by rw [h32]; decide⟩, fun v j hv hj => Or.inl (c2.2.2 v j hv hj (Or.inl hv)), fun t ht => Or.inl (c2.2.1 t ht), fun d hd => ⟨⟨List.Pairwise.nil, fun t => by simp⟩, ⟨?_, fun i hi => absurd hi (Nat.not_lt_zero _)⟩, fun j h2 h8 => ?_⟩, ?_, fun j h2 h8 => ?_⟩
    · rw [k 31 (by decide) (by decide)]
      show tS 0 5 = 0
      rw [t2.1 0 (by decide)]
    · rw [k 30 (by decide) (by decide)]; rfl
    · rw [k 30 (by decide) (by decide)]; rfl
    · rw [hw a b ha hb]
      split <;> decide
    · rw [hdu d (by omega)]; rfl
    · rw [hdu d (by omega)]; rfl
    · rw [hdu 14 (by decide)]; rfl
    · rw [hdu 14 (by decide)]; rfl
  · have k : ∀ k, k ≠ 34 → ¬ (45 ≤ k ∧ k < 53) → s0 k = sg5 tS k := c2.1
    have h32 : s0 32 = sg5 tS 32 := k 32 (by decide) (by decide)
    have h0 : mS 0 = sg6 0 := m2.1 0 (by decide) (by decide)
    refine ⟨⟨?_, ?_, ?_, ?_, fun a b ha hb => ?_, by rw [h0, h32]; rfl, by rw [h0, h32]; rfl, by rw [h0, h32]; rfl, by rw [h0, h32]; rfl⟩, ⟨by rw [h0]; rfl, by rw [h0]; rfl, by rw [h0]; rfl⟩, fun t ht => absurd ht (Nat.not_lt_zero _), fun v j hv hj => ?_⟩
    · rw [m2.1 2 (by decide) (by decide), k 41 (by decide) (by decide)]; exact (t2.1 2 (by decide)).symm
    · rw [m2.1 3 (by decide) (by decide), k 42 (by decide) (by decide)]; exact (t2.1 3 (by decide)).symm
    · rw [m2.1 4 (by decide) (by decide), k 43 (by decide) (by decide)]; exact (t2.1 4 (by decide)).symm
    · rw [m2.1 5 (by decide) (by decide), k 44 (by decide) (by decide)]; exact (t2.1 5 (by decide)).symm
    · have hs : sg5 tS (53 + a) b = if a = b then 0 else 15 := by
        unfold sg5
        rw [if_neg (by omega), if_neg (by omega), if_neg (by omega), if_neg (by omega), if_neg (by omega), if_neg (by omega), show 53 + a - 47 = 6 + a by omega]
        exact t2.2 a b ha hb (Or.inl ha)
      rw [m2.2.1 (6 * a + b) (by omega), k (53 + a) (by omega) (by omega), hs]
      by_cases e : a = b
      · rw [if_pos (by omega), if_pos e]
      · rw [if_neg (by omega), if_neg e]
    · rw [m2.2.2 (7 * v + j) (by omega)]; exact (c2.2.2 v j hv hj (Or.inl hv)).symm
