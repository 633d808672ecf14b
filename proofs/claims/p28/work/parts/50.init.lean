/-! THE START: what the constructors leave -/
def I4 (a b : Nat) (sg : dd_S) : Prop := (∀ k, k < 6 → sg k = fun _ => 0) ∧ ∀ p q : Nat, p < 6 → q < 6 → (p < a ∨ (p = a ∧ q < b)) → sg (6 + p) q = if p = q then 0 else 15
theorem I4.st {a b : Nat} {sg : dd_S} (h : I4 a b sg) (v : Int32) (hv : v = if a = b then 0 else 15) : I4 a (b + 1) (st2 sg (6 + a) b v) := by
  refine ⟨fun k hk => by rw [st2_k _ _ _ _ (by omega)]; exact h.1 k hk, fun p q hp hq hpq => ?_⟩
  rw [st2_at]
  by_cases e : p = a
  · subst e
    rw [if_pos rfl]
    by_cases e2 : q = b
    · subst e2; rw [if_pos rfl, hv]
    · rw [if_neg e2]; exact h.2 p q hp hq (by omega)
  · rw [if_neg (by omega)]; exact h.2 p q hp hq (by omega)
theorem i4_in {a : Nat} (ha : a < 6) {k : dd_S → Int32 → Option dd_S} : ∀ (q b n : Nat) (sg : dd_S), b + q = 6 → q < n → I4 a b sg → ∃ s2, f_X4_init_58 k n sg (nI a) (nI b) = k s2 (nI (a + 1)) ∧ I4 (a + 1) 0 s2 := by
  intro q
  induction q with
  | zero =>
    intro b n sg hb hn h
    obtain ⟨n, rfl⟩ : ∃ m, n = m + 1 := ⟨n - 1, by omega⟩
    have : b = 6 := by omega
    subst this
    unfold f_X4_init_58
    rw [if_pos (show (6 : Int32) ≤ nI 6 by decide), lt_e, nI_inc]
    exact ⟨sg, rfl, h.1, fun p q hp hq hpq => h.2 p q hp hq (by omega)⟩
  | succ q ih =>
    intro b n sg hb hn h
    obtain ⟨n, rfl⟩ : ∃ m, n = m + 1 := ⟨n - 1, by omega⟩
    unfold f_X4_init_58
    rw [if_neg (show ¬ (6 : Int32) ≤ nI b from nI_ge (b := 6) (by omega) (by omega)), gd_p (ix_ok ha (by decide)), nI_clamp (by omega), nI_clamp (by omega)]
    by_cases e : a = b
    · subst e
      rw [if_pos rfl, gd_p (ix_ok (by omega) (by decide))]
      simp only [lt_e]
      rw [nI_inc]
      exact ih (a + 1) n _ (by omega) (by omega) (h.st 0 (by rw [if_pos rfl]))
    · rw [if_neg (fun h9 => e (nI_inj (by omega) (by omega) h9)), gd_p (ix_ok (by omega) (by decide))]
      simp only [lt_e]
      rw [nI_inc]
      exact ih (b + 1) n _ (by omega) (by omega) (h.st 15 (by rw [if_neg e]))
theorem i4_out : ∀ (q a n : Nat) (sg : dd_S), a + q = 6 → q < n → I4 a 0 sg → ∃ s2, f_X4_init_50 n sg (nI a) = some s2 ∧ I4 6 0 s2 := by
  intro q
  induction q with
  | zero =>
    intro a n sg ha hn h
    obtain ⟨n, rfl⟩ : ∃ m, n = m + 1 := ⟨n - 1, by omega⟩
    have : a = 6 := by omega
    subst this
    unfold f_X4_init_50
    rw [if_pos (show (6 : Int32) ≤ nI 6 by decide)]
    exact ⟨sg, rfl, h⟩
  | succ q ih =>
    intro a n sg ha hn h
    obtain ⟨n, rfl⟩ : ∃ m, n = m + 1 := ⟨n - 1, by omega⟩
    unfold f_X4_init_50
    rw [if_neg (show ¬ (6 : Int32) ≤ nI a from nI_ge (b := 6) (by omega) (by omega))]
    obtain ⟨s1, a1, a2⟩ := i4_in (show a < 6 by omega) (k := fun zs z0 => f_X4_init_50 n zs z0) 6 0 64 sg (by omega) (by omega) h
    obtain ⟨s2, b1, b2⟩ := ih (a + 1) n s1 (by omega) (by omega) a2
    exact ⟨s2, a1.trans b1, b2⟩
theorem i4_ev : ∃ tS, f_X4_init_50 64 (fun _ _ => 0) 0 = some tS ∧ I4 6 0 tS := i4_out 6 0 64 (fun _ _ => 0) (by omega) (by omega) ⟨fun _ _ => rfl, fun p q _ _ h => by omega⟩
def I6 (i j : Nat) (sg : dd_S) : Prop := (∀ k, k ≠ 1 → k ≠ 7 → sg k = sg6 k) ∧ (∀ p, p < i → sg 1 p = if p / 6 = p % 6 then 0 else 15) ∧ ∀ p, p < j → sg 7 p = -1
theorem i6_d : ∀ i, i < 36 → ((nI i / (6 : Int32)) = (nI i - nI i / (6 : Int32) * (6 : Int32)) ↔ i / 6 = i % 6) := by decide +kernel
/-! the start: the desk, and what holds of both -/
def I5 (tS : dd_S) (i a b : Nat) (sg : dd_S) : Prop := (∀ k, k ≠ 34 → ¬ (45 ≤ k ∧ k < 53) → sg k = sg5 tS k) ∧ (∀ p, p < i → sg 34 p = -1) ∧ ∀ p q : Nat, p < 8 → q < 7 → (p < a ∨ (p = a ∧ q < b)) → sg (45 + p) q = -1
theorem i5_in {tS : dd_S} {a : Nat} (ha : a < 8) {k : dd_S → Int32 → Option dd_S} : ∀ (q b n : Nat) (sg : dd_S), b + q = 7 → q < n → I5 tS 40 a b sg → ∃ s2, f_X5_init_174 k n sg (nI a) (nI b) = k s2 (nI (a + 1)) ∧ I5 tS 40 (a + 1) 0 s2 := by
  intro q
  induction q with
  | zero =>
    intro b n sg hb hn h
    obtain ⟨n, rfl⟩ : ∃ m, n = m + 1 := ⟨n - 1, by omega⟩
    have : b = 7 := by omega
    subst this
    unfold f_X5_init_174
    rw [if_pos (show (7 : Int32) ≤ nI 7 by decide), lt_e, nI_inc]
    exact ⟨sg, rfl, h.1, h.2.1, fun p q hp hq hpq => h.2.2 p q hp hq (by omega)⟩
  | succ q ih =>
    intro b n sg hb hn h
    obtain ⟨n, rfl⟩ : ∃ m, n = m + 1 := ⟨n - 1, by omega⟩
    unfold f_X5_init_174
    rw [if_neg (show ¬ (7 : Int32) ≤ nI b from nI_ge (b := 7) (by omega) (by omega)), gd_p (ix_ok ha (by decide)), gd_p (ix_ok (by omega) (by decide)), nI_clamp (by omega), nI_clamp (by omega)]
    simp only [lt_e]
    rw [nI_inc]
    refine ih (b + 1) n _ (by omega) (by omega) ⟨fun k h1 h2 => by rw [st2_k _ _ _ _ (by omega)]; exact h.1 k h1 h2, fun p hp => by rw [st2_k _ _ _ _ (by omega)]; exact h.2.1 p hp, fun p r hp hr hpr => ?_⟩
    rw [st2_at]
    by_cases e : 45 + p = 45 + a
    · rw [if_pos e]
      by_cases e2 : r = b
      · rw [if_pos e2]
      · rw [if_neg e2, ← e]; exact h.2.2 p r hp hr (by omega)
    · rw [if_neg e]; exact h.2.2 p r hp hr (by omega)
theorem i5_mid {tS : dd_S} : ∀ (q a n : Nat) (sg : dd_S), a + q = 8 → q < n → I5 tS 40 a 0 sg → ∃ s2, f_X5_init_166 n sg (nI a) = some s2 ∧ I5 tS 40 8 0 s2 := by
  intro q
  induction q with
  | zero =>
    intro a n sg ha hn h
    obtain ⟨n, rfl⟩ : ∃ m, n = m + 1 := ⟨n - 1, by omega⟩
    have : a = 8 := by omega
    subst this
    unfold f_X5_init_166
    rw [if_pos (show (8 : Int32) ≤ nI 8 by decide)]
    exact ⟨sg, rfl, h⟩
  | succ q ih =>
    intro a n sg ha hn h
    obtain ⟨n, rfl⟩ : ∃ m, n = m + 1 := ⟨n - 1, by omega⟩
    unfold f_X5_init_166
    rw [if_neg (show ¬ (8 : Int32) ≤ nI a from nI_ge (b := 8) (by omega) (by omega))]
    obtain ⟨s1, a1, a2⟩ := i5_in (tS := tS) (show a < 8 by omega) (k := fun zs z0 => f_X5_init_166 n zs z0) 7 0 64 sg (by omega) (by omega) h
    obtain ⟨s2, b1, b2⟩ := ih (a + 1) n s1 (by omega) (by omega) a2
    exact ⟨s2, a1.trans b1, b2⟩
theorem i5_out {tS : dd_S} : ∀ (q i n : Nat) (sg : dd_S), i + q = 40 → q < n → I5 tS i 0 0 sg → ∃ s2, f_X5_init_142 n sg (nI i) = some s2 ∧ I5 tS 40 8 0 s2 := by
  intro q
  induction q with
  | zero =>
    intro i n sg hi hn h
    obtain ⟨n, rfl⟩ : ∃ m, n = m + 1 := ⟨n - 1, by omega⟩
    have : i = 40 := by omega
    subst this
    unfold f_X5_init_142
    rw [if_pos (show (40 : Int32) ≤ nI 40 by decide)]
    exact i5_mid 8 0 64 sg (by omega) (by omega) h
  | succ q ih =>
    intro i n sg hi hn h
    obtain ⟨n, rfl⟩ : ∃ m, n = m + 1 := ⟨n - 1, by omega⟩
    unfold f_X5_init_142
    rw [if_neg (show ¬ (40 : Int32) ≤ nI i from nI_ge (b := 40) (by omega) (by omega)), gd_p (ix_ok (by omega) (by decide)), nI_clamp (by omega), lt_e, lt_e, nI_inc]
    refine ih (i + 1) n _ (by omega) (by omega) ⟨fun k h1 h2 => by rw [st2_k _ _ _ _ h1]; exact h.1 k h1 h2, fun p hp => ?_, fun p r _ _ h9 => by omega⟩
    rw [st2_at, if_pos rfl]
    by_cases e : p = i
    · rw [if_pos e]
    · rw [if_neg e]; exact h.2.1 p (by omega)
