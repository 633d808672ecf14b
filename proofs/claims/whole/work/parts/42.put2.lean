/-! canPut -/
theorem canPut_ev {E s : dd_S} {T D V d t : Nat} {L : Nat → List Nat} (hC : CI E T D V L) (hM : MI E s T D V) (hd : d < 12) (ht : t < T) :
    (f_X6_canPut s (nI d) (nI t) = some (0, s) ∧ (E 34 t ≠ -1 ∨ Fxd E V (nI d) ∨ ∃ u, u ∈ L d ∧ E 43 u = E 43 t)) ∨
    (E 34 t = -1 ∧ ¬ Fxd E V (nI d) ∧ (∀ u, u ∈ L d → E 43 u ≠ E 43 t) ∧ ∀ l, IsRow (E 43) (upd (E 34) t (nI d)) T (nI d) l → ∃ s2, f_X6_canPut s (nI d) (nI t) = some (ftS E l 8, s2) ∧ FrM s s2 ∧ s2 0 20 = ftS E l 5) := by
  have hT := hC.1.1
  have h6 := hM.2.2.1 t ht
  have hL := hC.2.2.2.2.2.1 d hd
  have hhas : HasD (s 4) (s 6) T (nI d) t ↔ ∃ u, u ∈ L d ∧ E 43 u = E 43 t := by
    unfold HasD
    rw [hM.1.2.2.1]
    constructor
    · rintro ⟨u, h1, h2, h3⟩
      exact ⟨u, (hL.1.2 u).mpr ⟨h1, (hM.2.2.1 u h1).symm.trans h2⟩, h3⟩
    · rintro ⟨u, h1, h3⟩
      have := (hL.1.2 u).mp h1
      exact ⟨u, this.1, (hM.2.2.1 u this.1).trans this.2, h3⟩
  unfold f_X6_canPut
  rw [gd_p (ix_ok (by omega) (by decide)), nI_clamp (by omega), h6]
  by_cases c1 : E 34 t = -1
  · rw [if_pos c1]
    rcases fix_both (nI d) hC hM with ⟨-, g2, g3⟩ | ⟨-, g2, g3⟩
    · rw [g2, bd_s, if_neg (by decide)]
      exact Or.inl ⟨rfl, Or.inr (Or.inl g3)⟩
    · rw [g2, bd_s, if_pos rfl]
      rcases mHas (nI d) hT hM.2.1.1 (show t < 40 by omega) with ⟨k1, k2⟩ | ⟨k1, k2⟩
      · rw [k1, bd_s, if_neg (by decide)]
        exact Or.inl ⟨rfl, Or.inr (Or.inr (hhas.mp k2))⟩
      · rw [k1, bd_s, if_pos rfl, gd_p (ix_ok (by omega) (by decide)), lt_e]
        refine Or.inr ⟨c1, g3, fun u hu e => k2 (hhas.mpr ⟨u, hu, e⟩), fun l hl => ?_⟩
        obtain ⟨s2, a1, a2⟩ := mlook2 hC hM ht hl
        rw [a1, bd2_s, gd_p (ix_ok (by omega) (by decide)), lt_e, gd_p ft8]
        exact ⟨_, rfl, back_fr a2 (h6.trans c1), by rw [st2_k _ _ _ _ (show 0 ≠ 6 by decide)]; exact a2.2.2.2.1 5 (by decide) (by decide)⟩
  · rw [if_neg c1]
    exact Or.inl ⟨rfl, Or.inl c1⟩
