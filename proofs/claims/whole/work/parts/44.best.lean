/-! the best duty for a trip -/
theorem put_both {E s : dd_S} {T D V d t : Nat} {L : Nat → List Nat} (hC : CI E T D V L) (hM : MI E s T D V) (hd : d < 12) (ht : t < T) :
    (∃ s1, f_X5_tryPut E (nI d) (nI t) = some (0, s1) ∧ FrS E s1 ∧ f_X6_canPut s (nI d) (nI t) = some (0, s)) ∨
    (E 34 t = -1 ∧ ¬ Fxd E V (nI d) ∧ ∃ l s1 s2, IsRow (E 43) (upd (E 34) t (nI d)) T (nI d) l ∧ f_X5_tryPut E (nI d) (nI t) = some (ftS E l 8, s1) ∧ FrS E s1 ∧ DutyAt s1 12 l ∧ (∀ j, 2 ≤ j → j ≤ 8 → s1 12 j = ftS E l j) ∧ f_X6_canPut s (nI d) (nI t) = some (ftS E l 8, s2) ∧ FrM s s2 ∧ s2 0 20 = ftS E l 5) := by
  rcases tryPut_ev hC hd ht with ⟨s1, a1, a2, a3⟩ | ⟨a1, a2, a3, l, s1, b1, b2, b3, b4, b5⟩ <;> rcases canPut_ev hC hM hd ht with ⟨c1, c2⟩ | ⟨c1, c2, c3, c4⟩
  · exact Or.inl ⟨s1, a1, a2, c1⟩
  · rcases a3 with h | h | ⟨u, hu, e⟩
    · exact absurd c1 h
    · exact absurd h c2
    · exact absurd e (c3 u hu)
  · rcases c2 with h | h | ⟨u, hu, e⟩
    · exact absurd a1 h
    · exact absurd h a2
    · exact absurd e (a3 u hu)
  · obtain ⟨s2, d1, d2, d3⟩ := c4 l b1
    exact Or.inr ⟨a1, a2, l, s1, s2, b1, b2, b3, b4, b5, d1, d2, d3⟩
/-- the trip may be put into the duty, and the duty stays right -/
def Good (E : dd_S) (T V t e : Nat) : Prop := E 34 t = -1 ∧ ¬ Fxd E V (nI e) ∧ ∃ l, IsRow (E 43) (upd (E 34) t (nI e)) T (nI e) l ∧ ftS E l 8 ≠ 0
theorem Good.fr {E E2 : dd_S} {T V t e : Nat} (hf : FrS E E2) (h : Good E T V t e) : Good E2 T V t e := by
  obtain ⟨h1, h2, l, h3, h4⟩ := h
  refine ⟨by rw [hf 34 (by unfold Scr; omega)]; exact h1, fun ⟨k, hk, v, hv, e⟩ => h2 ⟨k, hk, v, hv, ?_⟩, l, by rw [hf.env.p.2.2.1, hf 34 (by unfold Scr; omega)]; exact h3, by rw [hf.env.ft]; exact h4⟩
  rw [← hf (45 + v) (by unfold Scr; omega)]; exact e
theorem best_loop {T D V t : Nat} {L : Nat → List Nat} (ht : t < T) : ∀ (q d n : Nat) (b c : Int32) (E s : dd_S), d + q = D → q < n → CI E T D V L → MI E s T D V → (b = -1 ∨ ∃ e, e < D ∧ b = nI e ∧ Good E T V t e) →
    ∃ r s1 s2, f_X5_cheapestDuty_7 (nI t) n E b c (nI d) = some (r, s1) ∧ f_X6_best_7 (nI t) n s b c (nI d) = some (r, s2) ∧ FrS E s1 ∧ FrM s s2 ∧ (r = -1 ∨ ∃ e, e < D ∧ r = nI e ∧ Good s1 T V t e) := by
  intro q
  induction q with
  | zero =>
    intro d n b c E s hd hn hC hM hb
    have hD := hC.1.2.1
    obtain ⟨n, rfl⟩ : ∃ m, n = m + 1 := ⟨n - 1, by omega⟩
    unfold f_X5_cheapestDuty_7 f_X6_best_7
    rw [hC.2.1.2.1, hM.2.1.2.1, if_pos ((nI_le_iff (by omega) (by omega)).mpr (by omega)), if_pos ((nI_le_iff (by omega) (by omega)).mpr (by omega))]
    exact ⟨b, E, s, rfl, rfl, FrS.refl, FrM.refl, hb⟩
  | succ q ih =>
    intro d n b c E s hd hn hC hM hb
    have hD := hC.1.2.1
    obtain ⟨n, rfl⟩ : ∃ m, n = m + 1 := ⟨n - 1, by omega⟩
    obtain ⟨sp, p1, p2⟩ := mpay hC hM (show d < 12 by omega)
    have hMp := hM.fr p2
    unfold f_X5_cheapestDuty_7 f_X6_best_7
    rw [hC.2.1.2.1, hM.2.1.2.1, if_neg (nI_ge (by omega) (by omega)), if_neg (nI_ge (by omega) (by omega)), p1, bd2_s]
    have skip : ∀ s1 s2, FrS E s1 → FrM s s2 → ∃ r s1' s2', f_X5_cheapestDuty_62 (nI t) (fun zs z0 z1 z2 => f_X5_cheapestDuty_7 (nI t) n zs z0 z1 z2) s1 b c (nI d) = some (r, s1') ∧ f_X6_best_67 (nI t) (fun zs z0 z1 z2 => f_X6_best_7 (nI t) n zs z0 z1 z2) s2 b c (nI d) = some (r, s2') ∧ FrS E s1' ∧ FrM s s2' ∧ (r = -1 ∨ ∃ e, e < D ∧ r = nI e ∧ Good s1' T V t e) := fun s1 s2 h1 h2 => by
      unfold f_X5_cheapestDuty_62 f_X6_best_67
      rw [lt_e, lt_e, nI_inc]
      obtain ⟨r, s3, s4, r1, r2, r3, r4, r5⟩ := ih (d + 1) n b c s1 s2 (by omega) (by omega) (hC.fr h1) ((hM.fr h2).frC h1) (hb.imp id (fun ⟨e, h3, h4, h5⟩ => ⟨e, h3, h4, h5.fr h1⟩))
      exact ⟨r, s3, s4, r1, r2, h1.trans r3, h2.trans r4, r5⟩
    have take : ∀ (s1 s2 : dd_S) (x : Int32), FrS E s1 → FrM s s2 → Good E T V t d → ∃ r s1' s2', f_X5_cheapestDuty_62 (nI t) (fun zs z0 z1 z2 => f_X5_cheapestDuty_7 (nI t) n zs z0 z1 z2) s1 (nI d) x (nI d) = some (r, s1') ∧ f_X6_best_67 (nI t) (fun zs z0 z1 z2 => f_X6_best_7 (nI t) n zs z0 z1 z2) s2 (nI d) x (nI d) = some (r, s2') ∧ FrS E s1' ∧ FrM s s2' ∧ (r = -1 ∨ ∃ e, e < D ∧ r = nI e ∧ Good s1' T V t e) := fun s1 s2 x h1 h2 hg => by
      unfold f_X5_cheapestDuty_62 f_X6_best_67
      rw [lt_e, lt_e, nI_inc]
      obtain ⟨r, s3, s4, r1, r2, r3, r4, r5⟩ := ih (d + 1) n (nI d) x s1 s2 (by omega) (by omega) (hC.fr h1) ((hM.fr h2).frC h1) (Or.inr ⟨d, by omega, rfl, hg.fr h1⟩)
      exact ⟨r, s3, s4, r1, r2, h1.trans r3, h2.trans r4, r5⟩
    rcases put_both hC hMp (show d < 12 by omega) ht with ⟨s1, a1, a2, a3⟩ | ⟨g1, g2, l, s1, s2, b1, b2, b3, b4, b5, b6, b7, b8⟩
    · rw [a1, bd2_s, if_pos rfl, a3, bd2_s, if_pos rfl]
      exact skip s1 sp a2 p2
    · rw [b2, bd2_s, b6, bd2_s]
      by_cases c0 : ftS E l 8 = 0
      · rw [if_pos c0, if_pos c0]
        exact skip s1 s2 b3 (p2.trans b7)
      · have hsd : s1 d = E d := b3 d (by unfold Scr; omega)
        rw [if_neg c0, if_neg c0, dat_ev (by omega), bd_s, lt_e, b5 5 (by decide) (by decide), hsd, b8]
        unfold f_X5_cheapestDuty_56 f_X6_best_56
        simp only [lt_e]
        rw [b8]
        by_cases c1 : b = -1
        · rw [if_pos c1, if_pos c1]
          exact take s1 s2 _ b3 (p2.trans b7) ⟨g1, g2, l, b1, c0⟩
        · rw [if_neg c1, if_neg c1]
          by_cases c2 : c ≤ ftS E l 5 - E d 5
          · rw [if_pos c2, if_neg (i32_nlt.mpr c2)]
            exact skip s1 s2 b3 (p2.trans b7)
          · rw [if_neg c2, if_pos (i32_nle.mp c2)]
            exact take s1 s2 _ b3 (p2.trans b7) ⟨g1, g2, l, b1, c0⟩
