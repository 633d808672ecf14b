theorem best_both {E s : dd_S} {T D V t : Nat} {L : Nat → List Nat} (hC : CI E T D V L) (hM : MI E s T D V) (ht : t < T) : ∃ r s1 s2, f_X5_cheapestDuty E (nI t) = some (r, s1) ∧ f_X6_best s (nI t) = some (r, s2) ∧ FrS E s1 ∧ FrM s s2 ∧ (r = -1 ∨ ∃ e, e < D ∧ r = nI e ∧ Good s1 T V t e) := best_loop ht D 0 64 (-1) 0 E s (by omega) (by have := hC.1.2.1; omega) hC hM (Or.inl rfl)
theorem po_bestFor : PO_bestFor Inv := by
  intro sC sM a ⟨T, D, V, L, hC, hM⟩
  have hT := hC.1.1
  have hM0 := hM.thrown (v := 0)
  have e00 : st2 sM 0 0 0 0 0 = 0 := st2_s _ _ _ _
  unfold f_X5_bestFor f_X6_bestFor
  rw [lt_e, cTrip hC.2.1.1, bd_s, mTrip hM0.2.1.1 (by omega), bd_s]
  rcases rng_d a T (by omega) with ⟨h1, -, -⟩ | ⟨h1, -, -, t, ht, rfl⟩
  · rw [h1, if_pos rfl, if_pos rfl]
    exact ⟨1, 0, sC, 0, st2 (st2 sM 0 0 0) 0 0 1, rfl, Or.inr rfl, rfl, st2_s _ _ _ _, (fun h => absurd h (by decide)), Inv.mk2 hC hM0.thrown⟩
  · obtain ⟨r, s1, s2, r1, r2, r3, r4, -⟩ := best_both hC hM0 ht
    rw [h1, if_neg (show ¬ (1 : Int32) = 0 by decide), if_neg (show ¬ (1 : Int32) = 0 by decide), r1, bd2_s, r2, bd2_s]
    exact ⟨0, r, s1, r, s2, rfl, Or.inl rfl, rfl, (r4.2 0 (Or.inl rfl)).trans e00, fun _ => rfl, Inv.mk2 (hC.fr r3) ((hM0.fr r4).frC r3)⟩
