/-! setWay -/
theorem po_setWay : PO_setWay Inv := by
  intro sC sM a b m ⟨T, D, V, L, hC, hM⟩
  have hD := hC.1.2.1
  have hM0 := hM.thrown (v := 0)
  have e00 : st2 sM 0 0 0 0 0 = 0 := st2_s _ _ _ _
  have hno1 : ∃ (k0 : Nat) (r0 : Int32) (sC2 : dd_S) (bb : Int32) (sM2 : dd_S), f_X5_setWay_14 a b m sC = some (k0, r0, sC2) ∧ (k0 = 0 ∨ k0 = 1 ∨ k0 = 2) ∧ f_X6_setWay_19 a b m (st2 sM 0 0 0) = some (bb, sM2) ∧ sM2 0 0 = (if k0 = 0 then 0 else if k0 = 1 then 1 else 2) ∧ (k0 = 0 → r0 = bb) ∧ Inv sC2 sM2 := ⟨1, 0, sC, 0, st2 (st2 sM 0 0 0) 0 0 1, rfl, Or.inr (Or.inl rfl), rfl, st2_s _ _ _ _, (fun h => absurd h (by decide)), Inv.mk2 hC hM0.thrown⟩
  have hno2 : ∃ (k0 : Nat) (r0 : Int32) (sC2 : dd_S) (bb : Int32) (sM2 : dd_S), f_X5_setWay_40 a b m sC = some (k0, r0, sC2) ∧ (k0 = 0 ∨ k0 = 1 ∨ k0 = 2) ∧ f_X6_setWay_40 a b m (st2 sM 0 0 0) = some (bb, sM2) ∧ sM2 0 0 = (if k0 = 0 then 0 else if k0 = 1 then 1 else 2) ∧ (k0 = 0 → r0 = bb) ∧ Inv sC2 sM2 := ⟨2, 0, sC, 0, st2 (st2 sM 0 0 0) 0 0 2, rfl, Or.inr (Or.inr rfl), rfl, st2_s _ _ _ _, (fun h => absurd h (by decide)), Inv.mk2 hC hM0.thrown⟩
  have z : ¬ (1 : Int32) = 0 := by decide
  unfold f_X5_setWay f_X6_setWay
  rw [lt_e (st2 sM 0 0 0), cPoint, bd_s, mPoint, bd_s]
  rcases rng_d a 6 (by decide) with ⟨h1, -, -⟩ | ⟨h1, -, -, x, hx, rfl⟩
  · rw [h1, if_pos rfl, if_pos rfl]; exact hno1
  rw [h1, if_neg z, if_neg z, cPoint, bd_s, mPoint, bd_s]
  rcases rng_d b 6 (by decide) with ⟨g1, -, -⟩ | ⟨g1, -, -, y, hy, rfl⟩
  · rw [g1, if_pos rfl, if_pos rfl]; exact hno1
  rw [g1, if_neg z, if_neg z]
  by_cases c1 : nI x = nI y
  · rw [if_pos c1, if_pos c1]; exact hno2
  have hxy : x ≠ y := fun e => c1 (by rw [e])
  rw [if_neg c1, if_neg c1, mRng, bd_s]
  by_cases c2 : m < 1
  · rw [if_pos c2, if_pos c2, if_pos rfl]; exact hno2
  rw [if_neg c2, if_neg c2]
  by_cases c3 : 90 < m
  · rw [if_neg (i32_nle.mpr c3), if_pos c3, if_pos rfl]; exact hno2
  rw [if_pos (i32_nlt.mp c3), if_neg c3, if_neg z, way_ev hx hy, bd_s]
  have hch : f_X4_changeWay sC (nI x) (nI y) m = some (st2 (st2 sC (53 + x) y m) (53 + y) x m) := by
    unfold f_X4_changeWay
    rw [if_neg (nI_pos (by omega)), if_neg (show ¬ (6 : Int32) ≤ _ from nI_ge (b := 6) hx (by decide)), if_neg (nI_pos (by omega)), if_neg (show ¬ (6 : Int32) ≤ _ from nI_ge (b := 6) hy (by decide)), gd_p (ix_ok hx (by decide)), gd_p (ix_ok hy (by decide)), nI_clamp (by omega), nI_clamp (by omega), lt_e, gd_p (ix_ok hy (by decide)), gd_p (ix_ok hx (by decide)), lt_e]
    rfl
  rw [hch, bd_s, show (6 : Int32) = nI 6 from rfl, nI_mul, nI_mul, nI_add, nI_add, gd_p (ix_ok (by omega) (by decide)), nI_clamp (by omega), nI_clamp (by omega)]
  simp only [lt_e]
  rw [gd_p (ix_ok (by omega) (by decide)), gd_p (ix_ok (by omega) (by decide))]
  generalize hE2 : st2 (st2 sC (53 + x) y m) (53 + y) x m = E2
  generalize hS2 : st2 (st2 (st2 sM 0 0 0) 1 (6 * x + y) m) 1 (6 * y + x) m = S2
  have k1 : ∀ k, k < 53 → E2 k = sC k := fun k hk => by rw [← hE2, st2_k _ _ _ _ (show k ≠ 53 + y by omega), st2_k _ _ _ _ (show k ≠ 53 + x by omega)]
  have k2 : ∀ p q : Nat, E2 (53 + p) q = if p = y ∧ q = x then m else if p = x ∧ q = y then m else sC (53 + p) q := fun p q => by
    rw [← hE2, st2_at]
    by_cases e : p = y
    · subst e
      rw [if_pos rfl]
      by_cases e2 : q = x
      · rw [if_pos e2, if_pos ⟨rfl, e2⟩]
      · rw [if_neg e2, if_neg (fun h => e2 h.2), if_neg (fun h => hxy h.1.symm), st2_k _ _ _ _ (by omega)]
    · rw [if_neg (by omega), if_neg (fun h => e h.1), st2_at]
      by_cases e3 : p = x
      · subst e3
        rw [if_pos rfl]
        by_cases e4 : q = y
        · rw [if_pos e4, if_pos ⟨rfl, e4⟩]
        · rw [if_neg e4, if_neg (fun h => e4 h.2)]
      · rw [if_neg (by omega), if_neg (fun h => e3 h.1)]
  have m1 : ∀ k, k ≠ 0 → k ≠ 1 → S2 k = sM k := fun k h0 h1 => by rw [← hS2, st2_k _ _ _ _ h1, st2_k _ _ _ _ h1, st2_k _ _ _ _ h0]
  have m0 : ∀ j, S2 0 j = st2 sM 0 0 0 0 j := fun j => by rw [← hS2, st2_k _ _ _ _ (show 0 ≠ 1 by decide), st2_k _ _ _ _ (show 0 ≠ 1 by decide)]
  have m2 : ∀ p q : Nat, p < 6 → q < 6 → S2 1 (6 * p + q) = if p = y ∧ q = x then m else if p = x ∧ q = y then m else sM 1 (6 * p + q) := fun p q hp hq => by
    rw [← hS2, st2_at, if_pos rfl, st2_at, if_pos rfl, st2_k _ _ _ _ (show 1 ≠ 0 by decide)]
    by_cases e : p = y ∧ q = x
    · rw [if_pos (by omega), if_pos e]
    · rw [if_neg (by omega), if_neg e]
      by_cases e2 : p = x ∧ q = y
      · rw [if_pos (by omega), if_pos e2]
      · rw [if_neg (by omega), if_neg e2]
  have hB0 := hC.2.2.1
  have hmb : 0 ≤ m.toInt ∧ m.toInt ≤ 90 := by
    have q1 := Int32.le_iff_toInt_le.mp (i32_nlt.mp c2)
    have q2 := Int32.le_iff_toInt_le.mp (i32_nlt.mp c3)
    have e1 : (1 : Int32).toInt = 1 := by decide
    have e9 : (90 : Int32).toInt = 90 := by decide
    omega
  have hB : EnvB E2 T := by
    refine ⟨fun t ht => ?_, fun p q hp hq => ?_, ?_⟩
    · have := hB0.1 t ht
      refine ⟨⟨this.1.1, by rw [k1 41 (by decide)]; exact this.1.2.1, by rw [k1 42 (by decide)]; exact this.1.2.2⟩, ?_⟩
      rw [k1 43 (by decide), k1 44 (by decide)]; exact this.2
    · rw [k2]
      split
      · exact hmb
      · split
        · exact hmb
        · exact hB0.2.1 p q hp hq
    · rw [k1 32 (by decide)]; exact hB0.2.2
  obtain ⟨s2, a1, a2, a3⟩ := hC.again (E2 := E2) (fun k _ h => k1 k (by omega)) hB
  rw [a1, bd_s]
  have hMs : MI s2 S2 T D V := by
    obtain ⟨l1, l2, l3, l4, l5, l6, l7, l8, l9⟩ := hM0.1
    refine ⟨⟨?_, ?_, ?_, ?_, fun p q hp hq => ?_, ?_, ?_, ?_, ?_⟩, ⟨by rw [m0]; exact hM0.2.1.1, by rw [m0]; exact hM0.2.1.2.1, by rw [m0]; exact hM0.2.1.2.2⟩, fun t ht => by rw [m1 6 (by decide) (by decide), a3 34 (by decide), k1 34 (by decide)]; exact hM.2.2.1 t ht, fun v k hv hk => by rw [m1 7 (by decide) (by decide), a3 (45 + v) (by omega), k1 (45 + v) (by omega)]; exact hM.2.2.2 v k hv hk⟩
    · rw [m1 2 (by decide) (by decide), a3 41 (by decide), k1 41 (by decide)]; exact l1
    · rw [m1 3 (by decide) (by decide), a3 42 (by decide), k1 42 (by decide)]; exact l2
    · rw [m1 4 (by decide) (by decide), a3 43 (by decide), k1 43 (by decide)]; exact l3
    · rw [m1 5 (by decide) (by decide), a3 44 (by decide), k1 44 (by decide)]; exact l4
    · rw [m2 p q hp hq, a3 (53 + p) (by omega), k2]
      split
      · rfl
      · split
        · rfl
        · exact l5 p q hp hq
    · rw [m0, a3 32 (by decide), k1 32 (by decide)]; exact l6
    · rw [m0, a3 32 (by decide), k1 32 (by decide)]; exact l7
    · rw [m0, a3 32 (by decide), k1 32 (by decide)]; exact l8
    · rw [m0, a3 32 (by decide), k1 32 (by decide)]; exact l9
  refine ⟨0, _, s2, _, S2, rfl, Or.inl rfl, rfl, (m0 0).trans e00, fun _ => ?_, Inv.mk2 a2 hMs⟩
  unfold wy
  rw [nI_clamp (by omega), nI_clamp (by omega)]
  exact (hM0.1.2.2.2.2.1 x y hx hy).symm
