/-! THE CALLS ON REASONS; a duty's facts -/
theorem rsn_both {E s : dd_S} {T D V v d k : Nat} {L : Nat → List Nat} (hC : CI E T D V L) (hM : MI E s T D V) (hv : v < 8) (hd : d < 12) (hk : k < 7) : ∃ r s2, f_X5_reasonAgainst E (nI v) (nI k) (nI d) = some r ∧ f_X6_reasonFor s (nI v) (nI k) (nI d) = some (r, s2) ∧ FrM s s2 := by
  obtain ⟨s2, a1, a2⟩ := mlook hC hM hd
  have hM2 := hM.fr a2.fr
  have hL := hC.2.2.2.2.2.1 d hd
  have h16 : s2 0 16 = E d 1 := a2.2.2.1.trans hL.2.1.1.symm
  have h23 : s2 0 23 = E d 8 := (a2.2.2.2.1 8 (by decide) (by decide)).trans (hL.2.2 8 (by decide) (by decide)).symm
  have h20 : s2 0 20 = E d 5 := (a2.2.2.2.1 5 (by decide) (by decide)).trans (hL.2.2 5 (by decide) (by decide)).symm
  unfold f_X5_reasonAgainst f_X6_reasonFor
  rw [dat_ev hd, bd_s, a1, bd2_s, h16, h23, h20]
  by_cases c1 : E d 1 = 0
  · rw [if_pos c1, if_pos c1]; exact ⟨1, s2, rfl, rfl, a2.fr⟩
  · rw [if_neg c1, if_neg c1]
    by_cases c2 : E d 8 = 0
    · rw [if_pos c2, if_pos c2]; exact ⟨2, s2, rfl, rfl, a2.fr⟩
    · rw [if_neg c2, if_neg c2]
      rcases had_both (nI d) hC hM2 hk with ⟨g1, g2, -⟩ | ⟨g1, g2, -⟩
      · rw [g1, bd_s, g2, bd_s, if_neg (show ¬ (1 : Int32) = 0 by decide), if_neg (show ¬ (1 : Int32) = 0 by decide)]
        exact ⟨3, s2, rfl, rfl, a2.fr⟩
      · rw [g1, bd_s, g2, bd_s, if_pos rfl, if_pos rfl, don_ev hv hk, bd_s, mAt hM2 hv hk, bd_s]
        by_cases c3 : E (45 + v) k = -1
        · rw [if_pos c3, if_pos c3]
          obtain ⟨x, y, x1, y1, xy⟩ := row_both hM2 hv hk
          rw [x1, bd_s, y1, bd_s]
          by_cases c4 : x < 6
          · rw [if_pos c4, if_pos (xy.mp c4)]
            obtain ⟨w, s3, w1, w2, w3⟩ := week_ev hC hM2 hv
            rw [w1, bd_s, w2, bd2_s]
            by_cases c5 : w + E d 5 ≤ 2880
            · rw [if_pos c5, if_pos c5]
              obtain ⟨r, s4, r1, r2, r3⟩ := rest_both hC (hM2.fr w3) hv hd (nI k)
              rw [r1, bd_s, r2, bd2_s]
              by_cases c6 : r = 0
              · rw [if_pos c6, if_pos c6]; exact ⟨7, s4, rfl, rfl, (a2.fr.trans w3).trans r3⟩
              · rw [if_neg c6, if_neg c6]; exact ⟨0, s4, rfl, rfl, (a2.fr.trans w3).trans r3⟩
            · rw [if_neg c5, if_neg c5]; exact ⟨6, s3, rfl, rfl, a2.fr.trans w3⟩
          · rw [if_neg c4, if_neg (fun h => c4 (xy.mpr h))]; exact ⟨5, s2, rfl, rfl, a2.fr⟩
        · rw [if_neg c3, if_neg c3]; exact ⟨4, s2, rfl, rfl, a2.fr⟩
theorem po_reason : PO_reason Inv := by
  intro sC sM a b c ⟨T, D, V, L, hC, hM⟩
  have hV := hC.1.2.2
  have hD := hC.1.2.1
  have hM0 := hM.thrown (v := 0)
  have e00 : st2 sM 0 0 0 0 0 = 0 := st2_s _ _ _ _
  have hno : ∃ (k0 : Nat) (r0 : Int32) (sC2 : dd_S) (bb : Int32) (sM2 : dd_S), f_X5_reason_23 a b c sC = some (k0, r0, sC2) ∧ (k0 = 0 ∨ k0 = 1) ∧ f_X6_reason_38 a b c (st2 sM 0 0 0) = some (bb, sM2) ∧ sM2 0 0 = (if k0 = 0 then 0 else 1) ∧ (k0 = 0 → r0 = bb) ∧ Inv sC2 sM2 := ⟨1, 0, sC, 0, st2 (st2 sM 0 0 0) 0 0 1, rfl, Or.inr rfl, rfl, st2_s _ _ _ _, (fun h => absurd h (by decide)), Inv.mk2 hC hM0.thrown⟩
  unfold f_X5_reason f_X6_reason
  rw [lt_e, cDriver hC.2.1.2.2, bd_s, mDriver hM0.2.1.2.2 (by omega), bd_s]
  rcases rng_d a V (by omega) with ⟨h1, -, -⟩ | ⟨h1, -, -, v, hv, rfl⟩
  · rw [h1, if_pos rfl, if_pos rfl]; exact hno
  · rw [h1, if_neg (show ¬ (1 : Int32) = 0 by decide), if_neg (show ¬ (1 : Int32) = 0 by decide), cDay, bd_s, mDay, bd_s]
    rcases rng_d b 7 (by decide) with ⟨g1, -, -⟩ | ⟨g1, -, -, k, hk, rfl⟩
    · rw [g1, if_pos rfl, if_pos rfl]; exact hno
    · rw [g1, if_neg (show ¬ (1 : Int32) = 0 by decide), if_neg (show ¬ (1 : Int32) = 0 by decide), cDuty hC.2.1.2.1, bd_s, mDuty hM0.2.1.2.1 (by omega), bd_s]
      rcases rng_d c D (by omega) with ⟨f1, -, -⟩ | ⟨f1, -, -, d, hd, rfl⟩
      · rw [f1, if_pos rfl, if_pos rfl]; exact hno
      · obtain ⟨r, s2, r1, r2, r3⟩ := rsn_both hC hM0 (show v < 8 by omega) (show d < 12 by omega) hk
        rw [f1, if_neg (show ¬ (1 : Int32) = 0 by decide), if_neg (show ¬ (1 : Int32) = 0 by decide), r1, bd_s, r2, bd2_s]
        exact ⟨0, r, sC, r, s2, rfl, Or.inl rfl, rfl, (r3.2 0 (Or.inl rfl)).trans e00, fun _ => rfl, Inv.mk2 hC (hM0.fr r3)⟩
theorem po_give : PO_give Inv := by
  intro sC sM a b c ⟨T, D, V, L, hC, hM⟩
  have hV := hC.1.2.2
  have hD := hC.1.2.1
  have hM0 := hM.thrown (v := 0)
  have e00 : st2 sM 0 0 0 0 0 = 0 := st2_s _ _ _ _
  have hno : ∃ (k0 : Nat) (r0 : Int32) (sC2 : dd_S) (bb : Int32) (sM2 : dd_S), f_X5_give_23 a b c sC = some (k0, r0, sC2) ∧ (k0 = 0 ∨ k0 = 1 ∨ k0 = 3) ∧ f_X6_give_28 a b c (st2 sM 0 0 0) = some (bb, sM2) ∧ sM2 0 0 = (if k0 = 0 then 0 else if k0 = 1 then 1 else 2) ∧ (k0 = 0 → r0 = bb) ∧ Inv sC2 sM2 := ⟨1, 0, sC, 0, st2 (st2 sM 0 0 0) 0 0 1, rfl, Or.inr (Or.inl rfl), rfl, st2_s _ _ _ _, (fun h => absurd h (by decide)), Inv.mk2 hC hM0.thrown⟩
  unfold f_X5_give f_X6_give
  rw [lt_e, cDriver hC.2.1.2.2, bd_s, mDriver hM0.2.1.2.2 (by omega), bd_s]
  rcases rng_d a V (by omega) with ⟨h1, -, -⟩ | ⟨h1, -, -, v, hv, rfl⟩
  · rw [h1, if_pos rfl, if_pos rfl]; exact hno
  · rw [h1, if_neg (show ¬ (1 : Int32) = 0 by decide), if_neg (show ¬ (1 : Int32) = 0 by decide), cDay, bd_s, mDay, bd_s]
    rcases rng_d b 7 (by decide) with ⟨g1, -, -⟩ | ⟨g1, -, -, k, hk, rfl⟩
    · rw [g1, if_pos rfl, if_pos rfl]; exact hno
    · rw [g1, if_neg (show ¬ (1 : Int32) = 0 by decide), if_neg (show ¬ (1 : Int32) = 0 by decide), cDuty hC.2.1.2.1, bd_s, mDuty hM0.2.1.2.1 (by omega), bd_s]
      rcases rng_d c D (by omega) with ⟨f1, -, -⟩ | ⟨f1, -, -, d, hd, rfl⟩
      · rw [f1, if_pos rfl, if_pos rfl]; exact hno
      · obtain ⟨r, s2, r1, r2, r3⟩ := rsn_both hC hM0 (show v < 8 by omega) (show d < 12 by omega) hk
        have hM2 := hM0.fr r3
        rw [f1, if_neg (show ¬ (1 : Int32) = 0 by decide), if_neg (show ¬ (1 : Int32) = 0 by decide), r1, bd_s, r2, bd2_s]
        by_cases c6 : r = 0
        · have hC3 := hC.roster (v := v) (k := k) (x := nI d) (by omega) hk (Or.inr ⟨d, hd, rfl⟩)
          have hM3 := hM2.roster (v := v) (k := k) (x := nI d) (by omega) hk
          obtain ⟨w, s4, w1, w2, w3⟩ := week_ev hC3 hM3 (show v < 8 by omega)
          rw [if_pos c6, if_pos c6, ent_ev (by omega) hk, bd_s, w1, bd_s, show (7 : Int32) = nI 7 from rfl, nI_mul, nI_add, gd_p (ix_ok (by omega) (by decide)), lt_e, nI_clamp (by omega), w2, bd2_s]
          exact ⟨0, w, _, w, s4, rfl, Or.inl rfl, rfl, by rw [w3.2 0 (Or.inl rfl), st2_k _ _ _ _ (show 0 ≠ 7 by decide), r3.2 0 (Or.inl rfl)]; exact e00, fun _ => rfl, Inv.mk2 hC3 (hM3.fr w3)⟩
        · rw [if_neg c6, if_neg c6, no_ev, bd2_s]
          exact ⟨3, 0, sC, 0, st2 s2 0 0 2, rfl, Or.inr (Or.inr rfl), rfl, st2_s _ _ _ _, (fun h => absurd h (by decide)), Inv.mk2 hC hM2.thrown⟩
theorem m16 (s : dd_S) (b : Int32) : f_X6_isIn s b 1 6 = some (if b < 1 then 0 else if 6 < b then 0 else 1) := by
  unfold f_X6_isIn
  split
  · rfl
  · split <;> rfl
theorem po_rest : PO_rest Inv := by
  intro sC sM a b ⟨T, D, V, L, hC, hM⟩
  have hV := hC.1.2.2
  have hD := hC.1.2.1
  have hM0 := hM.thrown (v := 0)
  have e00 : st2 sM 0 0 0 0 0 = 0 := st2_s _ _ _ _
  have hno : ∃ (k0 : Nat) (r0 : Int32) (sC2 : dd_S) (bb : Int32) (sM2 : dd_S), f_X5_rest_19 a b sC = some (k0, r0, sC2) ∧ (k0 = 0 ∨ k0 = 1) ∧ f_X6_rest_23 a b (st2 sM 0 0 0) = some (bb, sM2) ∧ sM2 0 0 = (if k0 = 0 then 0 else 1) ∧ (k0 = 0 → r0 = bb) ∧ Inv sC2 sM2 := ⟨1, 0, sC, 0, st2 (st2 sM 0 0 0) 0 0 1, rfl, Or.inr rfl, rfl, st2_s _ _ _ _, (fun h => absurd h (by decide)), Inv.mk2 hC hM0.thrown⟩
  have hyes : ∀ (x : Int32) (s2 : dd_S), FrM (st2 sM 0 0 0) s2 → ∃ (k0 : Nat) (r0 : Int32) (sC2 : dd_S) (bb : Int32) (sM2 : dd_S), f_X5_rest_69 a b sC x = some (k0, r0, sC2) ∧ (k0 = 0 ∨ k0 = 1) ∧ f_X6_rest_73 a b s2 x = some (bb, sM2) ∧ sM2 0 0 = (if k0 = 0 then 0 else 1) ∧ (k0 = 0 → r0 = bb) ∧ Inv sC2 sM2 := fun x s2 hf => ⟨0, x, sC, x, s2, rfl, Or.inl rfl, rfl, (hf.2 0 (Or.inl rfl)).trans e00, fun _ => rfl, Inv.mk2 hC (hM0.fr hf)⟩
  unfold f_X5_rest f_X6_rest
  rw [lt_e, cDriver hC.2.1.2.2, bd_s, mDriver hM0.2.1.2.2 (by omega), bd_s]
  rcases rng_d a V (by omega) with ⟨h1, -, -⟩ | ⟨h1, -, -, v, hv, rfl⟩
  · rw [h1, if_pos rfl, if_pos rfl]; exact hno
  · rw [h1, if_neg (show ¬ (1 : Int32) = 0 by decide), if_neg (show ¬ (1 : Int32) = 0 by decide), cDay, bd_s, m16, bd_s]
    rcases rng_d b 7 (by decide) with ⟨g1, g2, -⟩ | ⟨g1, -, -, k, hk, rfl⟩
    · have : (if b < 1 then (0 : Int32) else if 6 < b then 0 else 1) = 0 := by
        rcases g2 with g | ⟨g, g'⟩
        · rw [if_pos (i32_trans g (by decide))]
        · by_cases q : b < 1
          · rw [if_pos q]
          · rw [if_neg q, if_pos (i32_lel (by decide) (show (7 : Int32) ≤ b from g'))]
      rw [g1, if_pos rfl, this, if_pos rfl]; exact hno
    · rw [g1, if_neg (show ¬ (1 : Int32) = 0 by decide)]
      by_cases k0 : k = 0
      · subst k0
        rw [if_pos (show nI 0 = (0 : Int32) from rfl), if_pos (show nI 0 < (1 : Int32) by decide), if_pos rfl]; exact hno
      · rw [if_neg (show ¬ nI k = (0 : Int32) from fun h => k0 (nI_inj (b := 0) (by omega) (by omega) h)), if_neg (show ¬ nI k < (1 : Int32) from fun h => by have := (nI_lt_iff (b := 1) (by omega) (by omega)).mp h; omega), if_neg (show ¬ (6 : Int32) < nI k from fun h => by have := (nI_lt_iff (a := 6) (by omega) (by omega)).mp h; omega), if_neg (show ¬ (1 : Int32) = 0 by decide)]
        obtain ⟨x, x1, x2, x3⟩ := on_both hC hM0 (show v < 8 by omega) (nI k - 1)
        obtain ⟨y, y1, y2, y3⟩ := on_both hC hM0 (show v < 8 by omega) (nI k)
        rw [x1, bd_s, y1, bd_s, x2, bd_s]
        rcases x3 with e | ⟨d1, hd1, e⟩
        · rw [e, if_pos rfl, if_pos rfl]
          exact hyes (-1) _ FrM.refl
        · rw [e, if_neg (nI_m1 (by omega)), if_neg (nI_m1 (by omega)), y2, bd_s]
          rcases y3 with e2 | ⟨d2, hd2, e2⟩
          · rw [e2, if_pos rfl, if_pos rfl]
            exact hyes (-1) _ FrM.refl
          · obtain ⟨s2, b1, b2⟩ := mbetw hC hM0 (show d1 < 12 by omega) (show d2 < 12 by omega)
            rw [e2, if_neg (nI_m1 (by omega)), if_neg (nI_m1 (by omega)), cbetw (by omega) (by omega), bd_s, bd_s, bd_s, b1, bd2_s]
            exact hyes _ s2 b2
theorem po_tripAt : PO_tripAt Inv := by
  intro sC sM a b ⟨T, D, V, L, hC, hM⟩
  have hD := hC.1.2.1
  have hT := hC.1.1
  have hM0 := hM.thrown (v := 0)
  have e00 : st2 sM 0 0 0 0 0 = 0 := st2_s _ _ _ _
  have hno : ∀ s2, FrM (st2 sM 0 0 0) s2 → ∃ (k0 : Nat) (r0 : Int32) (sC2 : dd_S) (bb : Int32) (sM2 : dd_S), f_X5_tripAt_24 a b sC = some (k0, r0, sC2) ∧ (k0 = 0 ∨ k0 = 1) ∧ some ((0 : Int32), st2 s2 0 0 1) = some (bb, sM2) ∧ sM2 0 0 = (if k0 = 0 then 0 else 1) ∧ (k0 = 0 → r0 = bb) ∧ Inv sC2 sM2 := fun s2 hf => ⟨1, 0, sC, 0, st2 s2 0 0 1, rfl, Or.inr rfl, rfl, st2_s _ _ _ _, (fun h => absurd h (by decide)), Inv.mk2 hC (hM0.fr hf).thrown⟩
  unfold f_X5_tripAt f_X6_tripAt
  rw [lt_e, cDuty hC.2.1.2.1, bd_s, mDuty hM0.2.1.2.1 (by omega), bd_s]
  rcases rng_d a D (by omega) with ⟨h1, -, -⟩ | ⟨h1, -, -, d, hd, rfl⟩
  · rw [h1, if_pos rfl, if_pos rfl, no_ev, bd2_s]; exact hno _ FrM.refl
  · have hL := hC.2.2.2.2.2.1 d (by omega)
    have hlen := hL.1.len
    obtain ⟨s2, a1, a2, a3, a4⟩ := sort_ev (d := nI d) (sg := st2 sM 0 0 0) (l := L d) hT hM0.2.1.1 hM0.1.2.2.1 rfl (hL.1.congr hM0.2.2.1)
    rw [h1, if_neg (show ¬ (1 : Int32) = 0 by decide), if_neg (show ¬ (1 : Int32) = 0 by decide), a1, bd_s, a3, mIn (by omega) (pred_toInt (by omega)), bd_s, dat_ev (by omega), bd_s, bd_s, hL.2.1.1]
    rcases rng_d b (L d).length (by omega) with ⟨g1, g | ⟨g, g'⟩, -⟩ | ⟨g1, g, g', k, hk, rfl⟩
    · rw [g1, if_pos g, if_pos rfl, no_ev, bd2_s]; exact hno _ a2.fr
    · rw [g1, if_neg g, if_neg (i32_nlt.mpr g'), if_pos rfl, no_ev, bd2_s]; exact hno _ a2.fr
    · rw [g1, if_neg g, if_pos (i32_nle.mp g'), if_neg (show ¬ (1 : Int32) = 0 by decide), gd_p (ix_ok (by omega) (by decide)), nI_clamp (by omega), tin_duty hL.2.1 hk (by omega), bd_s, a4 k hk]
      exact ⟨0, _, sC, _, s2, rfl, Or.inl rfl, rfl, (a2.fr.2 0 (Or.inl rfl)).trans e00, fun _ => rfl, Inv.mk2 hC (hM0.fr a2.fr)⟩
theorem t92_ev {d : Int32} {m : Nat} (hm : m < 9) {sg : dd_S} {tm : Nat → Int32} {t0 : Int32} : f_X6_told_92 d (nI m) sg tm t0 8 = some (if m = 8 then t0 else tm m, sg) := by
  unfold f_X6_told_92
  have c8 : (8 : Int32).toNatClampNeg = 8 := by decide
  rw [gd_p (show ix (8 : Int32) 9 = true by decide), lt_e, gd_p (ix_ok hm (by decide)), nI_clamp (by omega), c8]
  rfl
/-- one fact of a duty: both tell the same -/
theorem fact_both {E s : dd_S} {T D V d m : Nat} {L : Nat → List Nat} (hC : CI E T D V L) (hM : MI E s T D V) (hd : d < 12) (hm : m < 9) : ∃ r s2, f_X5_dutyFact E (nI d) (nI m) = some r ∧ f_X6_told s (nI d) (nI m) = some (r, s2) ∧ FrM s s2 := by
  obtain ⟨s2, a1, a2⟩ := mlook hC hM hd
  have hM2 := hM.fr a2.fr
  have hL := hC.2.2.2.2.2.1 d hd
  have h16 : s2 0 16 = E d 1 := a2.2.2.1.trans hL.2.1.1.symm
  have h17 : s2 0 17 = E d 2 := (a2.2.2.2.1 2 (by decide) (by decide)).trans (hL.2.2 2 (by decide) (by decide)).symm
  have h18 : s2 0 18 = E d 3 := (a2.2.2.2.1 3 (by decide) (by decide)).trans (hL.2.2 3 (by decide) (by decide)).symm
  have h19 : s2 0 19 = E d 4 := (a2.2.2.2.1 4 (by decide) (by decide)).trans (hL.2.2 4 (by decide) (by decide)).symm
  have h20 : s2 0 20 = E d 5 := (a2.2.2.2.1 5 (by decide) (by decide)).trans (hL.2.2 5 (by decide) (by decide)).symm
  have h21 : s2 0 21 = E d 6 := (a2.2.2.2.1 6 (by decide) (by decide)).trans (hL.2.2 6 (by decide) (by decide)).symm
  have h22 : s2 0 22 = E d 7 := (a2.2.2.2.1 7 (by decide) (by decide)).trans (hL.2.2 7 (by decide) (by decide)).symm
  have h23 : s2 0 23 = E d 8 := (a2.2.2.2.1 8 (by decide) (by decide)).trans (hL.2.2 8 (by decide) (by decide)).symm
  have c0 : (0 : Int32).toNatClampNeg = 0 := by decide
  have c1 : (1 : Int32).toNatClampNeg = 1 := by decide
  have c2 : (2 : Int32).toNatClampNeg = 2 := by decide
  have c3 : (3 : Int32).toNatClampNeg = 3 := by decide
  have c4 : (4 : Int32).toNatClampNeg = 4 := by decide
  have c5 : (5 : Int32).toNatClampNeg = 5 := by decide
  have c6 : (6 : Int32).toNatClampNeg = 6 := by decide
  have c7 : (7 : Int32).toNatClampNeg = 7 := by decide
  obtain ⟨fx, f1, f2⟩ : ∃ fx : Int32, (bd (f_X5_isFixed E (nI d)) fun r13 => if r13 = (0 : Int32) then f_X5_dutyFact_113 E (nI d) (nI m) 0 else f_X5_dutyFact_113 E (nI d) (nI m) 1) = some fx ∧ ∀ tm, (bd (f_X6_isFixed s2 (nI d)) fun r23 => if r23 = (0 : Int32) then f_X6_told_92 (nI d) (nI m) s2 tm 0 8 else f_X6_told_92 (nI d) (nI m) s2 tm 1 8) = some (if m = 8 then fx else tm m, s2) := by
    rcases fix_both (nI d) hC hM2 with ⟨g1, g2, -⟩ | ⟨g1, g2, -⟩
    · refine ⟨1, by rw [g1]; rfl, fun tm => by rw [g2, bd_s, if_neg (by decide), t92_ev hm]⟩
    · refine ⟨0, by rw [g1]; rfl, fun tm => by rw [g2, bd_s, if_pos rfl, t92_ev hm]⟩
  have h75 : ∀ (tm : Nat → Int32) (t0 : Int32), f_X6_told_75 (nI d) (nI m) s2 tm t0 7 = some (if m = 8 then fx else upd tm 7 t0 m, s2) := fun tm t0 => by
    unfold f_X6_told_75
    rw [gd_p (show ix (7 : Int32) 9 = true by decide), lt_e, c7, f2]
  have hmod : f_X6_told s (nI d) (nI m) = some (if m = 8 then fx else if m = 7 then (if E d 8 = 0 then 0 else 1) else if m = 6 then E d 7 else if m = 5 then E d 6 else if m = 4 then E d 5 else if m = 3 then E d 4 else if m = 2 then E d 3 else if m = 1 then E d 2 else if m = 0 then E d 1 else 0, s2) := by
    unfold f_X6_told
    rw [a1, bd2_s]
    simp only [lt_e, c0, c1, c2, c3, c4, c5, c6, h16, h17, h18, h19, h20, h21, h22, h23]
    rw [gd_p (show ix (0 : Int32) 9 = true by decide), gd_p (show ix (1 : Int32) 9 = true by decide), gd_p (show ix (2 : Int32) 9 = true by decide), gd_p (show ix (3 : Int32) 9 = true by decide), gd_p (show ix (4 : Int32) 9 = true by decide), gd_p (show ix (5 : Int32) 9 = true by decide), gd_p (show ix (6 : Int32) 9 = true by decide)]
    by_cases e : E d 8 = 0
    · rw [if_pos e, if_pos e, h75]; rfl
    · rw [if_neg e, if_neg e, h75]; rfl
  refine ⟨_, s2, ?_, hmod, a2.fr⟩
  unfold f_X5_dutyFact
  rw [dat_ev hd, bd_s, f1]
  rcases (show m = 0 ∨ m = 1 ∨ m = 2 ∨ m = 3 ∨ m = 4 ∨ m = 5 ∨ m = 6 ∨ m = 7 ∨ m = 8 by omega) with rfl | rfl | rfl | rfl | rfl | rfl | rfl | rfl | rfl
  · rfl
  · rfl
  · rfl
  · rfl
  · rfl
  · rfl
  · rfl
  · show (if E d 8 = 0 then some 0 else some 1) = some (if E d 8 = 0 then 0 else 1)
    split <;> rfl
  · rfl
theorem po_duty : PO_duty Inv := by
  intro sC sM a b ⟨T, D, V, L, hC, hM⟩
  have hD := hC.1.2.1
  have hM0 := hM.thrown (v := 0)
  have e00 : st2 sM 0 0 0 0 0 = 0 := st2_s _ _ _ _
  have hno : ∃ (k0 : Nat) (r0 : Int32) (sC2 : dd_S) (bb : Int32) (sM2 : dd_S), f_X5_duty_18 a b sC = some (k0, r0, sC2) ∧ (k0 = 0 ∨ k0 = 1) ∧ f_X6_duty_32 a b (st2 sM 0 0 0) = some (bb, sM2) ∧ sM2 0 0 = (if k0 = 0 then 0 else 1) ∧ (k0 = 0 → r0 = bb) ∧ Inv sC2 sM2 := ⟨1, 0, sC, 0, st2 (st2 sM 0 0 0) 0 0 1, rfl, Or.inr rfl, rfl, st2_s _ _ _ _, (fun h => absurd h (by decide)), Inv.mk2 hC hM0.thrown⟩
  unfold f_X5_duty f_X6_duty
  rw [lt_e, cDuty hC.2.1.2.1, bd_s, mDuty hM0.2.1.2.1 (by omega), bd_s]
  rcases rng_d a D (by omega) with ⟨h1, -, -⟩ | ⟨h1, -, -, d, hd, rfl⟩
  · rw [h1, if_pos rfl, if_pos rfl]; exact hno
  · rw [h1, if_neg (show ¬ (1 : Int32) = 0 by decide), if_neg (show ¬ (1 : Int32) = 0 by decide), mIn (n := 9) (by decide) (by decide), bd_s]
    rcases rng_d b 9 (by decide) with ⟨g1, g | ⟨g, g'⟩, -⟩ | ⟨g1, g, g', m, hm, rfl⟩
    · rw [g1, if_pos g, if_pos rfl]; exact hno
    · rw [g1, if_neg g, if_neg (show ¬ b < 9 from i32_nlt.mpr g'), if_pos rfl]; exact hno
    · obtain ⟨r, s2, r1, r2, r3⟩ := fact_both hC hM0 (show d < 12 by omega) hm
      rw [g1, if_neg g, if_pos (show nI m < 9 from i32_nle.mp g'), if_neg (show ¬ (1 : Int32) = 0 by decide), r1, bd_s, r2, bd2_s]
      exact ⟨0, r, sC, r, s2, rfl, Or.inl rfl, rfl, (r3.2 0 (Or.inl rfl)).trans e00, fun _ => rfl, Inv.mk2 hC (hM0.fr r3)⟩
