/-! put and takeOut -/
theorem po_put : PO_put Inv := by
  intro sC sM a b ⟨T, D, V, L, hC, hM⟩
  have hT := hC.1.1
  have hD := hC.1.2.1
  have hM0 := hM.thrown (v := 0)
  have e00 : st2 sM 0 0 0 0 0 = 0 := st2_s _ _ _ _
  have hno : ∃ (k0 : Nat) (r0 : Int32) (sC2 : dd_S) (bb : Int32) (sM2 : dd_S), f_X5_put_16 a b sC = some (k0, r0, sC2) ∧ (k0 = 0 ∨ k0 = 1 ∨ k0 = 3) ∧ f_X6_put_21 a b (st2 sM 0 0 0) = some (bb, sM2) ∧ sM2 0 0 = (if k0 = 0 then 0 else if k0 = 1 then 1 else 2) ∧ (k0 = 0 → r0 = bb) ∧ Inv sC2 sM2 := ⟨1, 0, sC, 0, st2 (st2 sM 0 0 0) 0 0 1, rfl, Or.inr (Or.inl rfl), rfl, st2_s _ _ _ _, (fun h => absurd h (by decide)), Inv.mk2 hC hM0.thrown⟩
  have hthree : ∀ s1 s2 : dd_S, FrS sC s1 → FrM (st2 sM 0 0 0) s2 → ∃ (k0 : Nat) (r0 : Int32) (sC2 : dd_S) (bb : Int32) (sM2 : dd_S), (some (3, (0 : Int32), s1) : Option (Nat × Int32 × dd_S)) = some (k0, r0, sC2) ∧ (k0 = 0 ∨ k0 = 1 ∨ k0 = 3) ∧ bd2 (f_X6_no s2 (2 : Int32)) (fun (r18 : Int32) (sg17 : dd_S) => some (r18, sg17)) = some (bb, sM2) ∧ sM2 0 0 = (if k0 = 0 then 0 else if k0 = 1 then 1 else 2) ∧ (k0 = 0 → r0 = bb) ∧ Inv sC2 sM2 := fun s1 s2 h1 h2 => ⟨3, 0, s1, 0, st2 s2 0 0 2, rfl, Or.inr (Or.inr rfl), rfl, st2_s _ _ _ _, (fun h => absurd h (by decide)), Inv.mk2 (hC.fr h1) ((hM0.fr h2).frC h1).thrown⟩
  unfold f_X5_put f_X6_put
  rw [lt_e, cDuty hC.2.1.2.1, bd_s, mDuty hM0.2.1.2.1 (by omega), bd_s]
  rcases rng_d a D (by omega) with ⟨h1, -, -⟩ | ⟨h1, -, -, d, hd, rfl⟩
  · rw [h1, if_pos rfl, if_pos rfl]; exact hno
  · rw [h1, if_neg (show ¬ (1 : Int32) = 0 by decide), if_neg (show ¬ (1 : Int32) = 0 by decide), cTrip hC.2.1.1, bd_s, mTrip hM0.2.1.1 (by omega), bd_s]
    rcases rng_d b T (by omega) with ⟨g1, -, -⟩ | ⟨g1, -, -, t, ht, rfl⟩
    · rw [g1, if_pos rfl, if_pos rfl]; exact hno
    · rw [g1, if_neg (show ¬ (1 : Int32) = 0 by decide), if_neg (show ¬ (1 : Int32) = 0 by decide)]
      rcases put_both hC hM0 (show d < 12 by omega) ht with ⟨s1, a1, a2, a3⟩ | ⟨c1, c2, l, s1, s2, b1, b2, b3, b4, b5, b6, b7, b8⟩
      · rw [a1, bd2_s, if_pos rfl, a3, bd2_s, if_pos rfl]
        exact hthree s1 _ a2 FrM.refl
      · rw [b2, bd2_s, b6, bd2_s]
        by_cases c0 : ftS sC l 8 = 0
        · rw [if_pos c0, if_pos c0]
          exact hthree s1 s2 b3 b7
        · have hlen := b1.len
          have hl40 : ∀ x ∈ l, x < 40 := fun x hx => by have := b1.lt hx; omega
          obtain ⟨s15, k1, k2, k3, k4, k5, k6⟩ := keep_ev (d := d) (t := t) (x := nI d) b3 (by omega) (by omega) (by omega) b4 b5
          have htl : t ∈ l := (b1.2 t).mpr ⟨ht, by rw [upd_at, if_pos rfl]⟩
          obtain ⟨k, p1, p2, p3⟩ := pl_ev (by omega) hl40 (by omega) k5 htl
          have hM2 := hM0.fr b7
          have hM3 : MI (st2 s15 34 t (nI d)) (st2 s2 6 t (nI d)) T D V := hM2.one (d := d) (by omega) (fun q h1 h2 h3 h4 _ => k3 q h1 h2 h3 h4) k4
          obtain ⟨s4, q1, q2, q3, q4⟩ := sort_ev (sg := st2 s2 6 t (nI d)) (dep := sC 43) (du := st2 s2 6 t (nI d) 6) (d := nI d) hT hM3.2.1.1 (by rw [st2_k _ _ _ _ (show 4 ≠ 6 by decide)]; exact hM2.1.2.2.1) rfl (b1.congr (fun u hu => by rw [hM3.2.2.1 u hu, k4]))
          have q5 : f_X6_put_56 (nI d) (nI t) 64 s4 (0 : Int32) = some (nI k, s4) := m56_ev (by omega) hl40 q4 p1 p2 b1.1.nodup k 0 64 (by omega) (by omega)
          have hkp : f_X5_keepPut s1 (nI d) (nI t) = some (st2 s15 34 t (nI d)) := by
            unfold f_X5_keepPut
            rw [dat_ev (by omega), bd_s, k1, bd_s, k2, bd_s]
          rw [if_neg c0, if_neg c0, hkp, bd_s, dat_ev (by omega), bd_s, p3, bd_s, gd_p (ix_ok (by omega) (by decide)), lt_e, nI_clamp (by omega), q1, bd_s, q5]
          refine ⟨0, nI k, _, nI k, s4, rfl, Or.inl rfl, rfl, ?_, fun _ => rfl, Inv.mk2 (hC.one (d := d) (t := t) (x := nI d) (l := l) (by omega) ht (fun q h1 h2 h3 h4 _ => k3 q h1 h2 h3 h4) ?_ ?_ (Nat.le_refl _) hD k4 (Or.inr ⟨d, hd, rfl⟩) (fun e he hne => ⟨by rw [c1]; exact fun h => nI_m1 (by omega) h.symm, fun h => hne (nI_inj (by omega) (by omega) h).symm⟩) b1 k5 k6) (hM3.fr q2.fr)⟩
          · rw [q2.2 0 (by decide), st2_k _ _ _ _ (show 0 ≠ 6 by decide), b7.2 0 (Or.inl rfl)]; exact e00
          · rw [k3 30 (by unfold Scr; omega) (by omega) (by omega) (by omega)]; exact hC.2.1.2.1
          · rw [k3 30 (by unfold Scr; omega) (by omega) (by omega) (by omega)]; exact hC.2.1.2.2
theorem without_ev {E : dd_S} {T D V d t : Nat} {L : Nat → List Nat} (hC : CI E T D V L) (hd : d < 12) (ht : t < T) (he : E 34 t = nI d) :
    ∃ l s1, IsRow (E 43) (upd (E 34) t (-1)) T (nI d) l ∧ f_X5_tryWithout E (nI d) (nI t) = some (ftS E l 8, s1) ∧ FrS E s1 ∧ DutyAt s1 12 l ∧ ∀ j, 2 ≤ j → j ≤ 8 → s1 12 j = ftS E l j := by
  have hT := hC.1.1
  have hL := hC.2.2.2.2.2.1 d hd
  have hlen := hL.1.len
  have hrow : IsRow (E 43) (upd (E 34) t (-1)) T (nI d) ((L d).filter (fun x => decide (x ≠ t))) := by
    refine ⟨hL.1.1.filter _, fun u => ?_⟩
    rw [List.mem_filter, hL.1.2 u, upd_at]
    by_cases e : u = t
    · subst e
      rw [if_pos rfl]
      exact ⟨fun q => absurd rfl (of_decide_eq_true q.2), fun q => absurd q.2.symm (nI_m1 (by omega))⟩
    · rw [if_neg e]
      exact ⟨fun q => q.1, fun q => ⟨q, decide_eq_true e⟩⟩
  obtain ⟨s1, a1, a2, a3⟩ := cw_ev (sg := E) (d := 12) (d2 := d) (t := t) (by decide) (by omega) (by omega) (by omega) (by omega) (fun x hx => by have := hL.1.lt hx; omega) hL.2.1
  have hF1 := a2.s12
  have hlen2 := hrow.len
  obtain ⟨s3, d1, d2, d3, d4⟩ := meas_ev (sg := s1) (d := 12) (by decide) (by omega) a3 (fun x hx => ((hC.2.2.1.1 x (hrow.lt hx)).1).env hF1.env)
  have hft : ∀ j, 2 ≤ j → j ≤ 8 → s3 12 j = ftS E ((L d).filter (fun x => decide (x ≠ t))) j := fun j h2 h8 => by rw [d4 j h2 h8, hF1.env.ft]
  refine ⟨_, s3, hrow, ?_, hF1.trans (one12 d2), d3, hft⟩
  unfold f_X5_tryWithout
  rw [dat_ev hd, bd_s, a1, bd_s, d1, bd_s, hft 8 (by decide) (by decide), gd_p ft8]
theorem po_takeOut : PO_takeOut Inv := by
  intro sC sM a ⟨T, D, V, L, hC, hM⟩
  have hT := hC.1.1
  have hD := hC.1.2.1
  have hM0 := hM.thrown (v := 0)
  have e00 : st2 sM 0 0 0 0 0 = 0 := st2_s _ _ _ _
  have hthree : ∀ s1 s2 : dd_S, FrS sC s1 → FrM (st2 sM 0 0 0) s2 → ∃ (k0 : Nat) (r0 : Int32) (sC2 : dd_S) (bb : Int32) (sM2 : dd_S), f_X5_takeOut_46 a s1 = some (k0, r0, sC2) ∧ (k0 = 0 ∨ k0 = 1 ∨ k0 = 3) ∧ bd2 (f_X6_no s2 (2 : Int32)) (fun (r18 : Int32) (sg17 : dd_S) => some (r18, sg17)) = some (bb, sM2) ∧ sM2 0 0 = (if k0 = 0 then 0 else if k0 = 1 then 1 else 2) ∧ (k0 = 0 → r0 = bb) ∧ Inv sC2 sM2 := fun s1 s2 h1 h2 => ⟨3, 0, s1, 0, st2 s2 0 0 2, rfl, Or.inr (Or.inr rfl), rfl, st2_s _ _ _ _, (fun h => absurd h (by decide)), Inv.mk2 (hC.fr h1) ((hM0.fr h2).frC h1).thrown⟩
  unfold f_X5_takeOut f_X6_takeOut
  rw [lt_e, cTrip hC.2.1.1, bd_s, mTrip hM0.2.1.1 (by omega), bd_s]
  rcases rng_d a T (by omega) with ⟨h1, -, -⟩ | ⟨h1, -, -, t, ht, rfl⟩
  · rw [h1, if_pos rfl, if_pos rfl, no_ev, bd2_s]
    exact ⟨1, 0, sC, 0, st2 (st2 sM 0 0 0) 0 0 1, rfl, Or.inr (Or.inl rfl), rfl, st2_s _ _ _ _, (fun h => absurd h (by decide)), Inv.mk2 hC hM0.thrown⟩
  · have h6 := hM0.2.2.1 t ht
    rw [h1, if_neg (show ¬ (1 : Int32) = 0 by decide), if_neg (show ¬ (1 : Int32) = 0 by decide), dof_ev (by omega), bd_s, gd_p (ix_ok (by omega) (by decide)), lt_e, nI_clamp (by omega), h6]
    rcases hC.2.2.2.2.1 t (by omega) with e | ⟨-, d, hd, e⟩
    · rw [if_pos e, if_pos e]
      exact hthree sC _ FrS.refl FrM.refl
    · rw [e, if_neg (nI_m1 (by omega)), if_neg (nI_m1 (by omega))]
      rcases fix_both (nI d) hC hM0 with ⟨g1, g2, g3⟩ | ⟨g1, g2, g3⟩
      · rw [g1, bd_s, g2, bd_s, if_neg (show ¬ (1 : Int32) = 0 by decide), if_neg (show ¬ (1 : Int32) = 0 by decide)]
        exact hthree sC _ FrS.refl FrM.refl
      · obtain ⟨l, s1, b1, b2, b3, b4, b5⟩ := without_ev hC (show d < 12 by omega) ht e
        obtain ⟨s2, c1, c2⟩ := mlook2 hC hM0 ht b1
        rw [g1, bd_s, g2, bd_s, if_pos rfl, if_pos rfl, gd_p (ix_ok (by omega) (by decide)), lt_e, b2, bd2_s, c1, bd2_s]
        by_cases c0 : ftS sC l 8 = 0
        · rw [if_pos c0, if_pos c0, gd_p (ix_ok (by omega) (by decide)), lt_e]
          exact hthree s1 _ b3 (back_fr c2 (h6.trans e))
        · have hlen := b1.len
          obtain ⟨s15, k1, k2, k3, k4, k5, k6⟩ := keep_ev (d := d) (t := t) (x := -1) b3 (by omega) (by omega) (by omega) b4 b5
          have hM3 : MI (st2 s15 34 t (-1)) (st2 (st2 sM 0 0 0) 6 t (-1)) T D V := hM0.one (d := d) (by omega) (fun q h1 h2 h3 h4 _ => k3 q h1 h2 h3 h4) k4
          rw [if_neg c0, if_neg c0, dat_ev (by omega), bd_s, k1, bd_s, k2, bd_s]
          refine ⟨0, nI d, _, nI d, s2, rfl, Or.inl rfl, rfl, ?_, fun _ => rfl, Inv.mk2 (hC.one (d := d) (t := t) (x := -1) (l := l) (by omega) ht (fun q h1 h2 h3 h4 _ => k3 q h1 h2 h3 h4) ?_ ?_ (Nat.le_refl _) hD k4 (Or.inl rfl) (fun f hf hne => ⟨by rw [e]; exact fun h => hne (nI_inj (by omega) (by omega) h).symm, fun h => nI_m1 (by omega) h.symm⟩) b1 k5 k6) (hM3.fr c2.fr)⟩
          · rw [c2.2.1 0 (by omega), st2_k _ _ _ _ (show 0 ≠ 6 by decide)]; exact e00
          · rw [k3 30 (by unfold Scr; omega) (by omega) (by omega) (by omega)]; exact hC.2.1.2.1
          · rw [k3 30 (by unfold Scr; omega) (by omega) (by omega) (by omega)]; exact hC.2.1.2.2
