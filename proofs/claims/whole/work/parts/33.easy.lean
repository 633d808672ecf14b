/-! THE EASY CALLS -/
theorem rng_d (a : Int32) (n : Nat) (hn : n < 2 ^ 31) : (rng a n = 0 ∧ (a < 0 ∨ (¬ a < 0 ∧ nI n ≤ a)) ∧ ∀ m, m < n → a ≠ nI m) ∨ (rng a n = 1 ∧ ¬ a < 0 ∧ ¬ nI n ≤ a ∧ ∃ m, m < n ∧ a = nI m) := by
  rcases rng_c a n hn with ⟨h1, h2⟩ | ⟨h1, m, hm, h2⟩
  · refine Or.inl ⟨h1, ?_, h2⟩
    by_cases h : a < 0
    · exact Or.inl h
    · refine Or.inr ⟨h, ?_⟩
      by_cases h3 : nI n ≤ a
      · exact h3
      · unfold rng at h1
        rw [if_neg h, if_neg h3] at h1
        exact absurd h1 (by decide)
  · exact Or.inr ⟨h1, by rw [h2]; exact nI_pos (by omega), by rw [h2]; exact nI_ge hm hn, m, hm, h2⟩
theorem no_ev (s : dd_S) (v : Int32) : f_X6_no s v = some (0, st2 s 0 0 v) := rfl
theorem Inv.mk2 {sC sM : dd_S} {T D V : Nat} {L : Nat → List Nat} (hC : CI sC T D V L) (hM : MI sC sM T D V) : Inv sC sM := ⟨T, D, V, L, hC, hM⟩
theorem ft_both {E sM : dd_S} {T : Nat} (hT : T ≤ 40) (h1 : E 31 5 = nI T) (h2 : sM 0 2 = nI T) (h6 : ∀ t, t < T → sM 6 t = E 34 t) : ∀ (q v n : Nat) (c : Int32), v + q = T → q < n → ∃ r, f_X5_freeTrips_4 E n c (nI v) = some r ∧ f_X6_freeTrips_4 sM n c (nI v) = some r := by
  intro q
  induction q with
  | zero =>
    intro v n c hv hn
    obtain ⟨n, rfl⟩ : ∃ m, n = m + 1 := ⟨n - 1, by omega⟩
    unfold f_X5_freeTrips_4 f_X6_freeTrips_4
    rw [h1, h2, if_pos ((nI_le_iff (by omega) (by omega)).mpr (by omega)), if_pos ((nI_le_iff (by omega) (by omega)).mpr (by omega))]
    exact ⟨c, rfl, rfl⟩
  | succ q ih =>
    intro v n c hv hn
    obtain ⟨n, rfl⟩ : ∃ m, n = m + 1 := ⟨n - 1, by omega⟩
    unfold f_X5_freeTrips_4 f_X6_freeTrips_4
    rw [h1, h2, if_neg (nI_ge (by omega) (by omega)), if_neg (nI_ge (by omega) (by omega)), dof_ev (by omega), bd_s, gd_p (ix_ok (by omega) (by decide)), nI_clamp (by omega), h6 v (by omega)]
    by_cases e : E 34 v = -1
    · rw [if_pos e, if_pos e]
      unfold f_X5_freeTrips_27 f_X6_freeTrips_28
      simp only [lt_e]
      rw [nI_inc]
      exact ih (v + 1) n _ (by omega) (by omega)
    · rw [if_neg e, if_neg e]
      unfold f_X5_freeTrips_27 f_X6_freeTrips_28
      simp only [lt_e]
      rw [nI_inc, Int32.add_zero]
      exact ih (v + 1) n _ (by omega) (by omega)
theorem free_both {E sM : dd_S} {T D V : Nat} {L : Nat → List Nat} (hC : CI E T D V L) (hM : MI E sM T D V) : ∃ r, f_X5_freeTrips E = some r ∧ f_X6_freeTrips sM = some r := ft_both hC.1.1 hC.2.1.1 hM.2.1.1 hM.2.2.1 T 0 64 0 (by omega) (by have := hC.1.1; omega)
theorem nlit : nI 0 = (0 : Int32) ∧ nI 1 = (1 : Int32) ∧ nI 2 = (2 : Int32) ∧ nI 3 = (3 : Int32) ∧ nI 4 = (4 : Int32) := ⟨rfl, rfl, rfl, rfl, rfl⟩
theorem po_count : PO_count Inv := by
  intro sC sM a ⟨T, D, V, L, hC, hM⟩
  have hM0 := hM.thrown (v := 0)
  have e00 : st2 sM 0 0 0 0 0 = 0 := st2_s _ _ _ _
  have hm0 : f_X6_count sM a = if rng a 4 = 0 then some (0, st2 (st2 sM 0 0 0) 0 0 1) else if a = 0 then some (st2 sM 0 0 0 0 2, st2 sM 0 0 0) else if a = 1 then some (st2 sM 0 0 0 0 8, st2 sM 0 0 0) else if a = 2 then some (st2 sM 0 0 0 0 9, st2 sM 0 0 0) else bd (f_X6_freeTrips (st2 sM 0 0 0)) fun r9 => some (r9, st2 sM 0 0 0) := by
    unfold f_X6_count
    rw [lt_e, mIn (n := 4) (by decide) (by decide), bd_s, no_ev, bd2_s]
    rfl
  have hc0 : f_X5_count sC a = if a = 0 then some (0, sC 31 5, sC) else if a = 1 then some (0, sC 30 5, sC) else if a = 2 then some (0, sC 30 6, sC) else if a = 3 then bd (f_X5_freeTrips sC) (fun r => some (0, r, sC)) else some (1, 0, sC) := rfl
  rw [hm0, hc0]
  rcases rng_d a 4 (by decide) with ⟨h1, -, h2⟩ | ⟨h1, -, -, m, hm, h2⟩
  · rw [if_neg (show ¬ a = 0 from h2 0 (by decide)), if_neg (show ¬ a = 1 from h2 1 (by decide)), if_neg (show ¬ a = 2 from h2 2 (by decide)), if_neg (show ¬ a = 3 from h2 3 (by decide)), if_pos h1]
    exact ⟨1, 0, sC, 0, st2 (st2 sM 0 0 0) 0 0 1, rfl, Or.inr rfl, rfl, st2_s _ _ _ _, (fun h => absurd h (by decide)), Inv.mk2 hC hM0.thrown⟩
  · rw [if_neg (show ¬ rng a 4 = 0 by rw [h1]; decide)]
    rcases (show m = 0 ∨ m = 1 ∨ m = 2 ∨ m = 3 by omega) with rfl | rfl | rfl | rfl
    · have h2 : a = 0 := h2
      subst h2
      exact ⟨0, _, sC, _, _, rfl, Or.inl rfl, rfl, e00, fun _ => by rw [hC.2.1.1, hM0.2.1.1], Inv.mk2 hC hM0⟩
    · have h2 : a = 1 := h2
      subst h2
      exact ⟨0, _, sC, _, _, rfl, Or.inl rfl, rfl, e00, fun _ => by rw [hC.2.1.2.1, hM0.2.1.2.1], Inv.mk2 hC hM0⟩
    · have h2 : a = 2 := h2
      subst h2
      exact ⟨0, _, sC, _, _, rfl, Or.inl rfl, rfl, e00, fun _ => by rw [hC.2.1.2.2, hM0.2.1.2.2], Inv.mk2 hC hM0⟩
    · have h2 : a = 3 := h2
      subst h2
      obtain ⟨r, r1, r2⟩ := free_both hC hM0
      rw [r1, r2]
      exact ⟨0, r, sC, r, _, rfl, Or.inl rfl, rfl, e00, fun _ => rfl, Inv.mk2 hC hM0⟩
theorem po_trip : PO_trip Inv := by
  intro sC sM a b ⟨T, D, V, L, hC, hM⟩
  have hT := hC.1.1
  have hM0 := hM.thrown (v := 0)
  have e00 : st2 sM 0 0 0 0 0 = 0 := st2_s _ _ _ _
  have hno : ∃ (k0 : Nat) (r0 : Int32) (sC2 : dd_S) (bb : Int32) (sM2 : dd_S), (some (1, 0, sC) : Option (Nat × Int32 × dd_S)) = some (k0, r0, sC2) ∧ (k0 = 0 ∨ k0 = 1) ∧ f_X6_trip_22 a b (st2 sM 0 0 0) = some (bb, sM2) ∧ sM2 0 0 = (if k0 = 0 then 0 else 1) ∧ (k0 = 0 → r0 = bb) ∧ Inv sC2 sM2 := ⟨1, 0, sC, 0, st2 (st2 sM 0 0 0) 0 0 1, rfl, Or.inr rfl, rfl, st2_s _ _ _ _, (fun h => absurd h (by decide)), Inv.mk2 hC hM0.thrown⟩
  unfold f_X5_trip f_X6_trip
  rw [lt_e, cTrip hC.2.1.1, bd_s, mTrip hM0.2.1.1 (by omega), bd_s]
  rcases rng_d a T (by omega) with ⟨h1, -, -⟩ | ⟨h1, -, -, t, ht, rfl⟩
  · rw [h1, if_pos rfl, if_pos rfl]; exact hno
  · rw [h1, if_neg (show ¬ (1 : Int32) = 0 by decide), if_neg (show ¬ (1 : Int32) = 0 by decide), mIn (n := 5) (by decide) (by decide), bd_s]
    rcases rng_d b 5 (by decide) with ⟨g1, g2 | ⟨g2, g3⟩, -⟩ | ⟨g1, g2, g3, m, hm, rfl⟩
    · rw [g1, if_pos g2, if_pos rfl]; exact hno
    · rw [g1, if_neg g2, if_neg (show ¬ b < 5 from i32_nlt.mpr g3), if_pos rfl]; exact hno
    · rw [g1, if_neg g2, if_pos (show nI m < 5 from i32_nle.mp g3), if_neg (show ¬ (1 : Int32) = 0 by decide)]
      simp only [gd_p (ix_ok (show t < 40 by omega) (by decide)), nI_clamp (show t < 2 ^ 31 by omega)]
      have hl := hM0.1
      have hd := hM0.2.2.1 t ht
      have hend : ∀ x y : Int32, x = y → ∃ (k0 : Nat) (r0 : Int32) (sC2 : dd_S) (bb : Int32) (sM2 : dd_S), bd (some x) (fun r7 => (some (0, r7, sC) : Option (Nat × Int32 × dd_S))) = some (k0, r0, sC2) ∧ (k0 = 0 ∨ k0 = 1) ∧ f_X6_trip_89 (nI t) (nI m) (st2 sM 0 0 0) y = some (bb, sM2) ∧ sM2 0 0 = (if k0 = 0 then 0 else 1) ∧ (k0 = 0 → r0 = bb) ∧ Inv sC2 sM2 := fun x y e => ⟨0, x, sC, y, _, rfl, Or.inl rfl, rfl, e00, fun _ => e, Inv.mk2 hC hM0⟩
      have hf : f_X5_tripFact sC (nI t) (nI m) = some (if m = 0 then sC 41 t else if m = 1 then sC 42 t else if m = 2 then sC 43 t else if m = 3 then sC 44 t else sC 34 t) := by
        unfold f_X5_tripFact
        rw [fro_ev (by omega), to_ev (by omega), dep_ev (by omega), arr_ev (by omega), dof_ev (by omega)]
        rcases (show m = 0 ∨ m = 1 ∨ m = 2 ∨ m = 3 ∨ m = 4 by omega) with rfl | rfl | rfl | rfl | rfl <;> rfl
      rw [hf]
      rcases (show m = 0 ∨ m = 1 ∨ m = 2 ∨ m = 3 ∨ m = 4 by omega) with rfl | rfl | rfl | rfl | rfl
      · exact hend (sC 41 t) (st2 sM 0 0 0 2 t) (by rw [hl.1])
      · exact hend (sC 42 t) (st2 sM 0 0 0 3 t) (by rw [hl.2.1])
      · exact hend (sC 43 t) (st2 sM 0 0 0 4 t) (by rw [hl.2.2.1])
      · exact hend (sC 44 t) (st2 sM 0 0 0 5 t) (by rw [hl.2.2.2.1])
      · exact hend (sC 34 t) (st2 sM 0 0 0 6 t) hd.symm
/-- the desk's two counts may grow -/
theorem CI.desk {a b : dd_S} {T D V D2 V2 : Nat} {L : Nat → List Nat} (hf : ∀ k, k ≠ 30 → ¬ Scr k → b k = a k) (h5 : b 30 5 = nI D2) (h6 : b 30 6 = nI V2) (hD : D ≤ D2) (hD2 : D2 ≤ 12) (hV2 : V2 ≤ 8) (h : CI a T D V L) : CI b T D2 V2 L := by
  obtain ⟨h1, h2, h3, h4, h5', h6', h7⟩ := h
  have hE : EnvEq a b := fun k hk => hf k (by omega) (by unfold Scr; omega)
  refine ⟨⟨h1.1, hD2, hV2⟩, ⟨by rw [hf 31 (by decide) (by unfold Scr; omega)]; exact h2.1, h5, h6⟩, h3.env hE, fun v k hv hk => ?_, fun t ht => ?_, fun d hd => ?_, ?_, fun j h2 h8 => ?_⟩
  · rw [hf (45 + v) (by omega) (by unfold Scr; omega)]
    rcases h4 v k hv hk with e | ⟨d, hd, e⟩
    · exact Or.inl e
    · exact Or.inr ⟨d, by omega, e⟩
  · rw [hf 34 (by omega) (by unfold Scr; omega)]
    rcases h5' t ht with e | ⟨q, d, hd, e⟩
    · exact Or.inl e
    · exact Or.inr ⟨q, d, by omega, e⟩
  · obtain ⟨a1, a2, a3⟩ := h6' d hd
    have hk : b d = a d := hf d (by omega) (by unfold Scr; omega)
    refine ⟨by rw [hE.p.2.2.1, hf 34 (by omega) (by unfold Scr; omega)]; exact a1, ⟨by rw [hk]; exact a2.1, by rw [hf (15 + d) (by omega) (by unfold Scr; omega)]; exact a2.2⟩, fun j h2 h8 => by rw [hk, hE.ft]; exact a3 j h2 h8⟩
  · rw [hf 14 (by omega) (by unfold Scr; omega)]; exact h7.1
  · rw [hf 14 (by omega) (by unfold Scr; omega), hE.ft]; exact h7.2 j h2 h8
theorem po_addDriver : PO_addDriver Inv := by
  intro sC sM ⟨T, D, V, L, hC, hM⟩
  have hV := hC.1.2.2
  have hM0 := hM.thrown (v := 0)
  unfold f_X5_addDriver f_X6_addDriver
  simp only [lt_e]
  rw [hC.2.1.2.2, hM0.2.1.2.2]
  by_cases e : V = 8
  · subst e
    rw [if_neg (show ¬ nI 8 < (8 : Int32) by decide), if_pos (by rfl), no_ev, bd2_s]
    exact ⟨3, 0, sC, 0, st2 (st2 sM 0 0 0) 0 0 1, rfl, Or.inr rfl, rfl, st2_s _ _ _ _, (fun h => absurd h (by decide)), Inv.mk2 hC hM0.thrown⟩
  · rw [if_pos (show nI V < (8 : Int32) from (nI_lt_iff (b := 8) (by omega) (by omega)).mpr (by omega)), if_neg (show ¬ nI V = (8 : Int32) from fun h => e (nI_inj (b := 8) (by omega) (by omega) h)), st2_s, nI_inc, nI_pred]
    refine ⟨0, nI V, _, nI V, _, rfl, Or.inl rfl, rfl, by rw [st2_j _ _ _ _ (by decide), st2_s]; rfl, fun _ => rfl, T, D, V + 1, L, hC.desk (fun k h _ => st2_k _ _ _ _ h) (by rw [st2_j _ _ _ _ (by decide)]; exact hC.2.1.2.1) (st2_s _ _ _ _) (Nat.le_refl _) hC.1.2.1 (by omega), ?_⟩
    have hE : EnvEq sC (st2 sC 30 6 (nI (V + 1))) := fun k hk => st2_k _ _ _ _ (by omega)
    refine ⟨(hM0.1.fr (fun k _ _ => st2_k _ _ _ _ (by omega)) (fun j _ _ => st2_j _ _ _ _ (by omega))).env hE, ⟨by rw [st2_j _ _ _ _ (by decide)]; exact hM0.2.1.1, by rw [st2_j _ _ _ _ (by decide)]; exact hM0.2.1.2.1, st2_s _ _ _ _⟩, fun t ht => ?_, fun v k hv hk => ?_⟩
    · rw [st2_k _ _ _ _ (show 6 ≠ 0 by decide), st2_k _ _ _ _ (show 34 ≠ 30 by decide)]; exact hM0.2.2.1 t ht
    · rw [st2_k _ _ _ _ (show 7 ≠ 0 by decide), st2_k _ _ _ _ (show 45 + v ≠ 30 by omega)]; exact hM0.2.2.2 v k hv hk
theorem po_addDuty : PO_addDuty Inv := by
  intro sC sM ⟨T, D, V, L, hC, hM⟩
  have hD := hC.1.2.1
  have hM0 := hM.thrown (v := 0)
  unfold f_X5_addDuty f_X6_addDuty
  simp only [lt_e]
  rw [hC.2.1.2.1, hM0.2.1.2.1]
  by_cases e : D = 12
  · subst e
    rw [if_neg (show ¬ nI 12 < (12 : Int32) by decide), if_pos (by rfl), no_ev, bd2_s]
    exact ⟨3, 0, sC, 0, st2 (st2 sM 0 0 0) 0 0 1, rfl, Or.inr rfl, rfl, st2_s _ _ _ _, (fun h => absurd h (by decide)), Inv.mk2 hC hM0.thrown⟩
  · rw [if_pos (show nI D < (12 : Int32) from (nI_lt_iff (b := 12) (by omega) (by omega)).mpr (by omega)), if_neg (show ¬ nI D = (12 : Int32) from fun h => e (nI_inj (b := 12) (by omega) (by omega) h)), st2_s, nI_inc, nI_pred]
    refine ⟨0, nI D, _, nI D, _, rfl, Or.inl rfl, rfl, by rw [st2_j _ _ _ _ (by decide), st2_s]; rfl, fun _ => rfl, T, D + 1, V, L, hC.desk (fun k h _ => st2_k _ _ _ _ h) (st2_s _ _ _ _) (by rw [st2_j _ _ _ _ (by decide)]; exact hC.2.1.2.2) (Nat.le_succ _) (by omega) hC.1.2.2, ?_⟩
    have hE : EnvEq sC (st2 sC 30 5 (nI (D + 1))) := fun k hk => st2_k _ _ _ _ (by omega)
    refine ⟨(hM0.1.fr (fun k _ _ => st2_k _ _ _ _ (by omega)) (fun j _ _ => st2_j _ _ _ _ (by omega))).env hE, ⟨by rw [st2_j _ _ _ _ (by decide)]; exact hM0.2.1.1, st2_s _ _ _ _, by rw [st2_j _ _ _ _ (by decide)]; exact hM0.2.1.2.2⟩, fun t ht => ?_, fun v k hv hk => ?_⟩
    · rw [st2_k _ _ _ _ (show 6 ≠ 0 by decide), st2_k _ _ _ _ (show 34 ≠ 30 by decide)]; exact hM0.2.2.1 t ht
    · rw [st2_k _ _ _ _ (show 7 ≠ 0 by decide), st2_k _ _ _ _ (show 45 + v ≠ 30 by omega)]; exact hM0.2.2.2 v k hv hk
