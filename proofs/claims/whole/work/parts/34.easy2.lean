/-! THE EASY CALLS, on drivers and duties -/
theorem mDriver {sg : dd_S} {n : Nat} (h : sg 0 9 = nI n) (hn : n < 1000) (a : Int32) : f_X6_isDriver sg a = some (rng a n) := by
  unfold f_X6_isDriver; rw [h, mIn (by omega) (pred_toInt hn), bd_s, gd_p (rng_bz _ _)]
theorem mDay (sg : dd_S) (a : Int32) : f_X6_isDay sg a = some (rng a 7) := by
  unfold f_X6_isDay; rw [mIn (n := 7) (by decide) (by decide), bd_s, gd_p (rng_bz _ _)]
theorem rng_1 {n m : Nat} (h : m < n) (hn : n < 2 ^ 31) : rng (nI m) n = 1 := by
  unfold rng; rw [if_neg (nI_pos (by omega)), if_neg (nI_ge h hn)]
theorem mAt {E sM : dd_S} {T D V v k : Nat} (hM : MI E sM T D V) (hv : v < 8) (hk : k < 7) : f_X6_at sM (nI v) (nI k) = some (E (45 + v) k) := by
  unfold f_X6_at
  rw [mDay, bd_s, rng_1 hk (by decide), if_neg (by decide), show (7 : Int32) = nI 7 from rfl, nI_mul, nI_add, gd_p (ix_ok (by omega) (by decide)), nI_clamp (by omega), hM.2.2.2 v k hv hk]; rfl
theorem mAt_out {sM : dd_S} {a b : Int32} (h : rng b 7 = 0) : f_X6_at sM a b = some (-1) := by
  unfold f_X6_at
  rw [mDay, bd_s, h, if_pos rfl]; rfl
theorem don_out {sM : dd_S} {a b : Int32} (h : rng b 7 = 0) : f_X5_dutyOn sM a b = some (-1) := by
  unfold f_X5_dutyOn
  split
  · rfl
  · split
    · rfl
    · rcases rng_d b 7 (by decide) with ⟨-, g | ⟨g, g2⟩, -⟩ | ⟨g, -⟩
      · rw [if_pos g]; rfl
      · rw [if_neg g, if_pos (show (7 : Int32) ≤ b from g2)]; rfl
      · rw [h] at g; exact absurd g (by decide)
/-- one entry of the roster -/
theorem CI.roster {a : dd_S} {T D V v k : Nat} {x : Int32} {L : Nat → List Nat} (hv : v < 8) (hk : k < 7) (hx : x = -1 ∨ ∃ d, d < D ∧ x = nI d) (h : CI a T D V L) : CI (st2 a (45 + v) k x) T D V L := by
  obtain ⟨h1, h2, h3, h4, h5, h6, h7⟩ := h
  have hf : ∀ q, q ≠ 45 + v → st2 a (45 + v) k x q = a q := fun q hq => st2_k _ _ _ _ hq
  have hE : EnvEq a (st2 a (45 + v) k x) := fun q hq => hf q (by omega)
  refine ⟨h1, ⟨by rw [hf 31 (by omega)]; exact h2.1, by rw [hf 30 (by omega)]; exact h2.2.1, by rw [hf 30 (by omega)]; exact h2.2.2⟩, h3.env hE, fun v2 k2 hv2 hk2 => ?_, fun t ht => by rw [hf 34 (by omega)]; exact h5 t ht, fun d hd => ?_, by rw [hf 14 (by omega)]; exact h7.1, fun j h2 h8 => by rw [hf 14 (by omega), hE.ft]; exact h7.2 j h2 h8⟩
  · rw [st2_at]
    by_cases e : 45 + v2 = 45 + v
    · rw [if_pos e]
      by_cases e2 : k2 = k
      · rw [if_pos e2]; exact hx
      · rw [if_neg e2, ← e]; exact h4 v2 k2 hv2 hk2
    · rw [if_neg e]; exact h4 v2 k2 hv2 hk2
  · obtain ⟨a1, a2, a3⟩ := h6 d hd
    have hkd : st2 a (45 + v) k x d = a d := hf d (by omega)
    exact ⟨by rw [hE.p.2.2.1, hf 34 (by omega)]; exact a1, ⟨by rw [hkd]; exact a2.1, by rw [hf (15 + d) (by omega)]; exact a2.2⟩, fun j h2 h8 => by rw [hkd, hE.ft]; exact a3 j h2 h8⟩
theorem MI.roster {a s : dd_S} {T D V v k : Nat} {x : Int32} (hv : v < 8) (hk : k < 7) (h : MI a s T D V) : MI (st2 a (45 + v) k x) (st2 s 7 (7 * v + k) x) T D V := by
  have hE : EnvEq a (st2 a (45 + v) k x) := fun q hq => st2_k _ _ _ _ (by omega)
  refine ⟨(h.1.fr (fun q _ _ => st2_k _ _ _ _ (by omega)) (fun j _ _ => by rw [st2_k _ _ _ _ (show 0 ≠ 7 by decide)])).env hE, ⟨by rw [st2_k _ _ _ _ (show 0 ≠ 7 by decide)]; exact h.2.1.1, by rw [st2_k _ _ _ _ (show 0 ≠ 7 by decide)]; exact h.2.1.2.1, by rw [st2_k _ _ _ _ (show 0 ≠ 7 by decide)]; exact h.2.1.2.2⟩, fun t ht => by rw [st2_k _ _ _ _ (show 6 ≠ 7 by decide), st2_k _ _ _ _ (show 34 ≠ 45 + v by omega)]; exact h.2.2.1 t ht, fun v2 k2 hv2 hk2 => ?_⟩
  rw [st2_at, if_pos rfl, st2_at]
  by_cases e : 45 + v2 = 45 + v
  · rw [if_pos e]
    by_cases e2 : k2 = k
    · rw [if_pos e2, if_pos (by omega)]
    · rw [if_neg e2, if_neg (by omega), ← e]; exact h.2.2.2 v2 k2 hv2 hk2
  · rw [if_neg e, if_neg (by omega)]; exact h.2.2.2 v2 k2 hv2 hk2
theorem po_given : PO_given Inv := by
  intro sC sM a b ⟨T, D, V, L, hC, hM⟩
  have hV := hC.1.2.2
  have hM0 := hM.thrown (v := 0)
  have e00 : st2 sM 0 0 0 0 0 = 0 := st2_s _ _ _ _
  have hno : ∃ (k0 : Nat) (r0 : Int32) (sC2 : dd_S) (bb : Int32) (sM2 : dd_S), f_X5_given_15 a b sC = some (k0, r0, sC2) ∧ (k0 = 0 ∨ k0 = 1) ∧ f_X6_given_29 a b (st2 sM 0 0 0) = some (bb, sM2) ∧ sM2 0 0 = (if k0 = 0 then 0 else 1) ∧ (k0 = 0 → r0 = bb) ∧ Inv sC2 sM2 := ⟨1, 0, sC, 0, st2 (st2 sM 0 0 0) 0 0 1, rfl, Or.inr rfl, rfl, st2_s _ _ _ _, (fun h => absurd h (by decide)), Inv.mk2 hC hM0.thrown⟩
  unfold f_X5_given f_X6_given
  rw [lt_e, cDriver hC.2.1.2.2, bd_s, mDriver hM0.2.1.2.2 (by omega), bd_s]
  rcases rng_d a V (by omega) with ⟨h1, -, -⟩ | ⟨h1, -, -, v, hv, rfl⟩
  · rw [h1, if_pos rfl, if_pos rfl]; exact hno
  · rw [h1, if_neg (show ¬ (1 : Int32) = 0 by decide), if_neg (show ¬ (1 : Int32) = 0 by decide), cDay, bd_s, mDay, bd_s]
    rcases rng_d b 7 (by decide) with ⟨g1, -, -⟩ | ⟨g1, -, -, k, hk, rfl⟩
    · rw [g1, if_pos rfl, if_pos rfl]; exact hno
    · rw [g1, if_neg (show ¬ (1 : Int32) = 0 by decide), if_neg (show ¬ (1 : Int32) = 0 by decide), don_ev (by omega) hk, bd_s, mAt hM0 (by omega) hk, bd_s]
      exact ⟨0, _, sC, _, _, rfl, Or.inl rfl, rfl, e00, fun _ => rfl, Inv.mk2 hC hM0⟩
theorem po_takeBack : PO_takeBack Inv := by
  intro sC sM a b ⟨T, D, V, L, hC, hM⟩
  have hV := hC.1.2.2
  have hM0 := hM.thrown (v := 0)
  have e00 : st2 sM 0 0 0 0 0 = 0 := st2_s _ _ _ _
  have hno : ∃ (k0 : Nat) (r0 : Int32) (sC2 : dd_S) (bb : Int32) (sM2 : dd_S), f_X5_takeBack_15 a b sC = some (k0, r0, sC2) ∧ (k0 = 0 ∨ k0 = 1 ∨ k0 = 3) ∧ f_X6_takeBack_20 a b (st2 sM 0 0 0) = some (bb, sM2) ∧ sM2 0 0 = (if k0 = 0 then 0 else if k0 = 1 then 1 else 2) ∧ (k0 = 0 → r0 = bb) ∧ Inv sC2 sM2 := ⟨1, 0, sC, 0, st2 (st2 sM 0 0 0) 0 0 1, rfl, Or.inr (Or.inl rfl), rfl, st2_s _ _ _ _, (fun h => absurd h (by decide)), Inv.mk2 hC hM0.thrown⟩
  unfold f_X5_takeBack f_X6_takeBack
  rw [lt_e, cDriver hC.2.1.2.2, bd_s, mDriver hM0.2.1.2.2 (by omega), bd_s]
  rcases rng_d a V (by omega) with ⟨h1, -, -⟩ | ⟨h1, -, -, v, hv, rfl⟩
  · rw [h1, if_pos rfl, if_pos rfl]; exact hno
  · rw [h1, if_neg (show ¬ (1 : Int32) = 0 by decide), if_neg (show ¬ (1 : Int32) = 0 by decide), cDay, bd_s, mDay, bd_s]
    rcases rng_d b 7 (by decide) with ⟨g1, -, -⟩ | ⟨g1, -, -, k, hk, rfl⟩
    · rw [g1, if_pos rfl, if_pos rfl]; exact hno
    · rw [g1, if_neg (show ¬ (1 : Int32) = 0 by decide), if_neg (show ¬ (1 : Int32) = 0 by decide), don_ev (by omega) hk, bd_s, mAt hM0 (by omega) hk, bd_s]
      by_cases e : sC (45 + v) k = -1
      · rw [if_pos e, if_pos e, no_ev, bd2_s]
        exact ⟨3, 0, sC, 0, st2 (st2 sM 0 0 0) 0 0 2, rfl, Or.inr (Or.inr rfl), rfl, st2_s _ _ _ _, (fun h => absurd h (by decide)), Inv.mk2 hC hM0.thrown⟩
      · rw [if_neg e, if_neg e, ent_ev (by omega) hk, bd_s, show (7 : Int32) = nI 7 from rfl, nI_mul, nI_add, gd_p (ix_ok (by omega) (by decide)), lt_e, nI_clamp (by omega)]
        exact ⟨0, _, _, _, _, rfl, Or.inl rfl, rfl, by rw [st2_k _ _ _ _ (show 0 ≠ 7 by decide)]; exact e00, fun _ => rfl, Inv.mk2 (hC.roster (by omega) hk (Or.inl rfl)) (hM0.roster (by omega) hk)⟩
/-! sums of pay -/
theorem mpay {E sM : dd_S} {T D V : Nat} {L : Nat → List Nat} (hC : CI E T D V L) (hM : MI E sM T D V) {d : Nat} (hd : d < 12) : ∃ s2, f_X6_payOf sM (nI d) = some (E d 5, s2) ∧ FrM sM s2 := by
  obtain ⟨s2, h1, h2⟩ := mlook hC hM hd
  refine ⟨s2, ?_, h2.fr⟩
  unfold f_X6_payOf
  rw [h1, bd2_s, show s2 0 20 = ftS E (L d) 5 from h2.2.2.2.1 5 (by decide) (by decide), (hC.2.2.2.2.2.1 d hd).2.2 5 (by decide) (by decide)]
theorem pay_both {E : dd_S} {T D V : Nat} {L : Nat → List Nat} (hC : CI E T D V L) : ∀ (q d n : Nat) (c : Int32) (s : dd_S), d + q = D → q < n → MI E s T D V → ∃ r s2, f_X5_pay_4 E n c (nI d) = some r ∧ f_X6_allPay_4 n s c (nI d) = some (r, s2) ∧ FrM s s2 := by
  have hD := hC.1.2.1
  intro q
  induction q with
  | zero =>
    intro d n c s hd hn hM
    obtain ⟨n, rfl⟩ : ∃ m, n = m + 1 := ⟨n - 1, by omega⟩
    unfold f_X5_pay_4 f_X6_allPay_4
    rw [hC.2.1.2.1, hM.2.1.2.1, if_pos ((nI_le_iff (by omega) (by omega)).mpr (by omega)), if_pos ((nI_le_iff (by omega) (by omega)).mpr (by omega))]
    exact ⟨c, s, rfl, rfl, FrM.refl⟩
  | succ q ih =>
    intro d n c s hd hn hM
    obtain ⟨n, rfl⟩ : ∃ m, n = m + 1 := ⟨n - 1, by omega⟩
    obtain ⟨s2, h1, h2⟩ := mpay hC hM (show d < 12 by omega)
    unfold f_X5_pay_4 f_X6_allPay_4
    rw [hC.2.1.2.1, hM.2.1.2.1, if_neg (nI_ge (by omega) (by omega)), if_neg (nI_ge (by omega) (by omega)), dat_ev (by omega), bd_s, h1, bd2_s]
    simp only [lt_e]
    rw [nI_inc]
    obtain ⟨r, s3, r1, r2, r3⟩ := ih (d + 1) n (c + E d 5) s2 (by omega) (by omega) (hM.fr h2)
    exact ⟨r, s3, r1, r2, h2.trans r3⟩
theorem po_pay : PO_pay Inv := by
  intro sC sM ⟨T, D, V, L, hC, hM⟩
  have hD := hC.1.2.1
  have hM0 := hM.thrown (v := 0)
  obtain ⟨r, s2, r1, r2, r3⟩ := pay_both hC D 0 64 0 (st2 sM 0 0 0) (by omega) (by omega) hM0
  refine ⟨r, s2, r1, ?_, T, D, V, L, hC, hM0.fr r3⟩
  unfold f_X6_pay f_X6_allPay
  have r2' : f_X6_allPay_4 64 (st2 sM 0 0 0) 0 0 = some (r, s2) := r2
  rw [lt_e, r2', bd2_s]
theorem week_both {E : dd_S} {T D V v : Nat} {L : Nat → List Nat} (hC : CI E T D V L) (hv : v < 8) : ∀ (q k n : Nat) (c : Int32) (s : dd_S), k + q = 7 → q < n → MI E s T D V → ∃ r s2, f_X5_weekPay_4 E (nI v) n c (nI k) = some r ∧ f_X6_weekOf_4 (nI v) n s c (nI k) = some (r, s2) ∧ FrM s s2 := by
  have hD := hC.1.2.1
  intro q
  induction q with
  | zero =>
    intro k n c s hk hn hM
    obtain ⟨n, rfl⟩ : ∃ m, n = m + 1 := ⟨n - 1, by omega⟩
    have : k = 7 := by omega
    subst this
    unfold f_X5_weekPay_4 f_X6_weekOf_4
    exact ⟨c, s, rfl, rfl, FrM.refl⟩
  | succ q ih =>
    intro k n c s hk hn hM
    obtain ⟨n, rfl⟩ : ∃ m, n = m + 1 := ⟨n - 1, by omega⟩
    unfold f_X5_weekPay_4 f_X6_weekOf_4
    rw [if_neg (show ¬ (7 : Int32) ≤ nI k from nI_ge (b := 7) (by omega) (by omega)), if_neg (show ¬ (7 : Int32) ≤ nI k from nI_ge (b := 7) (by omega) (by omega)), don_ev hv (by omega), bd_s, mAt hM hv (by omega), bd_s]
    rcases hC.2.2.2.1 v k hv (by omega) with e | ⟨d, hd, e⟩
    · rw [e, dat_m1, bd_s, if_pos rfl]
      unfold f_X6_weekOf_35
      simp only [lt_e]
      rw [nI_inc, hC.2.2.2.2.2.2.2 5 (by decide) (by decide)]
      have : ftS E [] 5 = 0 := rfl
      rw [this, Int32.add_zero]
      exact ih (k + 1) n c s (by omega) (by omega) hM
    · obtain ⟨s2, h1, h2⟩ := mpay hC hM (show d < 12 by omega)
      rw [e, dat_ev (by omega), bd_s, if_neg (nI_m1 (by omega)), bd_s, h1, bd2_s]
      unfold f_X6_weekOf_35
      simp only [lt_e]
      rw [nI_inc]
      obtain ⟨r, s3, r1, r2, r3⟩ := ih (k + 1) n (c + E d 5) s2 (by omega) (by omega) (hM.fr h2)
      exact ⟨r, s3, r1, r2, h2.trans r3⟩
theorem week_ev {E s : dd_S} {T D V v : Nat} {L : Nat → List Nat} (hC : CI E T D V L) (hM : MI E s T D V) (hv : v < 8) : ∃ r s2, f_X5_weekPay E (nI v) = some r ∧ f_X6_weekOf s (nI v) = some (r, s2) ∧ FrM s s2 := week_both hC hv 7 0 64 0 s (by omega) (by omega) hM
theorem po_week : PO_week Inv := by
  intro sC sM a ⟨T, D, V, L, hC, hM⟩
  have hV := hC.1.2.2
  have hM0 := hM.thrown (v := 0)
  have e00 : st2 sM 0 0 0 0 0 = 0 := st2_s _ _ _ _
  unfold f_X5_week f_X6_week
  rw [lt_e, cDriver hC.2.1.2.2, bd_s, mDriver hM0.2.1.2.2 (by omega), bd_s]
  rcases rng_d a V (by omega) with ⟨h1, -, -⟩ | ⟨h1, -, -, v, hv, rfl⟩
  · rw [h1, if_pos rfl, if_pos rfl]
    exact ⟨1, 0, sC, 0, st2 (st2 sM 0 0 0) 0 0 1, rfl, Or.inr rfl, rfl, st2_s _ _ _ _, (fun h => absurd h (by decide)), Inv.mk2 hC hM0.thrown⟩
  · obtain ⟨r, s2, r1, r2, r3⟩ := week_ev hC hM0 (show v < 8 by omega)
    rw [h1, if_neg (show ¬ (1 : Int32) = 0 by decide), if_neg (show ¬ (1 : Int32) = 0 by decide), r1, bd_s, r2, bd2_s]
    exact ⟨0, r, sC, r, s2, rfl, Or.inl rfl, rfl, (r3.2 0 (Or.inl rfl)).trans e00, fun _ => rfl, Inv.mk2 hC (hM0.fr r3)⟩
