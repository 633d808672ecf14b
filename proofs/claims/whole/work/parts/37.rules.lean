/-! WAYS AND RULES: every duty is measured anew -/
theorem md_loop {D : Nat} (hD : D ≤ 12) {L : Nat → List Nat} : ∀ (q d n : Nat) (sg : dd_S), d + q = D → q < n → sg 30 5 = nI D → (∀ e, e < 12 → DutyAt sg e (L e) ∧ (L e).length ≤ 40 ∧ ∀ t ∈ L e, TrOk sg t) →
    ∃ s2, f_X5_measureDuties_2 n sg (nI d) = some s2 ∧ (∀ k, ¬ (d ≤ k ∧ k < D) → s2 k = sg k) ∧ ∀ e, d ≤ e → e < D → DutyAt s2 e (L e) ∧ ∀ j, 2 ≤ j → j ≤ 8 → s2 e j = ftS sg (L e) j := by
  intro q
  induction q with
  | zero =>
    intro d n sg hd hn h5 hL
    obtain ⟨n, rfl⟩ : ∃ m, n = m + 1 := ⟨n - 1, by omega⟩
    unfold f_X5_measureDuties_2
    rw [h5, if_pos ((nI_le_iff (by omega) (by omega)).mpr (by omega))]
    exact ⟨sg, rfl, fun _ _ => rfl, fun e h1 h2 => absurd h2 (by omega)⟩
  | succ q ih =>
    intro d n sg hd hn h5 hL
    obtain ⟨n, rfl⟩ : ∃ m, n = m + 1 := ⟨n - 1, by omega⟩
    obtain ⟨hDu, h40, hT⟩ := hL d (by omega)
    obtain ⟨s1, a1, a2, a3, a4⟩ := meas_ev (show d < 15 by omega) h40 hDu hT
    unfold f_X5_measureDuties_2
    rw [h5, if_neg (nI_ge (by omega) (by omega)), dat_ev (by omega), bd_s, a1, bd_s, lt_e, nI_inc]
    have hE : EnvEq sg s1 := fun k hk => a2 k (by omega)
    obtain ⟨s2, b1, b2, b3⟩ := ih (d + 1) n s1 (by omega) (by omega) (by rw [a2 30 (by omega)]; exact h5) (fun e he => by
      obtain ⟨c1, c2, c3⟩ := hL e he
      refine ⟨?_, c2, fun t ht => (c3 t ht).env hE⟩
      by_cases q : e = d
      · subst q; exact a3
      · exact ⟨by rw [a2 e q]; exact c1.1, by rw [a2 (15 + e) (by omega)]; exact c1.2⟩)
    refine ⟨s2, b1, fun k hk => (b2 k (by omega)).trans (a2 k (by omega)), fun e h1 h2 => ?_⟩
    by_cases q : e = d
    · subst q
      have hk : s2 e = s1 e := b2 e (by omega)
      have hk2 : s2 (15 + e) = s1 (15 + e) := b2 _ (by omega)
      exact ⟨⟨by rw [hk]; exact a3.1, by rw [hk2]; exact a3.2⟩, fun j h3 h4 => by rw [hk]; exact a4 j h3 h4⟩
    · obtain ⟨c1, c2⟩ := b3 e (by omega) h2
      exact ⟨c1, fun j h3 h4 => by rw [c2 j h3 h4, hE.ft]⟩
/-- a row of a duty that isn't there is empty -/
theorem CI.none {E : dd_S} {T D V d : Nat} {L : Nat → List Nat} (hC : CI E T D V L) (h1 : D ≤ d) (h2 : d < 12) : L d = [] := by
  have hT := hC.1.1
  have hD := hC.1.2.1
  cases hl : L d with
  | nil => rfl
  | cons x r =>
    have hx := ((hC.2.2.2.2.2.1 d h2).1.2 x).mp (by rw [hl]; simp)
    rcases hC.2.2.2.2.1 x (by omega) with e | ⟨-, d2, hd2, e⟩
    · rw [hx.2] at e; exact absurd e (nI_m1 (by omega))
    · rw [hx.2] at e
      have := nI_inj (by omega) (by omega) e
      omega
/-- after new numbers in the tables and a measuring of all -/
theorem CI.again {E E2 : dd_S} {T D V : Nat} {L : Nat → List Nat} (hC : CI E T D V L) (hf : ∀ k, k ≠ 32 → ¬ 53 ≤ k → E2 k = E k) (hB : EnvB E2 T) : ∃ s2, f_X5_measureDuties E2 = some s2 ∧ CI s2 T D V L ∧ (∀ k, 12 ≤ k → s2 k = E2 k) := by
  obtain ⟨h1, h2, h3, h4, h5, h6, h7⟩ := id hC
  have hD := h1.2.1
  obtain ⟨s2, a1, a2, a3⟩ := md_loop hD (L := L) D 0 64 E2 (by omega) (by omega) (by rw [hf 30 (by omega) (by omega)]; exact h2.2.1) (fun e he => by
    obtain ⟨c1, c2, c3⟩ := h6 e he
    refine ⟨⟨by rw [hf e (by omega) (by omega)]; exact c2.1, by rw [hf (15 + e) (by omega) (by omega)]; exact c2.2⟩, by have := c1.len; omega, hB.ok (fun t ht => c1.lt ht)⟩)
  have hk : ∀ k, 12 ≤ k → s2 k = E2 k := fun k hk => a2 k (by omega)
  have hE : EnvEq E2 s2 := fun k hk2 => hk k (by omega)
  refine ⟨s2, a1, ⟨h1, ⟨by rw [hk 31 (by omega), hf 31 (by omega) (by omega)]; exact h2.1, by rw [hk 30 (by omega), hf 30 (by omega) (by omega)]; exact h2.2.1, by rw [hk 30 (by omega), hf 30 (by omega) (by omega)]; exact h2.2.2⟩, hB.env hE, fun v k hv hk3 => by rw [hk (45 + v) (by omega), hf (45 + v) (by omega) (by omega)]; exact h4 v k hv hk3, fun t ht => by rw [hk 34 (by omega), hf 34 (by omega) (by omega)]; exact h5 t ht, fun d hd => ?_, by rw [hk 14 (by omega), hf 14 (by omega) (by omega)]; exact h7.1, fun j g2 g8 => by rw [hk 14 (by omega), hf 14 (by omega) (by omega)]; exact h7.2 j g2 g8⟩, hk⟩
  obtain ⟨c1, c2, c3⟩ := h6 d hd
  refine ⟨by rw [hk 43 (by omega), hf 43 (by omega) (by omega), hk 34 (by omega), hf 34 (by omega) (by omega)]; exact c1, ?_⟩
  by_cases q : d < D
  · obtain ⟨e1, e2⟩ := a3 d (by omega) q
    exact ⟨e1, fun j g2 g8 => by rw [e2 j g2 g8, hE.ft]⟩
  · have hn := hC.none (show D ≤ d by omega) hd
    have hkd : s2 d = E d := by rw [a2 d (by omega), hf d (by omega) (by omega)]
    exact ⟨⟨by rw [hkd]; exact c2.1, by rw [hk (15 + d) (by omega), hf (15 + d) (by omega) (by omega)]; exact c2.2⟩, fun j g2 g8 => by rw [hkd, c3 j g2 g8, hn]; rfl⟩
theorem wrong_both {E : dd_S} {T D V : Nat} {L : Nat → List Nat} {a1 a2 a3 a4 : Int32} (hC : CI E T D V L) : ∀ (q d n : Nat) (c : Int32) (s : dd_S), d + q = D → q < n → MI E s T D V → ∃ r s2, f_X5_wrongDuties_4 E n c (nI d) = some r ∧ f_X6_setRules_86 a1 a2 a3 a4 n s c (nI d) = some (r, s2) ∧ FrM s s2 := by
  have hD := hC.1.2.1
  intro q
  induction q with
  | zero =>
    intro d n c s hd hn hM
    obtain ⟨n, rfl⟩ : ∃ m, n = m + 1 := ⟨n - 1, by omega⟩
    unfold f_X5_wrongDuties_4 f_X6_setRules_86
    rw [hC.2.1.2.1, hM.2.1.2.1, if_pos ((nI_le_iff (by omega) (by omega)).mpr (by omega)), if_pos ((nI_le_iff (by omega) (by omega)).mpr (by omega))]
    exact ⟨c, s, rfl, rfl, FrM.refl⟩
  | succ q ih =>
    intro d n c s hd hn hM
    obtain ⟨n, rfl⟩ : ∃ m, n = m + 1 := ⟨n - 1, by omega⟩
    obtain ⟨s2, b1, b2⟩ := mlook hC hM (show d < 12 by omega)
    have h8 := (hC.2.2.2.2.2.1 d (by omega)).2.2 8 (by decide) (by decide)
    unfold f_X5_wrongDuties_4 f_X6_setRules_86
    rw [hC.2.1.2.1, hM.2.1.2.1, if_neg (nI_ge (by omega) (by omega)), if_neg (nI_ge (by omega) (by omega)), dat_ev (by omega), bd_s, b1, bd2_s, ← h8]
    have hM2 := hM.fr b2.fr
    by_cases e : E d 8 = 0
    · rw [if_pos e, if_pos e]
      unfold f_X5_wrongDuties_26 f_X6_setRules_111
      simp only [lt_e]
      rw [nI_inc]
      obtain ⟨r, s3, r1, r2, r3⟩ := ih (d + 1) n (c + 1) s2 (by omega) (by omega) hM2
      exact ⟨r, s3, r1, r2, b2.fr.trans r3⟩
    · rw [if_neg e, if_neg e]
      unfold f_X5_wrongDuties_26 f_X6_setRules_111
      simp only [lt_e]
      rw [nI_inc, Int32.add_zero]
      obtain ⟨r, s3, r1, r2, r3⟩ := ih (d + 1) n c s2 (by omega) (by omega) hM2
      exact ⟨r, s3, r1, r2, b2.fr.trans r3⟩
theorem mRng (s : dd_S) (a lo hi : Int32) : f_X6_isIn s a lo hi = some (if a < lo then 0 else if hi < a then 0 else 1) := by
  unfold f_X6_isIn
  split
  · rfl
  · split <;> rfl
theorem po_setRules : PO_setRules Inv := by
  intro sC sM a b c d ⟨T, D, V, L, hC, hM⟩
  have hD := hC.1.2.1
  have hM0 := hM.thrown (v := 0)
  have e00 : st2 sM 0 0 0 0 0 = 0 := st2_s _ _ _ _
  have hno : ∃ (k0 : Nat) (r0 : Int32) (sC2 : dd_S) (bb : Int32) (sM2 : dd_S), (some (2, 0, sC) : Option (Nat × Int32 × dd_S)) = some (k0, r0, sC2) ∧ (k0 = 0 ∨ k0 = 2) ∧ f_X6_setRules_53 a b c d (st2 sM 0 0 0) = some (bb, sM2) ∧ sM2 0 0 = (if k0 = 0 then 0 else 1) ∧ (k0 = 0 → r0 = bb) ∧ Inv sC2 sM2 := ⟨2, 0, sC, 0, st2 (st2 sM 0 0 0) 0 0 1, rfl, Or.inr rfl, rfl, st2_s _ _ _ _, (fun h => absurd h (by decide)), Inv.mk2 hC hM0.thrown⟩
  have z : ¬ (1 : Int32) = 0 := by decide
  unfold f_X5_setRules f_X6_setRules
  rw [lt_e (st2 sM 0 0 0), mRng, bd_s]
  by_cases c1 : a < 60
  · rw [if_pos c1, if_pos c1, if_pos rfl]; exact hno
  rw [if_neg c1, if_neg c1]
  by_cases c2 : 600 < a
  · rw [if_pos c2, if_pos c2, if_pos rfl]; exact hno
  rw [if_neg c2, if_neg c2, if_neg z, mRng, bd_s]
  by_cases c3 : b < 240
  · rw [if_pos c3, if_pos c3, if_pos rfl]; exact hno
  rw [if_neg c3, if_neg c3]
  by_cases c4 : 1000 < b
  · rw [if_neg (i32_nle.mpr c4), if_pos c4, if_pos rfl]; exact hno
  rw [if_pos (i32_nlt.mp c4), if_neg c4, if_neg z, mRng, bd_s]
  by_cases c5 : c < 10
  · rw [if_pos c5, if_pos c5, if_pos rfl]; exact hno
  rw [if_neg c5, if_neg c5]
  by_cases c6 : 90 < c
  · rw [if_pos c6, if_pos c6, if_pos rfl]; exact hno
  rw [if_neg c6, if_neg c6, if_neg z, mRng, bd_s]
  by_cases c7 : d < 0
  · rw [if_pos c7, if_pos c7, if_pos rfl]; exact hno
  rw [if_neg c7, if_neg c7]
  by_cases c8 : 900 < d
  · rw [if_neg (i32_nle.mpr c8), if_pos c8, if_pos rfl]; exact hno
  rw [if_pos (i32_nlt.mp c8), if_neg c8, if_neg z]
  simp only [lt_e]
  generalize hE2 : st2 (st2 (st2 (st2 sC 32 0 a) 32 1 b) 32 2 c) 32 3 d = E2
  generalize hS2 : st2 (st2 (st2 (st2 (st2 sM 0 0 0) 0 11 a) 0 12 b) 0 13 c) 0 14 d = S2
  have k1 : ∀ k, k ≠ 32 → E2 k = sC k := fun k hk => by rw [← hE2, st2_k _ _ _ _ hk, st2_k _ _ _ _ hk, st2_k _ _ _ _ hk, st2_k _ _ _ _ hk]
  have j0 : E2 32 0 = a := by rw [← hE2]; simp [st2_at]
  have j1 : E2 32 1 = b := by rw [← hE2]; simp [st2_at]
  have j2 : E2 32 2 = c := by rw [← hE2]; simp [st2_at]
  have j3 : E2 32 3 = d := by rw [← hE2]; simp [st2_at]
  have m1 : ∀ k, k ≠ 0 → S2 k = sM k := fun k hk => by rw [← hS2, st2_k _ _ _ _ hk, st2_k _ _ _ _ hk, st2_k _ _ _ _ hk, st2_k _ _ _ _ hk, st2_k _ _ _ _ hk]
  have m2 : ∀ j, j ≠ 0 → ¬ (11 ≤ j ∧ j ≤ 14) → S2 0 j = sM 0 j := fun j h1 h2 => by rw [← hS2, st2_j _ _ _ _ (show j ≠ 14 by omega), st2_j _ _ _ _ (show j ≠ 13 by omega), st2_j _ _ _ _ (show j ≠ 12 by omega), st2_j _ _ _ _ (show j ≠ 11 by omega), st2_j _ _ _ _ h1]
  have n11 : S2 0 11 = a := by rw [← hS2]; simp [st2_at]
  have n12 : S2 0 12 = b := by rw [← hS2]; simp [st2_at]
  have n13 : S2 0 13 = c := by rw [← hS2]; simp [st2_at]
  have n14 : S2 0 14 = d := by rw [← hS2]; simp [st2_at]
  have n0 : S2 0 0 = 0 := by rw [← hS2]; simp [st2_at]
  have hB0 := hC.2.2.1
  have hB : EnvB E2 T := by
    refine ⟨fun t ht => ?_, fun x y hx hy => ?_, ?_⟩
    · have := hB0.1 t ht
      refine ⟨⟨this.1.1, by rw [k1 41 (by decide)]; exact this.1.2.1, by rw [k1 42 (by decide)]; exact this.1.2.2⟩, ?_⟩
      rw [k1 43 (by decide), k1 44 (by decide)]; exact this.2
    · rw [k1 (53 + x) (by omega)]; exact hB0.2.1 x y hx hy
    · rw [j2]
      have := Int32.le_iff_toInt_le.mp (i32_nlt.mp c5)
      have e10 : (10 : Int32).toInt = 10 := by decide
      omega
  obtain ⟨s2, a1, a2, a3⟩ := hC.again (E2 := E2) (fun k h1 _ => k1 k h1) hB
  have hMs : MI s2 S2 T D V := by
    obtain ⟨l1, l2, l3, l4, l5, l6, l7, l8, l9⟩ := hM.1
    refine ⟨⟨?_, ?_, ?_, ?_, fun x y hx hy => ?_, ?_, ?_, ?_, ?_⟩, ⟨by rw [m2 2 (by decide) (by decide)]; exact hM.2.1.1, by rw [m2 8 (by decide) (by decide)]; exact hM.2.1.2.1, by rw [m2 9 (by decide) (by decide)]; exact hM.2.1.2.2⟩, fun t ht => by rw [m1 6 (by decide), a3 34 (by decide), k1 34 (by decide)]; exact hM.2.2.1 t ht, fun v k hv hk => by rw [m1 7 (by decide), a3 (45 + v) (by omega), k1 (45 + v) (by omega)]; exact hM.2.2.2 v k hv hk⟩
    · rw [m1 2 (by decide), a3 41 (by decide), k1 41 (by decide)]; exact l1
    · rw [m1 3 (by decide), a3 42 (by decide), k1 42 (by decide)]; exact l2
    · rw [m1 4 (by decide), a3 43 (by decide), k1 43 (by decide)]; exact l3
    · rw [m1 5 (by decide), a3 44 (by decide), k1 44 (by decide)]; exact l4
    · rw [m1 1 (by decide), a3 (53 + x) (by omega), k1 (53 + x) (by omega)]; exact l5 x y hx hy
    · rw [n11, a3 32 (by decide), j0]
    · rw [n12, a3 32 (by decide), j1]
    · rw [n13, a3 32 (by decide), j2]
    · rw [n14, a3 32 (by decide), j3]
  obtain ⟨r, s3, r1, r2, r3⟩ := wrong_both (a1 := a) (a2 := b) (a3 := c) (a4 := d) a2 D 0 64 0 S2 (by omega) (by omega) hMs
  have r1' : f_X5_wrongDuties s2 = some r := r1
  have r2' : f_X6_setRules_86 a b c d 64 S2 0 0 = some (r, s3) := r2
  rw [a1, bd_s, r1', bd_s, r2']
  exact ⟨0, r, s2, r, s3, rfl, Or.inl rfl, rfl, (r3.2 0 (Or.inl rfl)).trans n0, fun _ => rfl, Inv.mk2 a2 (hMs.fr r3)⟩
