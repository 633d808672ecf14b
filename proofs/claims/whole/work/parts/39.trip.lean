/-! addTrip: what is measured depends on the row's own trips alone -/
def EnvOn (l : List Nat) (s1 s2 : dd_S) : Prop := s2 32 = s1 32 ∧ (∀ k, 53 ≤ k → s2 k = s1 k) ∧ ∀ t ∈ l, s2 41 t = s1 41 t ∧ s2 42 t = s1 42 t ∧ s2 43 t = s1 43 t ∧ s2 44 t = s1 44 t
theorem EnvOn.wyE {l : List Nat} {s1 s2 : dd_S} (h : EnvOn l s1 s2) (a b : Int32) : wy s2 a b = wy s1 a b := by
  unfold wy; rw [h.2.1 _ (by omega)]
theorem EnvOn.tail {x : Nat} {l : List Nat} {s1 s2 : dd_S} (h : EnvOn (x :: l) s1 s2) : EnvOn l s1 s2 := ⟨h.1, h.2.1, fun t ht => h.2.2 t (List.mem_cons_of_mem _ ht)⟩
theorem EnvOn.mstE {s1 s2 : dd_S} : ∀ (r : List Nat) (e : Nat) (dr br wk mo rt : Int32), EnvOn (e :: r) s1 s2 → mst s2 e r dr br wk mo rt = mst s1 e r dr br wk mo rt := by
  intro r
  induction r with
  | nil =>
    intro e dr br wk mo rt h
    have he := h.2.2 e (by simp)
    unfold mst; rw [h.wyE, he.2.1]
  | cons x r ih =>
    intro e dr br wk mo rt h
    have he := h.2.2 e (by simp)
    have hx := h.2.2 x (by simp)
    unfold mst
    rw [h.wyE, he.2.1, he.2.2.2, hx.1, hx.2.2.1, hx.2.2.2, h.1, ih _ _ _ _ _ _ h.tail, ih _ _ _ _ _ _ h.tail]
theorem EnvOn.ft {l : List Nat} {s1 s2 : dd_S} (h : EnvOn l s1 s2) (j : Nat) : ftS s2 l j = ftS s1 l j := by
  cases l with
  | nil => rfl
  | cons x r =>
    have hx := h.2.2 x (by simp)
    have hy := h.2.2 ((x :: r).getLast (by simp)) (List.getLast_mem _)
    have eb : bgS s2 x = bgS s1 x := by unfold bgS; rw [h.wyE, hx.1, hx.2.2.1]
    have ee : enS s2 ((x :: r).getLast (by simp)) = enS s1 ((x :: r).getLast (by simp)) := by unfold enS; rw [h.wyE, hy.2.1, hy.2.2.2]
    have em : mstS s2 x r = mstS s1 x r := by
      unfold mstS
      rw [EnvOn.mstE r x _ _ _ _ _ h, h.wyE, hx.1, hx.2.2.1, hx.2.2.2, eb, ee]
    simp only [ftS, em, eb, ee, h.1]
theorem po_addTrip : PO_addTrip Inv := by
  intro sC sM a b c d ⟨T, D, V, L, hC, hM⟩
  have hT := hC.1.1
  have hD := hC.1.2.1
  have hM0 := hM.thrown (v := 0)
  have e00 : st2 sM 0 0 0 0 0 = 0 := st2_s _ _ _ _
  have hno1 : ∃ (k0 : Nat) (r0 : Int32) (sC2 : dd_S) (bb : Int32) (sM2 : dd_S), f_X5_addTrip_14 a b c d sC = some (k0, r0, sC2) ∧ (k0 = 0 ∨ k0 = 1 ∨ k0 = 2 ∨ k0 = 3) ∧ f_X6_addTrip_19 a b c d (st2 sM 0 0 0) = some (bb, sM2) ∧ sM2 0 0 = (if k0 = 0 then 0 else if k0 = 1 then 1 else if k0 = 2 then 2 else 3) ∧ (k0 = 0 → r0 = bb) ∧ Inv sC2 sM2 := ⟨1, 0, sC, 0, st2 (st2 sM 0 0 0) 0 0 1, rfl, Or.inr (Or.inl rfl), rfl, st2_s _ _ _ _, (fun h => absurd h (by decide)), Inv.mk2 hC hM0.thrown⟩
  have hno2 : ∃ (k0 : Nat) (r0 : Int32) (sC2 : dd_S) (bb : Int32) (sM2 : dd_S), (some (2, 0, sC) : Option (Nat × Int32 × dd_S)) = some (k0, r0, sC2) ∧ (k0 = 0 ∨ k0 = 1 ∨ k0 = 2 ∨ k0 = 3) ∧ f_X6_addTrip_55 a b c d (st2 sM 0 0 0) = some (bb, sM2) ∧ sM2 0 0 = (if k0 = 0 then 0 else if k0 = 1 then 1 else if k0 = 2 then 2 else 3) ∧ (k0 = 0 → r0 = bb) ∧ Inv sC2 sM2 := ⟨2, 0, sC, 0, st2 (st2 sM 0 0 0) 0 0 2, rfl, Or.inr (Or.inr (Or.inl rfl)), rfl, st2_s _ _ _ _, (fun h => absurd h (by decide)), Inv.mk2 hC hM0.thrown⟩
  have z : ¬ (1 : Int32) = 0 := by decide
  have e0 : (0 : Int32).toInt = 0 := by decide
  have e1 : (1 : Int32).toInt = 1 := by decide
  have e240 : (240 : Int32).toInt = 240 := by decide
  have e1799 : (1799 : Int32).toInt = 1799 := by decide
  have hcl := c.toInt_lt
  have hdl := d.toInt_lt
  have hcg := c.le_toInt
  have hdg := d.le_toInt
  have hat : f_X5_areTimesOfTrip sC c d = some (if c < 0 then 0 else if d ≤ c then 0 else if 1799 < d then 0 else if 240 < d - c then 0 else 1) := by
    unfold f_X5_areTimesOfTrip
    split
    · rfl
    · split
      · rfl
      · split
        · rfl
        · split <;> rfl
  unfold f_X5_addTrip f_X6_addTrip
  rw [lt_e (st2 sM 0 0 0), cPoint, bd_s, mPoint, bd_s]
  rcases rng_d a 6 (by decide) with ⟨h1, -, -⟩ | ⟨h1, -, -, x, hx, rfl⟩
  · rw [h1, if_pos rfl, if_pos rfl]; exact hno1
  rw [h1, if_neg z, if_neg z, cPoint, bd_s, mPoint, bd_s]
  rcases rng_d b 6 (by decide) with ⟨g1, -, -⟩ | ⟨g1, -, -, y, hy, rfl⟩
  · rw [g1, if_pos rfl, if_pos rfl]; exact hno1
  rw [g1, if_neg z, if_neg z, hat, bd_s]
  by_cases c1 : c < 0
  · rw [if_pos c1, if_pos c1, if_pos rfl]; exact hno2
  rw [if_neg c1, if_neg c1, mRng, bd_s]
  have c1' := Int32.le_iff_toInt_le.mp (i32_nlt.mp c1)
  by_cases c2 : 1799 < d
  · have : (if d ≤ c then (0 : Int32) else if 1799 < d then 0 else if 240 < d - c then 0 else 1) = 0 := by rw [if_pos c2]; split <;> rfl
    rw [this, if_pos rfl]
    have : (if d < 0 then (0 : Int32) else if 1799 < d then 0 else 1) = 0 := by rw [if_pos c2]; split <;> rfl
    rw [this, if_pos rfl]; exact hno2
  have c2' := Int32.le_iff_toInt_le.mp (i32_nlt.mp c2)
  by_cases c3 : d ≤ c
  · rw [if_pos c3, if_pos rfl]
    have c3' := Int32.le_iff_toInt_le.mp c3
    by_cases c4 : d < 0
    · rw [if_pos c4, if_pos rfl]; exact hno2
    · have c4' := Int32.le_iff_toInt_le.mp (i32_nlt.mp c4)
      have hsub : (d - c).toInt = d.toInt - c.toInt := i32_sub (by omega) (by omega)
      rw [if_neg c4, if_neg c2, if_neg z, mRng, bd_s, if_pos (show d - c < 1 by rw [Int32.lt_iff_toInt_lt, hsub]; omega), if_pos rfl]; exact hno2
  have c3' := Int32.lt_iff_toInt_lt.mp (i32_nle.mp c3)
  have hsub : (d - c).toInt = d.toInt - c.toInt := i32_sub (by omega) (by omega)
  have c4 : ¬ d < 0 := fun h => by have := Int32.lt_iff_toInt_lt.mp h; omega
  rw [if_neg c3, if_neg c2, if_neg c4, if_neg c2, if_neg z, mRng, bd_s, if_neg (show ¬ d - c < 1 from fun h => by rw [Int32.lt_iff_toInt_lt, hsub] at h; omega)]
  by_cases c5 : 240 < d - c
  · rw [if_pos c5, if_pos rfl, if_pos rfl]; exact hno2
  rw [if_neg c5, if_neg z, if_neg z, hC.2.1.1, hM0.2.1.1]
  by_cases c6 : T = 40
  · subst c6
    rw [if_neg (show ¬ nI 40 < (40 : Int32) by decide), if_pos (show nI 40 = (40 : Int32) from rfl), no_ev, bd2_s]
    exact ⟨3, 0, sC, 0, st2 (st2 sM 0 0 0) 0 0 3, rfl, Or.inr (Or.inr (Or.inr rfl)), rfl, st2_s _ _ _ _, (fun h => absurd h (by decide)), Inv.mk2 hC hM0.thrown⟩
  have hT40 : T < 40 := by omega
  have hap : f_X4_append sC (nI x) (nI y) c d = some (nI T, st2 (st2 (st2 (st2 (st2 sC 41 T (nI x)) 42 T (nI y)) 43 T c) 44 T d) 31 5 (nI (T + 1))) := by
    unfold f_X4_append
    rw [hC.2.1.1, if_pos (show nI T < (40 : Int32) from (nI_lt_iff (b := 40) (by omega) (by omega)).mpr hT40), gd_p (ix_ok hT40 (by decide))]
    simp only [lt_e, st2_k _ _ _ _ (show 31 ≠ 41 by decide), st2_k _ _ _ _ (show 31 ≠ 42 by decide), st2_k _ _ _ _ (show 31 ≠ 43 by decide), st2_k _ _ _ _ (show 31 ≠ 44 by decide), hC.2.1.1, nI_clamp (show T < 2 ^ 31 by omega)]
    rw [gd_p (ix_ok hT40 (by decide)), gd_p (ix_ok hT40 (by decide)), gd_p (ix_ok hT40 (by decide)), nI_inc]
  rw [if_pos (show nI T < (40 : Int32) from (nI_lt_iff (b := 40) (by omega) (by omega)).mpr hT40), hap, bd2_s, if_neg (show ¬ nI T = (40 : Int32) from fun h => c6 (nI_inj (b := 40) (by omega) (by omega) h)), gd_p (ix_ok hT40 (by decide))]
  simp only [lt_e, st2_k _ _ _ _ (show 0 ≠ 2 by decide), st2_k _ _ _ _ (show 0 ≠ 3 by decide), st2_k _ _ _ _ (show 0 ≠ 4 by decide), st2_k _ _ _ _ (show 0 ≠ 5 by decide), st2_k _ _ _ _ (show 0 ≠ 6 by decide), hM0.2.1.1, nI_clamp (show T < 2 ^ 31 by omega)]
  rw [gd_p (ix_ok hT40 (by decide)), gd_p (ix_ok hT40 (by decide)), gd_p (ix_ok hT40 (by decide)), gd_p (ix_ok hT40 (by decide)), st2_s, nI_inc, nI_pred]
  generalize hE2 : st2 (st2 (st2 (st2 (st2 sC 41 T (nI x)) 42 T (nI y)) 43 T c) 44 T d) 31 5 (nI (T + 1)) = E2
  generalize hS2 : st2 (st2 (st2 (st2 (st2 (st2 (st2 sM 0 0 0) 2 T (nI x)) 3 T (nI y)) 4 T c) 5 T d) 6 T (-1)) 0 2 (nI (T + 1)) = S2
  have k1 : ∀ k, k ≠ 31 → k ≠ 41 → k ≠ 42 → k ≠ 43 → k ≠ 44 → E2 k = sC k := fun k q1 q2 q3 q4 q5 => by rw [← hE2, st2_k _ _ _ _ q1, st2_k _ _ _ _ q5, st2_k _ _ _ _ q4, st2_k _ _ _ _ q3, st2_k _ _ _ _ q2]
  have k31 : E2 31 5 = nI (T + 1) := by rw [← hE2]; exact st2_s _ _ _ _
  have k41 : E2 41 = upd (sC 41) T (nI x) := by rw [← hE2]; simp [st2, dd_up]
  have k42 : E2 42 = upd (sC 42) T (nI y) := by rw [← hE2]; simp [st2, dd_up]
  have k43 : E2 43 = upd (sC 43) T c := by rw [← hE2]; simp [st2, dd_up]
  have k44 : E2 44 = upd (sC 44) T d := by rw [← hE2]; simp [st2, dd_up]
  have m2 : S2 2 = upd (sM 2) T (nI x) := by rw [← hS2]; simp [st2, dd_up]
  have m3 : S2 3 = upd (sM 3) T (nI y) := by rw [← hS2]; simp [st2, dd_up]
  have m4 : S2 4 = upd (sM 4) T c := by rw [← hS2]; simp [st2, dd_up]
  have m5 : S2 5 = upd (sM 5) T d := by rw [← hS2]; simp [st2, dd_up]
  have m6 : S2 6 = upd (sM 6) T (-1) := by rw [← hS2]; simp [st2, dd_up]
  have mk : ∀ k, k ≠ 0 → ¬ (2 ≤ k ∧ k ≤ 6) → S2 k = sM k := fun k q1 q2 => by rw [← hS2, st2_k _ _ _ _ q1, st2_k _ _ _ _ (show k ≠ 6 by omega), st2_k _ _ _ _ (show k ≠ 5 by omega), st2_k _ _ _ _ (show k ≠ 4 by omega), st2_k _ _ _ _ (show k ≠ 3 by omega), st2_k _ _ _ _ (show k ≠ 2 by omega), st2_k _ _ _ _ q1]
  have m0 : ∀ j, S2 0 j = if j = 2 then nI (T + 1) else st2 sM 0 0 0 0 j := fun j => by
    rw [← hS2, st2_at, if_pos rfl, st2_k _ _ _ _ (show 0 ≠ 6 by decide), st2_k _ _ _ _ (show 0 ≠ 5 by decide), st2_k _ _ _ _ (show 0 ≠ 4 by decide), st2_k _ _ _ _ (show 0 ≠ 3 by decide), st2_k _ _ _ _ (show 0 ≠ 2 by decide)]
  have uat : ∀ (f : Nat → Int32) (v : Int32), upd f T v T = v := fun f v => if_pos rfl
  have une : ∀ (f : Nat → Int32) (v : Int32) {t : Nat}, t ≠ T → upd f T v t = f t := fun f v t h => if_neg h
  have hB0 := hC.2.2.1
  have hB : EnvB E2 (T + 1) := by
    refine ⟨fun t ht => ?_, fun p q hp hq => by rw [k1 (53 + p) (by omega) (by omega) (by omega) (by omega) (by omega)]; exact hB0.2.1 p q hp hq, by rw [k1 32 (by decide) (by decide) (by decide) (by decide) (by decide)]; exact hB0.2.2⟩
    rw [k43, k44]
    by_cases e : t = T
    · subst e
      rw [uat, uat]
      exact ⟨⟨hT40, by rw [k41, uat]; exact ⟨x, hx, rfl⟩, by rw [k42, uat]; exact ⟨y, hy, rfl⟩⟩, by omega, by omega, by omega⟩
    · have := hB0.1 t (by omega)
      rw [une _ _ e, une _ _ e]
      exact ⟨⟨this.1.1, by rw [k41, une _ _ e]; exact this.1.2.1, by rw [k42, une _ _ e]; exact this.1.2.2⟩, this.2⟩
  have hdu : sC 34 T = -1 := by
    rcases hC.2.2.2.2.1 T hT40 with e | ⟨h, -⟩
    · exact e
    · omega
  have k34 : E2 34 = sC 34 := k1 34 (by decide) (by decide) (by decide) (by decide) (by decide)
  have hC2 : CI E2 (T + 1) D V L := by
    obtain ⟨h1, h2, h3, h4, h5, h6, h7⟩ := id hC
    refine ⟨⟨by omega, h1.2⟩, ⟨k31, by rw [k1 30 (by decide) (by decide) (by decide) (by decide) (by decide)]; exact h2.2.1, by rw [k1 30 (by decide) (by decide) (by decide) (by decide) (by decide)]; exact h2.2.2⟩, hB, fun v k hv hk => by rw [k1 (45 + v) (by omega) (by omega) (by omega) (by omega) (by omega)]; exact h4 v k hv hk, fun t ht => ?_, fun e he => ?_, by rw [k1 14 (by decide) (by decide) (by decide) (by decide) (by decide)]; exact h7.1, fun j g2 g8 => by rw [k1 14 (by decide) (by decide) (by decide) (by decide) (by decide)]; exact h7.2 j g2 g8⟩
    · rw [k34]
      rcases h5 t ht with q | ⟨q, q2⟩
      · exact Or.inl q
      · exact Or.inr ⟨by omega, q2⟩
    · obtain ⟨c1, c2, c3⟩ := h6 e he
      have hlt : ∀ t ∈ L e, t ≠ T := fun t ht => by have := c1.lt ht; omega
      have hOn : EnvOn (L e) sC E2 := ⟨k1 32 (by decide) (by decide) (by decide) (by decide) (by decide), fun k hk => k1 k (by omega) (by omega) (by omega) (by omega) (by omega), fun t ht => by rw [k41, k42, k43, k44]; exact ⟨une _ _ (hlt t ht), une _ _ (hlt t ht), une _ _ (hlt t ht), une _ _ (hlt t ht)⟩⟩
      have hke : E2 e = sC e := k1 e (by omega) (by omega) (by omega) (by omega) (by omega)
      refine ⟨⟨?_, fun t => ?_⟩, ⟨by rw [hke]; exact c2.1, by rw [k1 (15 + e) (by omega) (by omega) (by omega) (by omega) (by omega)]; exact c2.2⟩, fun j g2 g8 => by rw [hke, hOn.ft]; exact c3 j g2 g8⟩
      · refine List.Pairwise.imp_of_mem (fun {p q} hp hq hpq => ?_) c1.1
        rw [k43, une _ _ (hlt p hp), une _ _ (hlt q hq)]
        exact hpq
      · rw [k34, c1.2 t]
        constructor
        · rintro ⟨q1, q2⟩; exact ⟨by omega, q2⟩
        · rintro ⟨q1, q2⟩
          by_cases e2 : t = T
          · subst e2
            rw [hdu] at q2
            exact absurd q2.symm (nI_m1 (by omega))
          · exact ⟨by omega, q2⟩
  have hM2 : MI E2 S2 (T + 1) D V := by
    obtain ⟨l1, l2, l3, l4, l5, l6, l7, l8, l9⟩ := hM.1
    have k32 := k1 32 (by decide) (by decide) (by decide) (by decide) (by decide)
    refine ⟨⟨by rw [m2, k41, l1], by rw [m3, k42, l2], by rw [m4, k43, l3], by rw [m5, k44, l4], fun p q hp hq => by rw [mk 1 (by decide) (by decide), k1 (53 + p) (by omega) (by omega) (by omega) (by omega) (by omega)]; exact l5 p q hp hq, by rw [m0, k32]; exact l6, by rw [m0, k32]; exact l7, by rw [m0, k32]; exact l8, by rw [m0, k32]; exact l9⟩, ⟨by rw [m0]; rfl, by rw [m0]; exact hM0.2.1.2.1, by rw [m0]; exact hM0.2.1.2.2⟩, fun t ht => ?_, fun v k hv hk => by rw [mk 7 (by decide) (by decide), k1 (45 + v) (by omega) (by omega) (by omega) (by omega) (by omega)]; exact hM.2.2.2 v k hv hk⟩
    rw [m6, k34]
    by_cases e : t = T
    · subst e; rw [uat]; exact hdu.symm
    · rw [une _ _ e]; exact hM.2.2.1 t (by omega)
  exact ⟨0, nI T, E2, nI T, S2, rfl, Or.inl rfl, rfl, by rw [m0]; exact e00, fun _ => rfl, Inv.mk2 hC2 hM2⟩
