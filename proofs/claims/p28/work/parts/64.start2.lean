/-! P28: the start, and trips that cells choose -/
def RU (E : dd_S) : Prop := E 32 0 = 270 ∧ E 32 1 = 720 ∧ E 32 2 = 30 ∧ E 32 3 = 660
def NoR (E : dd_S) : Prop := ∀ v k, v < 8 → k < 7 → E (45 + v) k = -1
theorem start28 : ∃ tS s0, f_X4_init_50 64 (fun _ _ => 0) 0 = some tS ∧ f_X5_init_142 64 (sg5 tS) 0 = some s0 ∧ CI s0 0 0 0 (fun _ => []) ∧ RU s0 ∧ NoR s0 := by
  obtain ⟨tS, t1, t2⟩ := i4_ev
  obtain ⟨s0, c1, c2⟩ := i5_out (tS := tS) 40 0 64 (sg5 tS) (by omega) (by omega) ⟨fun _ _ _ => rfl, fun p hp => absurd hp (Nat.not_lt_zero _), fun p q _ _ h => by omega⟩
  have k : ∀ k, k ≠ 34 → ¬ (45 ≤ k ∧ k < 53) → s0 k = sg5 tS k := c2.1
  have hdu : ∀ d, d < 15 → s0 d = fun j => if j = 8 then 1 else 0 := fun d hd => by
    rw [k d (by omega) (by omega)]; unfold sg5; rw [if_pos hd]
  have hw : ∀ a b : Nat, a < 6 → b < 6 → s0 (53 + a) b = if a = b then 0 else 15 := fun a b ha hb => by
    rw [k (53 + a) (by omega) (by omega)]
    unfold sg5
    rw [if_neg (by omega), if_neg (by omega), if_neg (by omega), if_neg (by omega), if_neg (by omega), if_neg (by omega), show 53 + a - 47 = 6 + a by omega]
    exact t2.2 a b ha hb (Or.inl ha)
  have h32 : s0 32 = sg5 tS 32 := k 32 (by decide) (by decide)
  refine ⟨tS, s0, t1, c1, ?_, ⟨by rw [h32]; rfl, by rw [h32]; rfl, by rw [h32]; rfl, by rw [h32]; rfl⟩, fun v j hv hj => c2.2.2 v j hv hj (Or.inl hv)⟩
  have h322 : s0 32 2 = 30 := by rw [h32]; rfl
  refine ⟨by decide, ⟨?_, ?_, ?_⟩, ⟨fun t ht => absurd ht (Nat.not_lt_zero _), fun a b ha hb => ?_, by rw [h322]; decide⟩, fun v j hv hj => Or.inl (c2.2.2 v j hv hj (Or.inl hv)), fun t ht => Or.inl (c2.2.1 t ht), fun d hd => ⟨⟨List.Pairwise.nil, fun t => by simp⟩, ⟨?_, fun i hi => absurd hi (Nat.not_lt_zero _)⟩, fun j h2 h8 => ?_⟩, ?_, fun j h2 h8 => ?_⟩
  · rw [k 31 (by decide) (by decide)]
    show tS 0 5 = 0
    rw [t2.1 0 (by decide)]
  · rw [k 30 (by decide) (by decide)]; rfl
  · rw [k 30 (by decide) (by decide)]; rfl
  · rw [hw a b ha hb]
    split <;> decide
  · rw [hdu d (by omega)]; rfl
  · rw [hdu d (by omega)]; rfl
  · rw [hdu 14 (by decide)]; rfl
  · rw [hdu 14 (by decide)]; rfl
/-- one trip more -/
theorem add_ev {sC : dd_S} {T D V x y : Nat} {L : Nat → List Nat} {c d : Int32} (hC : CI sC T D V L) (hT40 : T < 40) (hx : x < 6) (hy : y < 6) (h0 : 0 ≤ c.toInt) (h1 : c.toInt < d.toInt) (h2 : d.toInt ≤ 1799) (h3 : d.toInt - c.toInt ≤ 240) : ∃ E2, f_X5_addTrip sC (nI x) (nI y) c d = some (nI T, E2) ∧ CI E2 (T + 1) D V L ∧ ∀ k, k ≠ 31 → k ≠ 41 → k ≠ 42 → k ≠ 43 → k ≠ 44 → E2 k = sC k := by
  have z : ¬ (1 : Int32) = 0 := by decide
  have e0 : (0 : Int32).toInt = 0 := by decide
  have e240 : (240 : Int32).toInt = 240 := by decide
  have e1799 : (1799 : Int32).toInt = 1799 := by decide
  have hsub : (d - c).toInt = d.toInt - c.toInt := i32_sub (by omega) (by omega)
  have hat : f_X5_areTimesOfTrip sC c d = some 1 := by
    unfold f_X5_areTimesOfTrip
    rw [if_neg (fun h => by have := Int32.lt_iff_toInt_lt.mp h; omega), if_neg (fun h => by have := Int32.le_iff_toInt_le.mp h; omega), if_neg (fun h => by have := Int32.lt_iff_toInt_lt.mp h; omega), if_neg (fun h => by have := Int32.lt_iff_toInt_lt.mp h; omega)]
    rfl
  have hap : f_X4_append sC (nI x) (nI y) c d = some (nI T, st2 (st2 (st2 (st2 (st2 sC 41 T (nI x)) 42 T (nI y)) 43 T c) 44 T d) 31 5 (nI (T + 1))) := by
    unfold f_X4_append
    rw [hC.2.1.1, if_pos (show nI T < (40 : Int32) from (nI_lt_iff (b := 40) (by omega) (by omega)).mpr hT40), gd_p (ix_ok hT40 (by decide))]
    simp only [lt_e, st2_k _ _ _ _ (show 31 ≠ 41 by decide), st2_k _ _ _ _ (show 31 ≠ 42 by decide), st2_k _ _ _ _ (show 31 ≠ 43 by decide), st2_k _ _ _ _ (show 31 ≠ 44 by decide), hC.2.1.1, nI_clamp (show T < 2 ^ 31 by omega)]
    rw [gd_p (ix_ok hT40 (by decide)), gd_p (ix_ok hT40 (by decide)), gd_p (ix_ok hT40 (by decide)), nI_inc]
  have hrun : f_X5_addTrip sC (nI x) (nI y) c d = some (nI T, st2 (st2 (st2 (st2 (st2 sC 41 T (nI x)) 42 T (nI y)) 43 T c) 44 T d) 31 5 (nI (T + 1))) := by
    unfold f_X5_addTrip
    rw [cPoint, bd_s, rng_1 hx (by omega), if_neg z, cPoint, bd_s, rng_1 hy (by omega), if_neg z, hat, bd_s, if_neg z, hC.2.1.1, if_pos (show nI T < (40 : Int32) from (nI_lt_iff (b := 40) (by omega) (by omega)).mpr hT40), hap, bd2_s]
  rw [hrun]
  generalize hE2 : st2 (st2 (st2 (st2 (st2 sC 41 T (nI x)) 42 T (nI y)) 43 T c) 44 T d) 31 5 (nI (T + 1)) = E2
  have k1 : ∀ k, k ≠ 31 → k ≠ 41 → k ≠ 42 → k ≠ 43 → k ≠ 44 → E2 k = sC k := fun k q1 q2 q3 q4 q5 => by rw [← hE2, st2_k _ _ _ _ q1, st2_k _ _ _ _ q5, st2_k _ _ _ _ q4, st2_k _ _ _ _ q3, st2_k _ _ _ _ q2]
  have k31 : E2 31 5 = nI (T + 1) := by rw [← hE2]; exact st2_s _ _ _ _
  have k41 : E2 41 = upd (sC 41) T (nI x) := by rw [← hE2]; simp [st2, dd_up]
  have k42 : E2 42 = upd (sC 42) T (nI y) := by rw [← hE2]; simp [st2, dd_up]
  have k43 : E2 43 = upd (sC 43) T c := by rw [← hE2]; simp [st2, dd_up]
  have k44 : E2 44 = upd (sC 44) T d := by rw [← hE2]; simp [st2, dd_up]
  have uat : ∀ (f : Nat → Int32) (v : Int32), upd f T v T = v := fun f v => if_pos rfl
  have une : ∀ (f : Nat → Int32) (v : Int32) {t : Nat}, t ≠ T → upd f T v t = f t := fun f v t h => if_neg h
  have hB0 := hC.2.2.1
  have hB : EnvB E2 (T + 1) := by
    refine ⟨fun t ht => ?_, fun p q hp hq => by rw [k1 (53 + p) (by omega) (by omega) (by omega) (by omega) (by omega)]; exact hB0.2.1 p q hp hq, by rw [k1 32 (by decide) (by decide) (by decide) (by decide) (by decide)]; exact hB0.2.2⟩
    rw [k43, k44]
    by_cases e : t = T
    · subst e
      rw [uat, uat]
      exact ⟨⟨hT40, by rw [k41, uat]; exact ⟨x, hx, rfl⟩, by rw [k42, uat]; exact ⟨y, hy, rfl⟩⟩, by omega, by omega, by omega⟩
    · have := hB0.1 t (by omega)
      rw [une _ _ e, une _ _ e]
      exact ⟨⟨this.1.1, by rw [k41, une _ _ e]; exact this.1.2.1, by rw [k42, une _ _ e]; exact this.1.2.2⟩, this.2⟩
  have hdu : sC 34 T = -1 := by
    rcases hC.2.2.2.2.1 T hT40 with e | ⟨h, -⟩
    · exact e
    · omega
  have k34 : E2 34 = sC 34 := k1 34 (by decide) (by decide) (by decide) (by decide) (by decide)
  have hC2 : CI E2 (T + 1) D V L := by
    obtain ⟨h1, h2, h3, h4, h5, h6, h7⟩ := id hC
    refine ⟨⟨by omega, h1.2⟩, ⟨k31, by rw [k1 30 (by decide) (by decide) (by decide) (by decide) (by decide)]; exact h2.2.1, by rw [k1 30 (by decide) (by decide) (by decide) (by decide) (by decide)]; exact h2.2.2⟩, hB, fun v k hv hk => by rw [k1 (45 + v) (by omega) (by omega) (by omega) (by omega) (by omega)]; exact h4 v k hv hk, fun t ht => ?_, fun e he => ?_, by rw [k1 14 (by decide) (by decide) (by decide) (by decide) (by decide)]; exact h7.1, fun j g2 g8 => by rw [k1 14 (by decide) (by decide) (by decide) (by decide) (by decide)]; exact h7.2 j g2 g8⟩
    · rw [k34]
      rcases h5 t ht with q | ⟨q, q2⟩
      · exact Or.inl q
      · exact Or.inr ⟨by omega, q2⟩
    · obtain ⟨c1, c2, c3⟩ := h6 e he
      have hlt : ∀ t ∈ L e, t ≠ T := fun t ht => by have := c1.lt ht; omega
      have hOn : EnvOn (L e) sC E2 := ⟨k1 32 (by decide) (by decide) (by decide) (by decide) (by decide), fun k hk => k1 k (by omega) (by omega) (by omega) (by omega) (by omega), fun t ht => by rw [k41, k42, k43, k44]; exact ⟨une _ _ (hlt t ht), une _ _ (hlt t ht), une _ _ (hlt t ht), une _ _ (hlt t ht)⟩⟩
      have hke : E2 e = sC e := k1 e (by omega) (by omega) (by omega) (by omega) (by omega)
      refine ⟨⟨?_, fun t => ?_⟩, ⟨by rw [hke]; exact c2.1, by rw [k1 (15 + e) (by omega) (by omega) (by omega) (by omega) (by omega)]; exact c2.2⟩, fun j g2 g8 => by rw [hke, hOn.ft]; exact c3 j g2 g8⟩
      · refine List.Pairwise.imp_of_mem (fun {p q} hp hq hpq => ?_) c1.1
        rw [k43, une _ _ (hlt p hp), une _ _ (hlt q hq)]
        exact hpq
      · rw [k34, c1.2 t]
        constructor
        · rintro ⟨q1, q2⟩; exact ⟨by omega, q2⟩
        · rintro ⟨q1, q2⟩
          by_cases e2 : t = T
          · subst e2
            rw [hdu] at q2
            exact absurd q2.symm (nI_m1 (by omega))
          · exact ⟨by omega, q2⟩
  exact ⟨E2, rfl, hC2, k1⟩
/-! small numbers once more -/
theorem rem_ev {u n : Nat} (hu : u < 2 ^ 31) (hn : n < 2 ^ 31) : nI u - nI u / nI n * nI n = nI (u % n) := by
  have e1 : nI u / nI n = nI (u / n) := (Int32.ofNat_div hu hn).symm
  have e2 : nI u - nI (u / n * n) = nI (u - u / n * n) := (Int32.ofNat_sub u (u / n * n) (Nat.div_mul_le_self u n)).symm
  have h1 := Nat.div_add_mod u n
  rw [Nat.mul_comm] at h1
  rw [e1, nI_mul, e2]
  congr 1
  exact Nat.sub_eq_of_eq_add (by rw [Nat.add_comm]; exact h1.symm)
theorem and_nn (v : Int32) : (0 : Int32) ≤ v &&& (2147483647 : Int32) := by
  rw [Int32.le_iff_toInt_le]
  have e0 : (0 : Int32).toInt = 0 := by decide
  have hm : (2147483647 : Int32).toBitVec.msb = false := by decide
  have h : (v &&& (2147483647 : Int32)).toBitVec.msb = false := by
    rw [Int32.toBitVec_and, BitVec.msb_and, hm, Bool.and_false]
  rw [e0]
  exact BitVec.toInt_nonneg_of_msb_false h
/-- a number below another, as the law chooses it -/
theorem below_ev (sg : dd_S) (v : Int32) {n : Nat} (h0 : 0 < n) (hn : n < 1000) : ∃ m, m < n ∧ f_L_below sg v (nI n) = some (nI m) := by
  unfold f_L_below
  have hn0 : ¬ nI n = 0 := fun h => by
    have := nI_inj (b := 0) (by omega) (by omega) h
    omega
  rw [gd_p (decide_eq_true hn0)]
  obtain ⟨u, hu, e⟩ := pu_of (and_nn v)
  rw [e, rem_ev hu (by omega)]
  exact ⟨u % n, Nat.mod_lt _ h0, rfl⟩
/-- a cell of the script, or what stands for one that isn't there -/
theorem cell_ev (sg : dd_S) {L : Nat} (hL : L ≤ 260) (xs : Nat → Int32) {k : Nat} (hk : k < 1000) : ∃ v, f_L_cell sg L xs (nI k) = some v := by
  unfold f_L_cell
  by_cases c : (Int32.ofNat L) ≤ nI k
  · rw [if_pos c]; exact ⟨_, rfl⟩
  · rw [if_neg c, gd_p (ix_ok (by
      rcases Nat.lt_or_ge k L with q | q
      · exact q
      · exact absurd (nI_le q (by omega)) c) (by omega))]
    exact ⟨_, rfl⟩
