/-! P28: the share of the work that is spent on trips -/
theorem sN_mono {f g : Nat → Int32} : ∀ n, n ≤ 40 → (∀ t, t < n → 0 ≤ (f t).toInt ∧ (f t).toInt ≤ (g t).toInt ∧ (g t).toInt ≤ 2000) → 0 ≤ (sN f n).toInt ∧ (sN f n).toInt ≤ (sN g n).toInt ∧ (sN g n).toInt ≤ 2000 * n := by
  intro n
  induction n with
  | zero => intro _ _; exact ⟨Int.le_refl _, Int.le_refl _, by show (0 : Int) ≤ _; omega⟩
  | succ n ih =>
    intro h40 h
    obtain ⟨a1, a2, a3⟩ := ih (by omega) (fun t ht => h t (by omega))
    have hb := h n (by omega)
    have e1 : (sN f (n + 1)).toInt = (sN f n).toInt + (f n).toInt := i32_add (by omega) (by omega)
    have e2 : (sN g (n + 1)).toInt = (sN g n).toInt + (g n).toInt := i32_add (by omega) (by omega)
    omega
theorem min_sum {E : dd_S} {T D V : Nat} {L : Nat → List Nat} (hC : CI E T D V L) : sN (fun t => if E 34 t = -1 then 0 else mnt E t) T = sN (fun d => smL (mnt E) (L d)) D := by
  have hD := hC.1.2.1
  have hT := hC.1.1
  have e1 : sN (fun d => smL (mnt E) (L d)) D = sN (fun d => sN (fun t => if E 34 t = nI d then mnt E t else 0) T) D := sN_congr D (fun d hd => row_sum (hC.2.2.2.2.2.1 d (by omega)).1)
  rw [e1, sN_swap]
  refine sN_congr T (fun t ht => ?_)
  rcases hC.2.2.2.2.1 t (by omega) with e | ⟨-, d, hd, e⟩
  · rw [if_pos e, (sN_congr (g := fun _ => 0) D (fun d hd => by rw [e, if_neg (fun h => nI_m1 (by omega) h.symm)])).trans (sN_0 D)]
  · rw [if_neg (by rw [e]; exact nI_m1 (by omega)), sN_one (d := d) D (fun e2 he2 hne => by rw [e, if_neg (fun h => hne (nI_inj (by omega) (by omega) h).symm)]), if_pos hd, if_pos e]
theorem use_sums {E : dd_S} {T D V : Nat} {L : Nat → List Nat} (hC : CI E T D V L) (hR : AR E L) (hU : RU E) : 0 ≤ (sN (fun t => if E 34 t = -1 then 0 else mnt E t) T).toInt ∧ (sN (fun t => if E 34 t = -1 then 0 else mnt E t) T).toInt ≤ (sN (fun e => E e 4) D).toInt := by
  have hD := hC.1.2.1
  have hT := hC.1.1
  rw [min_sum hC]
  have h := sN_mono (f := fun d => smL (mnt E) (L d)) (g := fun e => E e 4) D (by omega) (fun d hd => by
    have hL := hC.2.2.2.2.2.1 d (by omega)
    have hlen := hL.1.len
    show 0 ≤ (smL (mnt E) (L d)).toInt ∧ (smL (mnt E) (L d)).toInt ≤ (E d 4).toInt ∧ (E d 4).toInt ≤ 2000
    rw [hL.2.2 4 (by decide) (by decide)]
    by_cases c : L d = []
    · rw [c]
      show (0 : Int) ≤ (0 : Int32).toInt ∧ (0 : Int32).toInt ≤ (0 : Int32).toInt ∧ (0 : Int32).toInt ≤ 2000
      exact ⟨by decide, by decide, by decide⟩
    · obtain ⟨-, -, f1, f2, -, f3⟩ := row_facts hC.2.2.1 hU (fun t ht => hL.1.lt ht) hL.1.1 (by omega) c (hR d (by omega))
      exact ⟨f1, f2, f3⟩)
  exact ⟨h.1, h.2.1⟩
theorem fp_i2d (i : Int32) (h0 : 0 ≤ i.toInt) : ∃ c q, FP.Core.val64 (FP.Core.i2d i) = .fin false c q ∧ FP.Core.Whole i.toInt (.fin false c q) := by
  have hw : FP.Core.Whole i.toInt (FP.Core.val64 (FP.Core.i2d i)) := by
    rw [FP.Core.val64_i2d]
    exact FP.Core.whole_round FP.Core.good_b64 FP.Core.wide_b64 (Nat.le_trans (FP.Core.int32_abs i) (Nat.pow_le_pow_right (by decide) (by decide))) (FP.Core.whole_ofInt _)
  have hs : FP.Core.sgn (FP.Core.val64 (FP.Core.i2d i)) = false := by
    rw [FP.Core.val64_i2d]
    show FP.Core.sgn (FP.Core.roundRatio FP.Core.b64 (decide (i.toInt < 0)) i.toInt.natAbs 1 0) = false
    rw [FP.Core.sgn_roundRatio]
    exact decide_eq_false (by omega)
  generalize FP.Core.val64 (FP.Core.i2d i) = x at hw hs ⊢
  cases x with
  | nan => exact hw.elim
  | inf s => exact hw.elim
  | fin s c q =>
    have e : s = false := hs
    subst e
    exact ⟨c, q, rfl, hw⟩
theorem zval_nn {d : FP.Core.Datum} (h : FP.Core.sgn d = false) : FP.Core.zval FP.Core.b64 d = ((FP.Core.zmag FP.Core.b64 d : Nat) : Int) := by
  unfold FP.Core.zval
  rw [h]
  rfl
theorem pow_main {c d M W a a' b b' F G K : Nat} (w1 : c * 2 ^ a = M * 2 ^ a') (w2 : d * 2 ^ b = W * 2 ^ b') (hMW : M ≤ W) (hF : F + a' + b = K + a + b') (hG : 52 + G = K) : c * 2 ^ F ≤ 2 ^ 52 * 2 ^ G * d := by
  refine Nat.le_of_mul_le_mul_right (c := 2 ^ (a' + b)) ?_ (Nat.two_pow_pos _)
  have l1 : c * 2 ^ F * 2 ^ (a' + b) = M * 2 ^ a' * 2 ^ (K + b') := by
    rw [← w1, Nat.mul_assoc, Nat.mul_assoc, ← Nat.pow_add, ← Nat.pow_add, show F + (a' + b) = a + (K + b') by omega]
  have l2 : 2 ^ 52 * 2 ^ G * d * 2 ^ (a' + b) = W * 2 ^ b' * 2 ^ (K + a') := by
    have e : 2 ^ 52 * 2 ^ G = 2 ^ K := by rw [← Nat.pow_add, hG]
    rw [e, ← w2, Nat.pow_add 2 a' b, Nat.pow_add 2 K a']
    ac_rfl
  rw [l1, l2, Nat.mul_assoc, Nat.mul_assoc, ← Nat.pow_add, ← Nat.pow_add, show b' + (K + a') = a' + (K + b') by omega]
  exact Nat.mul_le_mul_right _ hMW
theorem fp_div {M W : Int32} (h0 : 0 ≤ M.toInt) (h1 : M.toInt ≤ W.toInt) (h2 : 0 < W.toInt) : FP.Core.val64 (FP.Core.ddiv (FP.Core.i2d M) (FP.Core.i2d W)) ≠ .nan ∧ 0 ≤ FP.Core.zval FP.Core.b64 (FP.Core.val64 (FP.Core.ddiv (FP.Core.i2d M) (FP.Core.i2d W))) ∧ FP.Core.zval FP.Core.b64 (FP.Core.val64 (FP.Core.ddiv (FP.Core.i2d M) (FP.Core.i2d W))) ≤ FP.Core.zval FP.Core.b64 (FP.Core.val64 FP.Core.dconst1) := by
  obtain ⟨c, q, e1, w1⟩ := fp_i2d M h0
  obtain ⟨d, r, e2, w2⟩ := fp_i2d W (by omega)
  have hd : ¬ d = 0 := fun h => by
    have := (FP.Core.whole_zero w2).mp h
    omega
  have hq : FP.Core.val64 (FP.Core.ddiv (FP.Core.i2d M) (FP.Core.i2d W)) = FP.Core.roundRatio FP.Core.b64 false c d (q - r) := by
    rw [FP.Core.val64_ddiv, e1, e2]
    show (if d = 0 then (if c = 0 then FP.Core.Datum.nan else FP.Core.Datum.inf (false != false)) else FP.Core.roundRatio FP.Core.b64 (false != false) c d (q - r)) = _
    rw [if_neg hd]
    rfl
  have hs1 : FP.Core.sgn (FP.Core.val64 FP.Core.dconst1) = false := by rw [FP.Core.val64_dconst1]; rfl
  have hfit := FP.Core.val64_fits FP.Core.dconst1
  have hqm : FP.Core.b64.qmin = -1074 := FP.Core.qmin_b64
  obtain ⟨e0, he0⟩ : ∃ e0 : Int, e0 = min FP.Core.b64.qmin (q - r) := ⟨_, rfl⟩
  have g1 : e0 ≤ FP.Core.b64.qmin := by rw [he0]; exact Int.min_le_left _ _
  have g2 : e0 ≤ q - r := by rw [he0]; exact Int.min_le_right _ _
  have hu : FP.Core.inUnits (2 ^ 52) (-52) e0 = FP.Core.zmag FP.Core.b64 (FP.Core.val64 FP.Core.dconst1) * 2 ^ (FP.Core.b64.qmin - e0).toNat := by
    rw [FP.Core.val64_dconst1] at hfit ⊢
    exact FP.Core.units_fin hfit g1
  have hm : FP.Core.zmag FP.Core.b64 (FP.Core.roundRatio FP.Core.b64 false c d (q - r)) ≤ FP.Core.zmag FP.Core.b64 (FP.Core.val64 FP.Core.dconst1) := by
    refine FP.Core.zmag_roundRatio_le FP.Core.good_b64 (e0 := e0) (by omega) hfit (by rw [FP.Core.val64_dconst1]; exact FP.Core.Datum.noConfusion) g1 g2 ?_
    rw [← hu]
    exact pow_main (FP.Core.whole_natAbs w1) (FP.Core.whole_natAbs w2) (K := (-e0).toNat) (by omega) (by omega) (by omega)
  rw [hq, zval_nn (FP.Core.sgn_roundRatio _ _ _ _ _), zval_nn hs1]
  exact ⟨FP.Core.roundRatio_ne_nan _ _ _ _ _, Int.natCast_nonneg _, Int.ofNat_le.mpr hm⟩
theorem nan_val {a : UInt64} (h : isNaN64 a = true) : FP.Core.val64 a = .nan := by
  rw [isNaN64_iff] at h
  have e : a.toNat &&& 0x7fffffffffffffff = a.toNat % 2 ^ 63 := Nat.and_two_pow_sub_one_eq_mod a.toNat 63
  rw [e] at h
  by_cases h1 : FP.Core.val64 a = .nan
  · exact h1
  · exact absurd ((FP.Core.ne_nan a).mp h1) (by omega)
theorem fp_ok {u : UInt64} (hn : FP.Core.val64 u ≠ .nan) (h0 : 0 ≤ FP.Core.zval FP.Core.b64 (FP.Core.val64 u)) (h1 : FP.Core.zval FP.Core.b64 (FP.Core.val64 u) ≤ FP.Core.zval FP.Core.b64 (FP.Core.val64 FP.Core.dconst1)) : (∀ y : UInt64, alike64 y u = true → ¬ Op.cmpValue (FP.dcmp y FP.dconst0) CmpOp.l < 0) ∧ ∀ y : UInt64, alike64 y u = true → ¬ (0 : Int32) < Op.cmpValue (FP.dcmp y FP.dconst1) CmpOp.g := by
  have hy : ∀ y : UInt64, alike64 y u = true → y = u := fun y h => by
    simp only [alike64, Bool.or_eq_true, decide_eq_true_eq, Bool.and_eq_true] at h
    rcases h with e | ⟨-, n2⟩
    · exact e
    · exact absurd (nan_val n2) hn
  have n1 : FP.Core.val64 FP.Core.dconst1 ≠ .nan := by rw [FP.Core.val64_dconst1]; exact FP.Core.Datum.noConfusion
  have n0 : FP.Core.val64 FP.Core.dconst0 ≠ .nan := by rw [FP.Core.val64_dconst0]; exact FP.Core.Datum.noConfusion
  have z0 : FP.Core.zval FP.Core.b64 (FP.Core.val64 FP.Core.dconst0) = 0 := FP.Core.zval64_zero
  refine ⟨fun y h => ?_, fun y h => ?_⟩
  · rw [hy y h]
    show ¬ Op.cmpValue (FP.Core.dcmp u FP.Core.dconst0) CmpOp.l < 0
    rcases FP.Core.dcmp_ge.mpr ⟨hn, n0, by rw [z0]; exact h0⟩ with e | e <;> rw [e] <;> decide
  · rw [hy y h]
    show ¬ (0 : Int32) < Op.cmpValue (FP.Core.dcmp u FP.Core.dconst1) CmpOp.g
    rcases FP.Core.dcmp_le.mpr ⟨hn, n1, h1⟩ with e | e <;> rw [e] <;> decide
theorem use_end {E : dd_S} {T D V : Nat} {L : Nat → List Nat} (hC : CI E T D V L) (hR : AR E L) (hU : RU E) : ∃ u0, f_X5_use E = some u0 ∧ (∀ y : UInt64, alike64 y u0 = true → ¬ Op.cmpValue (FP.dcmp y FP.dconst0) CmpOp.l < 0) ∧ ∀ y : UInt64, alike64 y u0 = true → ¬ (0 : Int32) < Op.cmpValue (FP.dcmp y FP.dconst1) CmpOp.g := by
  have hT := hC.1.1
  have hD := hC.1.2.1
  obtain ⟨g0, g1⟩ := use_sums hC hR hU
  have c1 : f_X5_use E = some (if sN (fun e => E e 4) D = 0 then FP.dconst0 else FP.ddiv (FP.i2d (sN (fun t => if E 34 t = -1 then 0 else mnt E t) T)) (FP.i2d (sN (fun e => E e 4) D))) := (cu4 hC T 0 64 (by omega) (by omega)).trans (cu45 hC D 0 64 (by omega) (by omega))
  generalize sN (fun t => if E 34 t = -1 then 0 else mnt E t) T = M at g0 g1 c1
  generalize sN (fun e => E e 4) D = Wk at g1 c1
  by_cases c : Wk = 0
  · rw [if_pos c] at c1
    have z0 : FP.Core.zval FP.Core.b64 (FP.Core.val64 FP.Core.dconst0) = 0 := FP.Core.zval64_zero
    have n0 : FP.Core.val64 FP.Core.dconst0 ≠ .nan := by rw [FP.Core.val64_dconst0]; exact FP.Core.Datum.noConfusion
    have hs1 : FP.Core.sgn (FP.Core.val64 FP.Core.dconst1) = false := by rw [FP.Core.val64_dconst1]; rfl
    exact ⟨_, c1, fp_ok (u := FP.Core.dconst0) n0 (by rw [z0]; exact Int.le_refl 0) (by rw [z0, zval_nn hs1]; exact Int.natCast_nonneg _)⟩
  · rw [if_neg c] at c1
    have hne : Wk.toInt ≠ 0 := fun h => c (Int32.toInt_inj.mp (by rw [h]; rfl))
    obtain ⟨d1, d2, d3⟩ := fp_div g0 g1 (by omega)
    exact ⟨_, c1, fp_ok (u := FP.Core.ddiv (FP.Core.i2d M) (FP.Core.i2d Wk)) d1 d2 d3⟩
