/-! digest -/
def gF (E : dd_S) : Nat → Nat → Int64 → Int64
  | 0, _, v => v
  | q + 1, i, v => gF E q (i + 1) (v * 31 + (E (45 + i / 7) (i % 7)).toInt64)
theorem gF_add (E : dd_S) : ∀ (a b i : Nat) (v : Int64), gF E (a + b) i v = gF E b (i + a) (gF E a i v) := by
  intro a
  induction a with
  | zero => intro b i v; simp [gF]
  | succ a ih =>
    intro b i v
    rw [show a + 1 + b = (a + b) + 1 by omega]
    show gF E (a + b) (i + 1) _ = gF E b (i + (a + 1)) (gF E a (i + 1) _)
    rw [ih, show i + 1 + a = i + (a + 1) by omega]
theorem mg_loop {E s : dd_S} {T D V : Nat} (hM : MI E s T D V) (hV : V ≤ 8) : ∀ (q i n ct : Nat) (v : Int64), i + q = 7 * V → q < n → f_X6_digest_166 n s ct v (nI i) = some (gF E q i v, s) := by
  intro q
  induction q with
  | zero =>
    intro i n ct v hi hn
    obtain ⟨n, rfl⟩ : ∃ m, n = m + 1 := ⟨n - 1, by omega⟩
    unfold f_X6_digest_166
    rw [hM.2.1.2.2, show (7 : Int32) = nI 7 from rfl, nI_mul, if_pos ((nI_le_iff (by omega) (by omega)).mpr (by omega))]
    rfl
  | succ q ih =>
    intro i n ct v hi hn
    obtain ⟨n, rfl⟩ : ∃ m, n = m + 1 := ⟨n - 1, by omega⟩
    unfold f_X6_digest_166
    rw [hM.2.1.2.2, show (7 : Int32) = nI 7 from rfl, nI_mul, if_neg (nI_ge (by omega) (by omega)), gd_p (ix_ok (by omega) (by decide)), nI_clamp (by omega), lt_e, lt_e, nI_inc, ih (i + 1) n ct _ (by omega) (by omega)]
    have := hM.2.2.2 (i / 7) (i % 7) (by omega) (by omega)
    rw [show 7 * (i / 7) + i % 7 = i by omega] at this
    rw [this]
    rfl
theorem cg_in {E : dd_S} {u : Nat} (hu : u < 8) {K : Int64 → Int32 → Option Int64} : ∀ (q k n : Nat) (v : Int64), k + q = 7 → q < n → f_X5_digest_146 E K n v (nI u) (nI k) = K (gF E q (7 * u + k) v) (nI (u + 1)) := by
  intro q
  induction q with
  | zero =>
    intro k n v hk hn
    obtain ⟨n, rfl⟩ : ∃ m, n = m + 1 := ⟨n - 1, by omega⟩
    have : k = 7 := by omega
    subst this
    unfold f_X5_digest_146
    rw [if_pos (show (7 : Int32) ≤ nI 7 by decide), lt_e, nI_inc]
    rfl
  | succ q ih =>
    intro k n v hk hn
    obtain ⟨n, rfl⟩ : ∃ m, n = m + 1 := ⟨n - 1, by omega⟩
    unfold f_X5_digest_146
    rw [if_neg (show ¬ (7 : Int32) ≤ nI k from nI_ge (b := 7) (by omega) (by omega)), don_ev hu (by omega), bd_s, lt_e, lt_e, nI_inc, ih (k + 1) n _ (by omega) (by omega)]
    show _ = K (gF E q (7 * u + k + 1) (v * 31 + (E (45 + (7 * u + k) / 7) ((7 * u + k) % 7)).toInt64)) _
    rw [show (7 * u + k) / 7 = u by omega, show (7 * u + k) % 7 = k by omega]
    rfl
theorem cg_out {E : dd_S} {V : Nat} (hV : V ≤ 8) (h6 : E 30 6 = nI V) : ∀ (q u n : Nat) (v : Int64), u + q = V → q < n → f_X5_digest_135 E n v (nI u) = some (gF E (7 * q) (7 * u) v) := by
  intro q
  induction q with
  | zero =>
    intro u n v hu hn
    obtain ⟨n, rfl⟩ : ∃ m, n = m + 1 := ⟨n - 1, by omega⟩
    unfold f_X5_digest_135
    rw [h6, if_pos ((nI_le_iff (by omega) (by omega)).mpr (by omega))]
    rfl
  | succ q ih =>
    intro u n v hu hn
    obtain ⟨n, rfl⟩ : ∃ m, n = m + 1 := ⟨n - 1, by omega⟩
    unfold f_X5_digest_135
    have h0 := cg_in (E := E) (show u < 8 by omega) (K := fun z0 z1 => f_X5_digest_135 E n z0 z1) 7 0 64 v (by omega) (by omega)
    rw [h6, if_neg (nI_ge (by omega) (by omega))]
    refine h0.trans ?_
    rw [ih (u + 1) n _ (by omega) (by omega), show 7 * (q + 1) = 7 + 7 * q by omega, gF_add]
    rfl
theorem dg_in {E : dd_S} {T D V d : Nat} {L : Nat → List Nat} (hC : CI E T D V L) (hd : d < 12) {K : Int64 → Int32 → Option Int64} {K2 : dd_S → Nat → Int64 → Int32 → Option (Int64 × dd_S)} : ∀ (q m n ct : Nat) (v : Int64) (s : dd_S), m + q = 9 → q < n → MI E s T D V → ct + q ≤ 108 → ∃ v2 s2, f_X5_digest_87 E K n v (nI d) (nI m) = K v2 (nI (d + 1)) ∧ f_X6_digest_118 K2 n s ct v (nI d) (nI m) = K2 s2 (ct + q) v2 (nI (d + 1)) ∧ FrM s s2 := by
  intro q
  induction q with
  | zero =>
    intro m n ct v s hm hn hM hc
    obtain ⟨n, rfl⟩ : ∃ m, n = m + 1 := ⟨n - 1, by omega⟩
    have : m = 9 := by omega
    subst this
    unfold f_X5_digest_87 f_X6_digest_118
    rw [if_pos (show (9 : Int32) ≤ nI 9 by decide), if_pos (show (9 : Int32) ≤ nI 9 by decide), lt_e, lt_e, nI_inc]
    exact ⟨v, s, rfl, rfl, FrM.refl⟩
  | succ q ih =>
    intro m n ct v s hm hn hM hc
    obtain ⟨n, rfl⟩ : ∃ m, n = m + 1 := ⟨n - 1, by omega⟩
    obtain ⟨r, s2, r1, r2, r3⟩ := fact_both hC hM hd (show m < 9 by omega)
    unfold f_X5_digest_87 f_X6_digest_118
    rw [if_neg (show ¬ (9 : Int32) ≤ nI m from nI_ge (b := 9) (by omega) (by omega)), if_neg (show ¬ (9 : Int32) ≤ nI m from nI_ge (b := 9) (by omega) (by omega)), r1, bd_s, gd_p (decide_eq_true (show ct < 108 by omega)), r2, bd2_s]
    simp only [lt_e]
    rw [nI_inc]
    obtain ⟨v2, s3, b1, b2, b3⟩ := ih (m + 1) n (ct + 1) (v * 31 + r.toInt64) s2 (by omega) (by omega) (hM.fr r3) (by omega)
    exact ⟨v2, s3, b1, by rw [b2, show ct + 1 + q = ct + (q + 1) by omega], r3.trans b3⟩
theorem dg_out {E : dd_S} {T D V : Nat} {L : Nat → List Nat} (hC : CI E T D V L) : ∀ (q d n ct : Nat) (v : Int64) (s : dd_S), d + q = D → q < n → MI E s T D V → ct = 9 * d → ∃ r s2, f_X5_digest_76 E n v (nI d) = some r ∧ f_X6_digest_107 n s ct v (nI d) = some (r, s2) ∧ FrM s s2 := by
  have hD := hC.1.2.1
  have hV := hC.1.2.2
  intro q
  induction q with
  | zero =>
    intro d n ct v s hd hn hM hc
    obtain ⟨n, rfl⟩ : ∃ m, n = m + 1 := ⟨n - 1, by omega⟩
    unfold f_X5_digest_76 f_X6_digest_107
    rw [hC.2.1.2.1, hM.2.1.2.1, hC.2.1.2.2, hM.2.1.2.2, if_pos ((nI_le_iff (by omega) (by omega)).mpr (by omega)), if_pos ((nI_le_iff (by omega) (by omega)).mpr (by omega)), lt_e, lt_e]
    refine ⟨gF E (7 * V) 0 (v * 31 + (nI V).toInt64), s, ?_, ?_, FrM.refl⟩
    · exact cg_out hV hC.2.1.2.2 V 0 64 _ (by omega) (by omega)
    · exact mg_loop hM hV (7 * V) 0 64 ct _ (by omega) (by omega)
  | succ q ih =>
    intro d n ct v s hd hn hM hc
    obtain ⟨n, rfl⟩ : ∃ m, n = m + 1 := ⟨n - 1, by omega⟩
    unfold f_X5_digest_76 f_X6_digest_107
    rw [hC.2.1.2.1, hM.2.1.2.1, if_neg (nI_ge (by omega) (by omega)), if_neg (nI_ge (by omega) (by omega))]
    obtain ⟨v2, s2, b1, b2, b3⟩ := dg_in hC (show d < 12 by omega) (K := fun z0 z1 => f_X5_digest_76 E n z0 z1) (K2 := fun zs zc z0 z1 => f_X6_digest_107 n zs zc z0 z1) 9 0 64 ct v s (by omega) (by omega) hM (by omega)
    obtain ⟨r, s3, r1, r2, r3⟩ := ih (d + 1) n (ct + 9) v2 s2 (by omega) (by omega) (hM.fr b3) (by omega)
    exact ⟨r, s3, b1.trans r1, b2.trans r2, b3.trans r3⟩
theorem tf_ev {E : dd_S} {t m : Nat} (ht : t < 40) (hm : m < 5) : f_X5_tripFact E (nI t) (nI m) = some (if m = 0 then E 41 t else if m = 1 then E 42 t else if m = 2 then E 43 t else if m = 3 then E 44 t else E 34 t) := by
  unfold f_X5_tripFact
  rw [fro_ev ht, to_ev ht, dep_ev ht, arr_ev ht, dof_ev ht]
  rcases (show m = 0 ∨ m = 1 ∨ m = 2 ∨ m = 3 ∨ m = 4 by omega) with rfl | rfl | rfl | rfl | rfl <;> rfl
theorem d29_s {E : dd_S} {t m n : Nat} {v : Int64} {K : Int64 → Int32 → Option Int64} (ht : t < 40) (hm : m < 5) : f_X5_digest_29 E K (n + 1) v (nI t) (nI m) = f_X5_digest_29 E K n (v * 31 + (if m = 0 then E 41 t else if m = 1 then E 42 t else if m = 2 then E 43 t else if m = 3 then E 44 t else E 34 t).toInt64) (nI t) (nI (m + 1)) := by
  conv => lhs; unfold f_X5_digest_29
  rw [if_neg (show ¬ (5 : Int32) ≤ nI m from nI_ge (b := 5) hm (by omega)), tf_ev ht hm, bd_s, lt_e, lt_e, nI_inc]
theorem d29_e {E : dd_S} {t n : Nat} {v : Int64} {K : Int64 → Int32 → Option Int64} : f_X5_digest_29 E K (n + 1) v (nI t) (nI 5) = K v (nI (t + 1)) := by
  conv => lhs; unfold f_X5_digest_29
  rw [if_pos (show (5 : Int32) ≤ nI 5 by decide), lt_e, nI_inc]
theorem dt_out {E : dd_S} {T D V : Nat} {L : Nat → List Nat} (hC : CI E T D V L) : ∀ (q t n : Nat) (v : Int64) (s : dd_S), t + q = T → q < n → MI E s T D V → ∃ r s2, f_X5_digest_15 E n v (nI t) = some r ∧ f_X6_digest_17 n s 0 v (nI t) = some (r, s2) ∧ FrM s s2 := by
  have hT := hC.1.1
  have hD := hC.1.2.1
  intro q
  induction q with
  | zero =>
    intro t n v s ht hn hM
    obtain ⟨n, rfl⟩ : ∃ m, n = m + 1 := ⟨n - 1, by omega⟩
    unfold f_X5_digest_15 f_X6_digest_17
    rw [hC.2.1.1, hM.2.1.1, hC.2.1.2.1, hM.2.1.2.1, if_pos ((nI_le_iff (by omega) (by omega)).mpr (by omega)), if_pos ((nI_le_iff (by omega) (by omega)).mpr (by omega)), lt_e, lt_e]
    exact dg_out hC D 0 64 0 _ s (by omega) (by omega) hM rfl
  | succ q ih =>
    intro t n v s ht hn hM
    obtain ⟨n, rfl⟩ : ∃ m, n = m + 1 := ⟨n - 1, by omega⟩
    have ht40 : t < 40 := by omega
    have hcls : ∀ K : Int64 → Int32 → Option Int64, f_X5_digest_29 E K 64 v (nI t) 0 = K ((((((v * 31 + (E 41 t).toInt64) * 31 + (E 42 t).toInt64) * 31 + (E 43 t).toInt64) * 31 + (E 44 t).toInt64) * 31 + (E 34 t).toInt64)) (nI (t + 1)) := fun K => by
      show f_X5_digest_29 E K (58 + 1 + 1 + 1 + 1 + 1 + 1) v (nI t) (nI 0) = _
      rw [d29_s ht40 (by decide), d29_s ht40 (by decide), d29_s ht40 (by decide), d29_s ht40 (by decide), d29_s ht40 (by decide), d29_e]
      rfl
    unfold f_X5_digest_15 f_X6_digest_17
    rw [hC.2.1.1, hM.2.1.1, if_neg (nI_ge (by omega) (by omega)), if_neg (nI_ge (by omega) (by omega)), hcls, gd_p (ix_ok ht40 (by decide)), gd_p (ix_ok ht40 (by decide)), gd_p (ix_ok ht40 (by decide)), gd_p (ix_ok ht40 (by decide)), gd_p (ix_ok ht40 (by decide)), nI_clamp (by omega), lt_e, lt_e, nI_inc, hM.1.1, hM.1.2.1, hM.1.2.2.1, hM.1.2.2.2.1, hM.2.2.1 t (by omega)]
    exact ih (t + 1) n _ s (by omega) (by omega) hM
theorem po_digest : PO_digest Inv := by
  intro sC sM ⟨T, D, V, L, hC, hM⟩
  have hT := hC.1.1
  have hM0 := hM.thrown (v := 0)
  obtain ⟨r, s2, r1, r2, r3⟩ := dt_out hC T 0 64 (9641 + (nI T).toInt64) (st2 sM 0 0 0) (by omega) (by omega) hM0
  refine ⟨r, s2, ?_, ?_, T, D, V, L, hC, hM0.fr r3⟩
  · unfold f_X5_digest
    rw [lt_e, hC.2.1.1]
    exact r1
  · unfold f_X6_digest
    rw [lt_e, lt_e, hM0.2.1.1]
    exact r2
