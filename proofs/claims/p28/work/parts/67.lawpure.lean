/-! P28: the law, from the plan on -/
theorem frS_congr {E E2 : dd_S} {T : Nat} (h : ∀ t, E2 34 t = -1 ↔ E 34 t = -1) : frS E2 T = frS E T := sN_congr T (fun t _ => by
  by_cases c : E 34 t = -1
  · rw [if_pos c, if_pos ((h t).mpr c)]
  · rw [if_neg c, if_neg (fun q => c ((h t).mp q))])
theorem q_tr2 {E : dd_S} {T D V t : Nat} {L : Nat → List Nat} (hC : CI E T D V L) (ht : t < T) : f_X5_trip E (nI t) (2 : Int32) = some (E 43 t) := q_trip (m := 2) hC ht (by decide)
theorem q_tr3 {E : dd_S} {T D V t : Nat} {L : Nat → List Nat} (hC : CI E T D V L) (ht : t < T) : f_X5_trip E (nI t) (3 : Int32) = some (E 44 t) := q_trip (m := 3) hC ht (by decide)
theorem q_tr4 {E : dd_S} {T D V t : Nat} {L : Nat → List Nat} (hC : CI E T D V L) (ht : t < T) : f_X5_trip E (nI t) (4 : Int32) = some (E 34 t) := q_trip (m := 4) hC ht (by decide)
/-- what the law asks of a duty -/
theorem duty_facts {E : dd_S} {T D V d : Nat} {L : Nat → List Nat} (hC : CI E T D V L) (hR : AR E L) (hU : RU E) (hd : d < 12) (hne : L d ≠ []) :
    ¬ E d 5 < 360 ∧ ¬ E d 5 < E d 4 ∧ ¬ (270 : Int32) < E d 7 ∧ (E d 3 - E d 2) ≤ (720 : Int32) ∧ ∀ (i : Nat) (hi : i + 1 < (L d).length), E 44 ((L d)[i]'(by omega)) ≤ E 43 (L d)[i + 1] := by
  have hT := hC.1.1
  have hL := hC.2.2.2.2.2.1 d hd
  have hlen := hL.1.len
  obtain ⟨⟨f1, f2, f3, f4⟩, f5, -, -, -, -⟩ := row_facts hC.2.2.1 hU (fun t ht => hL.1.lt ht) hL.1.1 (by omega) hne (hR d hd)
  rw [hL.2.2 2 (by decide) (by decide), hL.2.2 3 (by decide) (by decide), hL.2.2 4 (by decide) (by decide), hL.2.2 5 (by decide) (by decide), hL.2.2 7 (by decide) (by decide)]
  have e270 : (270 : Int32).toInt = 270 := by decide
  have e720 : (720 : Int32).toInt = 720 := by decide
  have e360 : (360 : Int32).toInt = 360 := by decide
  refine ⟨i32_nlt.mpr (Int32.le_iff_toInt_le.mpr (by omega)), i32_nlt.mpr (Int32.le_iff_toInt_le.mpr f2), i32_nlt.mpr (Int32.le_iff_toInt_le.mpr (by omega)), Int32.le_iff_toInt_le.mpr (by omega), f5⟩
/-- the trips of a duty -/
theorem l315 {N : Nat} {xs : Nat → Int32} {E : dd_S} {T D V d : Nat} {L : Nat → List Nat} (hC : CI E T D V L) (hR : AR E L) (hU : RU E) (hd : d < D) (k92 : dd_S → Int32 → Int32 → Int32 → Int32 → Int32 → Option dd_S) (k190 : dd_S → Int32 → Int32 → Int32 → Int32 → Int32 → Int32 → Int32 → Int32 → Option dd_S) (v3 v4 v5 v6 v7 v10 v11 : Int32) : ∀ (q i n : Nat), i + q = (L d).length → q < n → f_L_law_315 N xs k92 k190 n E v3 v4 v5 v6 v7 v10 v11 (nI d) (nI (L d).length) (nI i) = k190 E v3 v4 v5 v6 v7 v10 v11 (nI (d + 1)) := by
  have hT := hC.1.1
  have hD := hC.1.2.1
  have hL := hC.2.2.2.2.2.1 d (by omega)
  have hlen := hL.1.len
  intro q
  induction q with
  | zero =>
    intro i n hi hn
    obtain ⟨n, rfl⟩ : ∃ m, n = m + 1 := ⟨n - 1, by omega⟩
    unfold f_L_law_315
    rw [if_pos ((nI_le_iff (by omega) (by omega)).mpr (by omega)), lt_e, nI_inc]
  | succ q ih =>
    intro i n hi hn
    obtain ⟨n, rfl⟩ : ∃ m, n = m + 1 := ⟨n - 1, by omega⟩
    have hil : i < (L d).length := by omega
    have ht := (hL.1.2 ((L d)[i])).mp (List.getElem_mem hil)
    have h376 : f_L_law_376 N xs k92 k190 (fun zs z0 z1 z2 z3 z4 z5 z6 z7 z8 z9 => f_L_law_315 N xs k92 k190 n zs z0 z1 z2 z3 z4 z5 z6 z7 z8 z9) E v3 v4 v5 v6 v7 v10 v11 (nI d) (nI (L d).length) (nI i) = k190 E v3 v4 v5 v6 v7 v10 v11 (nI (d + 1)) := by
      unfold f_L_law_376
      rw [lt_e, nI_inc]
      exact ih (i + 1) n (by omega) (by omega)
    unfold f_L_law_315
    rw [if_neg (nI_ge hil (by omega)), q_tripAt hC hd hil, bd_s, q_tr4 hC ht.1, bd_s, if_pos ht.2]
    by_cases c : i = 0
    · rw [if_pos (by rw [c]; decide)]
      exact h376
    · have hne : L d ≠ [] := fun h => by rw [h] at hil; exact absurd hil (Nat.not_lt_zero _)
      obtain ⟨j, rfl⟩ : ∃ j, i = j + 1 := ⟨i - 1, by omega⟩
      have hjl : j < (L d).length := by omega
      have hj := (hL.1.2 ((L d)[j])).mp (List.getElem_mem hjl)
      rw [if_neg (nI_nle (by omega) (by omega)), nI_sub1 (by omega), Nat.add_sub_cancel, q_tripAt hC hd hjl, bd_s, q_tr3 hC hj.1, bd_s, q_tr2 hC ht.1, bd_s, if_pos ((duty_facts hC hR hU (by omega) hne).2.2.2.2 j hil)]
      exact h376
/-- the duties -/
theorem l190 {N : Nat} {xs : Nat → Int32} {E : dd_S} {T D V : Nat} {L : Nat → List Nat} (hC : CI E T D V L) (hR : AR E L) (hU : RU E) (k92 : dd_S → Int32 → Int32 → Int32 → Int32 → Int32 → Option dd_S) (v5 v7 : Int32) : ∀ (q d n : Nat), d + q = D → q < n → f_L_law_190 N xs k92 n E (nI T) (frS E T) v5 (sN (fun e => E e 5) D) v7 (sN (fun e => E e 1) d) (sN (fun e => E e 5) d) (nI d) = f_L_law_419 N xs k92 64 E (nI T) (frS E T) v5 (sN (fun e => E e 5) D) v7 0 := by
  have hT := hC.1.1
  have hD := hC.1.2.1
  intro q
  induction q with
  | zero =>
    intro d n hd hn
    obtain ⟨n, rfl⟩ : ∃ m, n = m + 1 := ⟨n - 1, by omega⟩
    have : d = D := by omega
    subst this
    unfold f_L_law_190
    rw [q_count1 hC, bd_s, if_pos ((nI_le_iff (by omega) (by omega)).mpr (Nat.le_refl _)), if_pos rfl, if_pos (size_sub hC), q_count3 hC, bd_s, if_pos rfl]
  | succ q ih =>
    intro d n hd hn
    obtain ⟨n, rfl⟩ : ∃ m, n = m + 1 := ⟨n - 1, by omega⟩
    have hdD : d < D := by omega
    have hL := hC.2.2.2.2.2.1 d (by omega)
    have hlen := hL.1.len
    have h1 : E d 1 = nI (L d).length := hL.2.1.1
    have h8 : E d 8 = 1 := by rw [hL.2.2 8 (by decide) (by decide)]; exact hR d (by omega)
    have s1 : sN (fun e => E e 1) d + E d 1 = sN (fun e => E e 1) (d + 1) := rfl
    have s5 : sN (fun e => E e 5) d + E d 5 = sN (fun e => E e 5) (d + 1) := rfl
    have h312 : f_L_law_312 N xs k92 (fun zs z0 z1 z2 z3 z4 z5 z6 z7 => f_L_law_190 N xs k92 n zs z0 z1 z2 z3 z4 z5 z6 z7) E (nI T) (frS E T) v5 (sN (fun e => E e 5) D) v7 (sN (fun e => E e 1) (d + 1)) (sN (fun e => E e 5) (d + 1)) (nI d) (E d 1) = f_L_law_419 N xs k92 64 E (nI T) (frS E T) v5 (sN (fun e => E e 5) D) v7 0 := by
      unfold f_L_law_312
      rw [h1]
      exact (l315 hC hR hU hdD k92 _ _ _ _ _ _ _ _ (L d).length 0 64 (by omega) (by omega)).trans (ih (d + 1) n (by omega) (by omega))
    unfold f_L_law_190
    rw [q_count1 hC, bd_s, if_neg (nI_ge hdD (by omega)), q_d0 hC hdD, bd_s, lt_e, q_d4 hC hdD, bd_s, lt_e, q_d7 hC hdD h8, bd_s, if_pos rfl, s1, s5]
    by_cases c : L d = []
    · rw [if_pos (by rw [h1, c]; decide)]
      exact h312
    · obtain ⟨f1, f2, f3, f4, -⟩ := duty_facts hC hR hU (show d < 12 by omega) c
      have hpos : 0 < (L d).length := List.length_pos_iff.mpr c
      rw [if_neg (by rw [h1]; exact nI_nle hpos (by omega)), bd_s, if_neg f1, bd_s, q_d3 hC hdD, bd_s, if_neg f2, q_d6 hC hdD, bd_s, if_neg f3, q_d2 hC hdD, bd_s, q_d1 hC hdD, bd_s, if_pos f4]
      exact h312
/-- nobody else has the duty on the day -/
theorem l544 {N : Nat} {xs : Nat → Int32} {E : dd_S} {T D V v k d : Nat} {L : Nat → List Nat} (hC : CI E T D V L) (hO : RO E V) (hv : v < V) (hk : k < 7) (hd : d < D) (e : E (45 + v) k = nI d) (k92 : dd_S → Int32 → Int32 → Int32 → Int32 → Int32 → Option dd_S) (k419 : dd_S → Int32 → Int32 → Int32 → Int32 → Int32 → Int32 → Option dd_S) (k435 : dd_S → Int32 → Int32 → Int32 → Int32 → Int32 → Int32 → Int32 → Int32 → Int32 → Option dd_S) (v3 v4 v5 v6 v7 v13 v14 : Int32) : ∀ (q u n : Nat), u + q = v → q < n → f_L_law_544 N xs k92 k419 k435 n E v3 v4 v5 v6 v7 (nI v) v13 v14 (nI k) (nI d) (nI u) = k435 E v3 v4 v5 v6 v7 (nI v) v13 v14 (nI (k + 1)) := by
  have hD := hC.1.2.1
  have hV := hC.1.2.2
  intro q
  induction q with
  | zero =>
    intro u n hu hn
    obtain ⟨n, rfl⟩ : ∃ m, n = m + 1 := ⟨n - 1, by omega⟩
    unfold f_L_law_544
    rw [if_pos ((nI_le_iff (by omega) (by omega)).mpr (by omega))]
    unfold f_L_law_572
    rw [lt_e, nI_inc]
  | succ q ih =>
    intro u n hu hn
    obtain ⟨n, rfl⟩ : ∃ m, n = m + 1 := ⟨n - 1, by omega⟩
    unfold f_L_law_544
    rw [if_neg (nI_ge (by omega) (by omega)), q_given hC (show u < V by omega) hk, bd_s, if_neg (fun h => by
      have := hO.1 u v k (by omega) (by omega) (by omega) hk (h.trans e.symm)
      rw [this] at h
      exact nI_m1 (by omega) h.symm), lt_e, nI_inc]
    exact ih (u + 1) n (by omega) (by omega)
/-- days one behind the other -/
def runN (E : dd_S) (v : Nat) : Nat → Nat
  | 0 => 0
  | k + 1 => if E (45 + v) k = -1 then 0 else runN E v k + 1
theorem runN_has (E : dd_S) (v : Nat) : ∀ k i, i < runN E v k → i < k ∧ E (45 + v) (k - 1 - i) ≠ -1 := by
  intro k
  induction k with
  | zero => intro i hi; exact absurd hi (Nat.not_lt_zero _)
  | succ k ih =>
    intro i hi
    unfold runN at hi
    by_cases c : E (45 + v) k = -1
    · rw [if_pos c] at hi
      exact absurd hi (Nat.not_lt_zero _)
    · rw [if_neg c] at hi
      cases i with
      | zero => exact ⟨by omega, by rw [show k + 1 - 1 - 0 = k by omega]; exact c⟩
      | succ i =>
        obtain ⟨h1, h2⟩ := ih i (by omega)
        exact ⟨by omega, by rw [show k + 1 - 1 - (i + 1) = k - 1 - i by omega]; exact h2⟩
theorem runN_le {E : dd_S} {V v k : Nat} (hO : RO E V) (hv : v < 8) (hk : k ≤ 7) : runN E v k ≤ 5 := by
  refine Nat.le_of_not_lt (fun h => ?_)
  have h5 := (runN_has E v k 5 h).1
  obtain ⟨i, hi, e⟩ := hO.2.1 v hv (k - 6) (by omega)
  have := (runN_has E v k (5 - i) (by omega)).2
  rw [show k - 1 - (5 - i) = k - 6 + i by omega] at this
  exact this e
theorem wkS_0 (E : dd_S) (v : Nat) : wkS E v 0 = 0 := rfl
/-- the days of a driver -/
theorem l435 {N : Nat} {xs : Nat → Int32} {E : dd_S} {T D V v : Nat} {L : Nat → List Nat} (hC : CI E T D V L) (hO : RO E V) (hv : v < V) (k92 : dd_S → Int32 → Int32 → Int32 → Int32 → Int32 → Option dd_S) (k419 : dd_S → Int32 → Int32 → Int32 → Int32 → Int32 → Int32 → Option dd_S) (v3 v4 v5 v6 v7 : Int32) : ∀ (q k n : Nat), k + q = 7 → q < n → f_L_law_435 N xs k92 k419 n E v3 v4 v5 v6 v7 (nI v) (nI (runN E v k)) (wkS E v k) (nI k) = k419 E v3 v4 v5 v6 v7 (nI (v + 1)) := by
  have hD := hC.1.2.1
  have hV := hC.1.2.2
  intro q
  induction q with
  | zero =>
    intro k n hk hn
    obtain ⟨n, rfl⟩ : ∃ m, n = m + 1 := ⟨n - 1, by omega⟩
    have : k = 7 := by omega
    subst this
    unfold f_L_law_435
    rw [if_pos (show (7 : Int32) ≤ nI 7 by decide), q_week hC hv, bd_s, if_pos rfl, if_pos (hO.2.2.2.1 v (by omega)), lt_e, nI_inc]
  | succ q ih =>
    intro k n hk hn
    obtain ⟨n, rfl⟩ : ∃ m, n = m + 1 := ⟨n - 1, by omega⟩
    have hk7 : k < 7 := by omega
    have r := ih (k + 1) n (by omega) (by omega)
    have hrun := runN_le (k := k + 1) hO (show v < 8 by omega) (by omega)
    have ew : wkS E v (k + 1) = wkS E v k + pyA E (E (45 + v) k) := rfl
    have er : runN E v (k + 1) = if E (45 + v) k = -1 then 0 else runN E v k + 1 := rfl
    rw [ew] at r
    unfold f_L_law_435
    rw [if_neg (show ¬ (7 : Int32) ≤ nI k from nI_ge (b := 7) (by omega) (by omega)), q_given hC hv hk7, bd_s]
    rcases hC.2.2.2.1 v k (by omega) hk7 with e | ⟨d, hd, e⟩
    · rw [er, if_pos e, e, pyA_m1, Int32.add_zero] at r
      rw [e, if_neg (by decide)]
      unfold f_L_law_465
      rw [if_pos (by decide), if_neg (by decide)]
      unfold f_L_law_572
      rw [lt_e, nI_inc]
      exact r
    · have hem : ¬ E (45 + v) k = -1 := by rw [e]; exact nI_m1 (by omega)
      rw [er, if_neg hem, e, pyA_d E (by omega)] at r
      rw [er, if_neg hem] at hrun
      have hF : Fxd E V (nI d) := ⟨k, hk7, v, hv, e⟩
      have h541 : f_L_law_541 N xs k92 k419 (fun zs z0 z1 z2 z3 z4 z5 z6 z7 z8 => f_L_law_435 N xs k92 k419 n zs z0 z1 z2 z3 z4 z5 z6 z7 z8) E v3 v4 v5 v6 v7 (nI v) (nI (runN E v k + 1)) (wkS E v k + E d 5) (nI k) (nI d) = k419 E v3 v4 v5 v6 v7 (nI (v + 1)) := by
        unfold f_L_law_541
        exact (l544 hC hO hv hk7 hd e k92 k419 _ _ _ _ _ _ _ _ v 0 64 (by omega) (by omega)).trans r
      rw [e, if_pos (nI_pos' (by omega)), nI_inc]
      unfold f_L_law_465
      rw [if_pos (show nI (runN E v k + 1) ≤ (5 : Int32) from nI_le (b := 5) hrun (by decide)), if_pos (nI_pos' (by omega)), q_d4 hC hd, bd_s, lt_e, q_d8 hC hd hF, bd_s, if_pos rfl]
      by_cases c : k = 0
      · rw [if_pos (by rw [c]; decide)]
        exact h541
      · obtain ⟨j, rfl⟩ : ∃ j, k = j + 1 := ⟨k - 1, by omega⟩
        rw [if_neg (nI_nle (by omega) (by omega)), nI_sub1 (by omega), Nat.add_sub_cancel, q_given hC hv (show j < 7 by omega), bd_s]
        rcases hC.2.2.2.1 v j (by omega) (by omega) with e1 | ⟨d1, hd1, e1⟩
        · rw [e1, if_pos (by decide)]
          exact h541
        · rw [e1, if_neg (nI_pos (by omega)), q_rest hC hv hk7 e1 e (by omega) (by omega), bd_s, if_pos (hO.2.2.1 v j d1 d (by omega) hk7 (by omega) (by omega) e1 e)]
          exact h541
/-- the drivers -/
theorem l419 {N : Nat} {xs : Nat → Int32} {E : dd_S} {T D V : Nat} {L : Nat → List Nat} (hC : CI E T D V L) (hO : RO E V) (k92 : dd_S → Int32 → Int32 → Int32 → Int32 → Int32 → Option dd_S) (v3 v4 v6 : Int32) (t : Nat) : ∀ (q v n : Nat), v + q = V → q < n → f_L_law_419 N xs k92 n E v3 v4 (nI V) v6 (nI t) (nI v) = k92 E v3 v4 (nI V) v6 (nI (t + 1)) := by
  have hV := hC.1.2.2
  intro q
  induction q with
  | zero =>
    intro v n hv hn
    obtain ⟨n, rfl⟩ : ∃ m, n = m + 1 := ⟨n - 1, by omega⟩
    unfold f_L_law_419
    rw [if_pos ((nI_le_iff (by omega) (by omega)).mpr (by omega)), lt_e, nI_inc]
  | succ q ih =>
    intro v n hv hn
    obtain ⟨n, rfl⟩ : ∃ m, n = m + 1 := ⟨n - 1, by omega⟩
    unfold f_L_law_419
    rw [if_neg (nI_ge (by omega) (by omega))]
    exact (l435 hC hO (show v < V by omega) k92 _ _ _ _ _ _ 7 0 64 (by omega) (by omega)).trans (ih (v + 1) n (by omega) (by omega))
/-- the questions behind one step -/
theorem l155 {N : Nat} {xs : Nat → Int32} {E : dd_S} {T D V : Nat} {L : Nat → List Nat} (hC : CI E T D V L) (hR : AR E L) (hU : RU E) (hO : RO E V) (k92 : dd_S → Int32 → Int32 → Int32 → Int32 → Int32 → Option dd_S) {v6 by' : Int32} (t : Nat) (h0 : by' ≤ 0) (hp : sN (fun e => E e 5) D = v6 + by') : f_L_law_155 N xs k92 E (nI T) (frS E T) (nI V) v6 (nI t) by' = k92 E (nI T) (frS E T) (nI V) (sN (fun e => E e 5) D) (nI (t + 1)) := by
  have hD := hC.1.2.1
  have hV := hC.1.2.2
  unfold f_L_law_155
  rw [if_neg (i32_nlt.mpr h0), pay_all hC, bd_s, if_pos hp, lt_e, ← hp]
  exact (l190 hC hR hU k92 _ _ D 0 64 (by omega) (by omega)).trans (l419 hC hO k92 _ _ _ t V 0 64 (by omega) (by omega))
/-- twelve times -/
theorem l92 {N : Nat} (hN : N ≤ 260) (xs : Nat → Int32) {T D V : Nat} : ∀ (q t n : Nat) (E : dd_S) (L : Nat → List Nat), t + q = 12 → q < n → CI E T D V L → AR E L → RU E → RO E V → ∃ s2 L2, f_L_law_92 N xs n E (nI T) (frS E T) (nI V) (sN (fun e => E e 5) D) (nI t) = some s2 ∧ CI s2 T D V L2 ∧ AR s2 L2 ∧ RU s2 := by
  intro q
  induction q with
  | zero =>
    intro t n E L ht hn hC hR hU hO
    obtain ⟨n, rfl⟩ : ∃ m, n = m + 1 := ⟨n - 1, by omega⟩
    have : t = 12 := by omega
    subst this
    unfold f_L_law_92
    rw [if_pos (by decide)]
    exact ⟨E, L, rfl, hC, hR, hU⟩
  | succ q ih =>
    intro t n E L ht hn hC hR hU hO
    obtain ⟨n, rfl⟩ : ∃ m, n = m + 1 := ⟨n - 1, by omega⟩
    have h6a : nI t - nI t / (6 : Int32) * (6 : Int32) = nI (t % 6) := rem_ev (u := t) (n := 6) (by omega) (by decide)
    have h6 : (8 : Int32) + (nI t - nI t / (6 : Int32) * (6 : Int32)) = nI (8 + t % 6) := by
      rw [h6a]
      exact nI_add 8 (t % 6)
    obtain ⟨v, hv⟩ := cell_ev E hN xs (k := 8 + t % 6) (by omega)
    unfold f_L_law_92
    rw [if_neg (show ¬ (12 : Int32) ≤ nI t from nI_ge (b := 12) (by omega) (by decide)), h6, hv, bd_s, lt_e]
    generalize v ^^^ (nI t * (2741 : Int32)) = x
    obtain ⟨m, g1, b1⟩ := below_ev E x (n := 3) (by decide) (by decide)
    have b1' : f_L_below E x (3 : Int32) = some (nI m) := b1
    rw [b1', bd_s]
    by_cases c : nI m = 0
    · rw [if_pos c]
      obtain ⟨r, E2, L2, a1, a2, i1, i2, i3, i4, i5, i6⟩ := imp_ev hC hR
      have hU2 : RU E2 := by
        unfold RU
        rw [i4.1 32 (Or.inl rfl)]
        exact hU
      have hO2 : RO E2 V := RO.same hC i4.2 i5 hO
      have hfr : frS E2 T = frS E T := frS_congr i6
      rw [a1, bd2_s, ← hfr]
      rw [l155 a2 i3 hU2 hO2 _ t i1 i2]
      exact ih (t + 1) n E2 L2 (by omega) (by omega) a2 i3 hU2 hO2
    · rw [if_neg c]
      obtain ⟨k, gk, b2⟩ := below_ev E (x >>> ((3 : Int32) &&& 31)) (n := 7) (by decide) (by decide)
      have b2' : f_L_below E (x >>> ((3 : Int32) &&& 31)) (7 : Int32) = some (nI k) := b2
      obtain ⟨r, E2, a1, a2, a3, a4⟩ := fll_ev hC hU.2.2.2 hO gk
      have hE : EnvEq E E2 := fun j hj => a4 j (by omega)
      have hU2 : RU E2 := by
        unfold RU
        rw [a4 32 (by omega)]
        exact hU
      have hfr : frS E2 T = frS E T := frS_congr (fun t => by rw [a4 34 (by omega)])
      have hpay : sN (fun e => E2 e 5) D = sN (fun e => E e 5) D := sN_congr D (fun e he => by
        have hD := hC.1.2.1
        rw [a4 e (by omega)])
      rw [b2', bd_s, a1, bd2_s, ← hfr, l155 a2 (hR.env hE) hU2 a3 _ t (Int32.le_refl 0) (by rw [Int32.add_zero]; exact hpay)]
      exact ih (t + 1) n E2 L (by omega) (by omega) a2 (hR.env hE) hU2 a3
theorem nor_ro {E : dd_S} {V : Nat} (h : NoR E) : RO E V := by
  refine ⟨fun u v k hu hv _ hk _ => h u k hu hk, fun v hv j hj => ⟨0, by decide, h v (j + 0) hv (by omega)⟩, fun v k d1 d2 hv hk h1 h2 e1 _ => ?_, fun v hv => ?_, fun v k _ hv hk => h v k hv hk⟩
  · rw [h v k hv (by omega)] at e1
    exact absurd e1.symm (nI_m1 (by omega))
  · have e : wkS E v 7 = 0 := (sN_congr (g := fun _ => 0) 7 (fun k hk => by
      show pyA E (E (45 + v) k) = 0
      rw [h v k hv hk]
      rfl)).trans (sN_0 7)
    rw [e]
    decide
/-- the drivers are made -/
theorem l65 {N : Nat} (hN : N ≤ 260) (xs : Nat → Int32) {T D W : Nat} {L : Nat → List Nat} (hW : W ≤ 6) : ∀ (q v n : Nat) (E : dd_S), v + q = W → q < n → CI E T D v L → AR E L → RU E → NoR E → ∃ s2 L2, f_L_law_65 N xs n E (nI T) (frS E T) (nI W) (nI v) = some s2 ∧ CI s2 T D W L2 ∧ AR s2 L2 ∧ RU s2 := by
  intro q
  induction q with
  | zero =>
    intro v n E hv hn hC hR hU hO
    obtain ⟨n, rfl⟩ : ∃ m, n = m + 1 := ⟨n - 1, by omega⟩
    have : v = W := by omega
    subst this
    unfold f_L_law_65
    rw [if_pos ((nI_le_iff (by omega) (by omega)).mpr (Nat.le_refl _)), pay_all hC, bd_s]
    exact l92 hN xs 12 0 64 E L (by omega) (by omega) hC hR hU (nor_ro hO)
  | succ q ih =>
    intro v n E hv hn hC hR hU hO
    obtain ⟨n, rfl⟩ : ∃ m, n = m + 1 := ⟨n - 1, by omega⟩
    have hD := hC.1.2.1
    have had : f_X5_addDriver E = some (nI v, st2 E 30 6 (nI (v + 1))) := by
      unfold f_X5_addDriver
      rw [hC.2.1.2.2, if_pos (show nI v < (8 : Int32) from (nI_lt_iff (b := 8) (by omega) (by omega)).mpr (by omega)), lt_e, nI_inc]
    have hk : ∀ k, k ≠ 30 → st2 E 30 6 (nI (v + 1)) k = E k := fun k h => st2_k _ _ _ _ h
    have hE : EnvEq E (st2 E 30 6 (nI (v + 1))) := fun k h => hk k (by omega)
    have hC2 : CI (st2 E 30 6 (nI (v + 1))) T D (v + 1) L := hC.desk (fun k h _ => hk k h) (by rw [st2_j _ _ _ _ (by decide)]; exact hC.2.1.2.1) (st2_s _ _ _ _) (Nat.le_refl _) hD (by omega)
    have hU2 : RU (st2 E 30 6 (nI (v + 1))) := by
      unfold RU
      rw [hk 32 (by decide)]
      exact hU
    have hO2 : NoR (st2 E 30 6 (nI (v + 1))) := fun u k hu hk2 => by
      rw [hk (45 + u) (by omega)]
      exact hO u k hu hk2
    have hfr : frS (st2 E 30 6 (nI (v + 1))) T = frS E T := frS_congr (fun t => by rw [hk 34 (by decide)])
    unfold f_L_law_65
    rw [if_neg (nI_ge (by omega) (by omega)), had, bd2_s, lt_e, nI_inc, ← hfr]
    exact ih (v + 1) n _ (by omega) (by omega) hC2 (hR.env hE) hU2 hO2
/-- from the plan on -/
theorem l42 {N : Nat} (hN : N ≤ 260) (xs : Nat → Int32) {T : Nat} {E : dd_S} (hC : CI E T 0 0 (fun _ => [])) (hU : RU E) (hO : NoR E) : ∃ s2 D V L2, f_L_law_42 N xs E (nI T) = some s2 ∧ CI s2 T D V L2 ∧ AR s2 L2 ∧ RU s2 := by
  obtain ⟨E2, D2, L2, a1, a2, a3, a4⟩ := pln_ev hC (fun d _ => rfl)
  obtain ⟨v, hv⟩ := cell_ev E2 hN xs (k := 7) (by decide)
  have hv' : f_L_cell E2 N xs (7 : Int32) = some v := hv
  obtain ⟨m, g1, b1⟩ := below_ev E2 v (n := 5) (by decide) (by decide)
  have b1' : f_L_below E2 v (5 : Int32) = some (nI m) := b1
  have h2 : (2 : Int32) + nI m = nI (2 + m) := nI_add 2 m
  have hU2 : RU E2 := by
    unfold RU
    rw [a4.1 32 (Or.inl rfl)]
    exact hU
  have hO2 : NoR E2 := fun u k hu hk => by
    rw [a4.2 u hu]
    exact hO u k hu hk
  obtain ⟨s2, L3, c1, c2, c3, c4⟩ := l65 (W := 2 + m) hN xs (by omega) (2 + m) 0 64 E2 (by omega) (by omega) a2 a3 hU2 hO2
  refine ⟨s2, D2, 2 + m, L3, ?_, c2, c3, c4⟩
  unfold f_L_law_42
  rw [a1, bd2_s, hv', bd_s, b1', bd_s, lt_e, h2]
  exact c1
