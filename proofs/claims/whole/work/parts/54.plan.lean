/-! PLANNING -/
theorem Fxd.env {E E2 : dd_S} {V : Nat} {d : Int32} (h : ∀ v, v < V → E2 (45 + v) = E (45 + v)) : Fxd E2 V d ↔ Fxd E V d := by
  constructor
  · rintro ⟨k, hk, v, hv, e⟩
    exact ⟨k, hk, v, hv, by rw [← h v hv]; exact e⟩
  · rintro ⟨k, hk, v, hv, e⟩
    exact ⟨k, hk, v, hv, by rw [h v hv]; exact e⟩
/-- a trip is placed: the best duty, or a new one, or none -/
theorem pt_both {E s : dd_S} {T D V t : Nat} {L : Nat → List Nat} (hC : CI E T D V L) (hM : MI E s T D V) (ht : t < T) (h34 : E 34 t = -1) :
    ∃ E2 s2 D2 L2, f_X5_planTrip E (nI t) = some E2 ∧ f_X6_place s (nI t) = some s2 ∧ CI E2 T D2 V L2 ∧ MI E2 s2 T D2 V ∧ EnvEq E E2 ∧ (∀ k, 36 ≤ k → k ≤ 38 → E2 k = E k) ∧ ∀ u, u ≠ t → s2 6 u = s 6 u := by
  have hT := hC.1.1
  have hD := hC.1.2.1
  obtain ⟨r, s1, m1, r1, r2, r3, r4, r5⟩ := best_both hC hM ht
  have hC1 := hC.fr r3
  have hM1 := (hM.fr r4).frC r3
  have h341 : s1 34 t = -1 := by rw [r3 34 (by unfold Scr; omega)]; exact h34
  have hm6 : m1 6 t = -1 := (hM1.2.2.1 t ht).trans h341
  have hu1 : ∀ u, m1 6 u = s 6 u := fun u => by rw [r4.1 6 (by decide) (by decide)]
  have hq1 : ∀ k, 36 ≤ k → k ≤ 38 → s1 k = E k := fun k h1 h2 => r3 k (by unfold Scr; omega)
  have hplace : ∀ (m : dd_S) (x : Int32), f_X6_place_64 (nI t) m x = some (st2 m 6 t x) := fun m x => by
    unfold f_X6_place_64
    rw [gd_p (ix_ok (by omega) (by decide)), lt_e, nI_clamp (by omega)]
  unfold f_X5_planTrip f_X6_place
  rw [r1, bd2_s, r2, bd2_s]
  rcases r5 with e | ⟨d, hd, e, g1, g2, l, g3, g4⟩
  · subst e
    rw [if_pos rfl, if_pos rfl, hC1.2.1.2.1, hM1.2.1.2.1]
    by_cases c12 : D = 12
    · subst c12
      rw [if_pos (show (12 : Int32) ≤ nI 12 by decide), if_pos (show (12 : Int32) ≤ nI 12 by decide), hplace]
      refine ⟨s1, m1, 12, L, rfl, ?_, hC1, hM1, r3.env, hq1, fun u _ => hu1 u⟩
      rw [← hm6, st2_id]
    · have hn12 : ¬ (12 : Int32) ≤ nI D := show ¬ (12 : Int32) ≤ _ from nI_ge (b := 12) (by omega) (by decide)
      rw [if_neg hn12, if_neg hn12, lt_e, st2_s, nI_inc, nI_sub1 (by omega), Nat.add_sub_cancel]
      have hfa : ∀ k, k ≠ 30 → st2 s1 30 5 (nI (D + 1)) k = s1 k := fun k hk => st2_k _ _ _ _ hk
      have hCa : CI (st2 s1 30 5 (nI (D + 1))) T (D + 1) V L := hC1.desk (fun k h _ => hfa k h) (st2_s _ _ _ _) (by rw [st2_j _ _ _ _ (by decide)]; exact hC1.2.1.2.2) (by omega) (by omega) hC1.1.2.2
      have hEa : EnvEq s1 (st2 s1 30 5 (nI (D + 1))) := fun k hk => hfa k (by omega)
      have hMa : MI (st2 s1 30 5 (nI (D + 1))) (st2 m1 0 8 (nI (D + 1))) T (D + 1) V := hM1.new hEa (fun v hv => hfa _ (by omega)) (fun k h1 h2 => st2_k _ _ _ _ (by omega)) (st2_k _ _ _ _ (by decide)) (fun j hj => st2_j _ _ _ _ (by omega)) (st2_s _ _ _ _) (fun u hu => by rw [st2_k _ _ _ _ (show 6 ≠ 0 by decide), hfa 34 (by omega)]; exact hM1.2.2.1 u hu)
      have hFx : Fxd (st2 s1 30 5 (nI (D + 1))) V (nI D) ↔ Fxd s1 V (nI D) := Fxd.env (fun v _ => hfa _ (by omega))
      have hback : ∀ m2 : dd_S, FrM (st2 m1 0 8 (nI (D + 1))) m2 → MI s1 (st2 m2 0 8 (nI D)) T D V := fun m2 hf => hM1.new EnvEq.refl (fun v hv => rfl) (fun k h1 h2 => by rw [st2_k _ _ _ _ (by omega), hf.1 k (by omega) (by omega), st2_k _ _ _ _ (by omega)]) (by rw [st2_k _ _ _ _ (by decide), hf.1 7 (by decide) (by decide), st2_k _ _ _ _ (by decide)]) (fun j hj => by rw [st2_j _ _ _ _ (by omega), hf.2 j (by omega), st2_j _ _ _ _ (by omega)]) (st2_s _ _ _ _) (fun u hu => by rw [st2_k _ _ _ _ (by decide), hf.1 6 (by decide) (by decide), st2_k _ _ _ _ (by decide)]; exact hM1.2.2.1 u hu)
      have hno : ∀ (s3 m2 : dd_S), FrS s1 s3 → FrM (st2 m1 0 8 (nI (D + 1))) m2 → ∃ E2 s2 D2 L2, f_X5_planTrip_69 (nI t) s3 = some E2 ∧ (lt (st2 m2 0 8 (m2 0 8 - 1)) fun sg11 => f_X6_place_64 (nI t) sg11 (-1)) = some s2 ∧ CI E2 T D2 V L2 ∧ MI E2 s2 T D2 V ∧ EnvEq E E2 ∧ (∀ k, 36 ≤ k → k ≤ 38 → E2 k = E k) ∧ ∀ u, u ≠ t → s2 6 u = s 6 u := fun s3 m2 h1 h2 => by
        have h8 : m2 0 8 = nI (D + 1) := by rw [h2.2 8 (by omega)]; exact st2_s _ _ _ _
        have h6 : st2 m2 0 8 (nI D) 6 t = -1 := by rw [st2_k _ _ _ _ (show 6 ≠ 0 by decide), h2.1 6 (by decide) (by decide), st2_k _ _ _ _ (show 6 ≠ 0 by decide)]; exact hm6
        rw [lt_e, h8, nI_sub1 (by omega), Nat.add_sub_cancel, hplace]
        refine ⟨s3, st2 m2 0 8 (nI D), D, L, rfl, ?_, hC1.fr h1, (hback m2 h2).frC h1, (r3.trans h1).env, fun k a b => (h1 k (by unfold Scr; omega)).trans (hq1 k a b), fun u _ => ?_⟩
        · rw [← h6, st2_id]
        · rw [st2_k _ _ _ _ (show 6 ≠ 0 by decide), h2.1 6 (by decide) (by decide), st2_k _ _ _ _ (show 6 ≠ 0 by decide)]; exact hu1 u
      rcases tryPut_ev hC1 (show D < 12 by omega) ht with ⟨s3, a1, a2, a3⟩ | ⟨a1, a2, a3, l, s3, b1, b2, b3, b4, b5⟩
      · rcases canPut_ev hCa hMa (show D < 12 by omega) ht with ⟨c1, -⟩ | ⟨c1, c2, c3, -⟩
        · rw [a1, bd2_s, if_pos rfl, c1, bd2_s, if_pos rfl]
          exact hno s3 _ a2 FrM.refl
        · rcases a3 with h | h | ⟨u, hu, e⟩
          · rw [hfa 34 (by decide)] at c1; exact absurd c1 h
          · exact absurd (hFx.mpr h) c2
          · have := c3 u hu
            rw [hfa 43 (by decide)] at this
            exact absurd e this
      · rcases canPut_ev hCa hMa (show D < 12 by omega) ht with ⟨-, c2⟩ | ⟨-, -, -, c4⟩
        · rcases c2 with h | h | ⟨u, hu, e⟩
          · rw [hfa 34 (by decide)] at h; exact absurd a1 h
          · exact absurd (hFx.mp h) a2
          · rw [hfa 43 (by decide)] at e
            exact absurd e (a3 u hu)
        · obtain ⟨m2, d1, d2, -⟩ := c4 l (by rw [hfa 43 (by decide), hfa 34 (by decide)]; exact b1)
          rw [hEa.ft] at d1
          rw [b2, bd2_s, d1, bd2_s]
          by_cases c0 : ftS s1 l 8 = 0
          · rw [if_pos c0, if_pos c0]
            exact hno s3 m2 b3 d2
          · have hlen := b1.len
            obtain ⟨s15, k1, k2, k3, k4, k5, k6⟩ := keep_ev (d := D) (t := t) (x := nI D) b3 (by omega) (by omega) (by omega) b4 b5
            have h305 : s3 30 5 = nI D := by rw [b3 30 (by unfold Scr; omega)]; exact hC1.2.1.2.1
            have h8 : m2 0 8 = nI (D + 1) := by rw [d2.2 8 (by omega)]; exact st2_s _ _ _ _
            have hkp : f_X5_keepPut s3 (nI D) (nI t) = some (st2 s15 34 t (nI D)) := by
              unfold f_X5_keepPut
              rw [dat_ev (by omega), bd_s, k1, bd_s, k2, bd_s]
            have h305b : st2 s15 34 t (nI D) 30 5 = nI D := by rw [k3 30 (by unfold Scr; omega) (by omega) (by omega) (by omega)]; exact hC1.2.1.2.1
            rw [if_neg c0, if_neg c0, h305, hkp, bd_s, lt_e, h305b, nI_inc, lt_e, h8, nI_sub1 (by omega), Nat.add_sub_cancel, hplace]
            have hfb : ∀ k, k ≠ 30 → st2 (st2 s15 34 t (nI D)) 30 5 (nI (D + 1)) k = st2 s15 34 t (nI D) k := fun k hk => st2_k _ _ _ _ hk
            have hfc : ∀ k, ¬ Scr k → k ≠ D → k ≠ 15 + D → k ≠ 34 → k ≠ 30 → st2 (st2 s15 34 t (nI D)) 30 5 (nI (D + 1)) k = s1 k := fun k h0 h1 h2 h3 h4 => by rw [hfb k h4, k3 k h0 h1 h2 h3]
            refine ⟨_, _, D + 1, _, rfl, rfl, hC1.one (d := D) (t := t) (x := nI D) (l := l) (by omega) ht hfc (st2_s _ _ _ _) ?_ (by omega) (by omega) (by rw [hfb 34 (by omega)]; exact k4) (Or.inr ⟨D, by omega, rfl⟩) (fun e he hne => ⟨by rw [h341]; exact fun h => nI_m1 (by omega) h.symm, fun h => hne (nI_inj (by omega) (by omega) h).symm⟩) b1 ⟨by rw [hfb D (by omega)]; exact k5.1, by rw [hfb _ (by omega)]; exact k5.2⟩ (fun j h2 h8 => by rw [hfb D (by omega)]; exact k6 j h2 h8), (hMa.fr d2).one (d := D) (by omega) (fun k h0 h1 h2 h3 h4 => (hfc k h0 h1 h2 h3 h4).trans (hfa k h4).symm) (by rw [hfb 34 (by omega), hfa 34 (by omega)]; exact k4), r3.env.trans (fun k hk => hfc k (by unfold Scr; omega) (by omega) (by omega) (by omega) (by omega)), fun k h1 h2 => (hfc k (by unfold Scr; omega) (by omega) (by omega) (by omega) (by omega)).trans (hq1 k h1 h2), fun u hu => ?_⟩
            · rw [st2_j _ _ _ _ (by decide), k3 30 (by unfold Scr; omega) (by omega) (by omega) (by omega)]; exact hC1.2.1.2.2
            · rw [st2_j _ _ _ _ hu, d2.1 6 (by decide) (by decide), st2_k _ _ _ _ (show 6 ≠ 0 by decide)]; exact hu1 u
  · subst e
    rw [if_neg (nI_m1 (by omega)), if_neg (nI_m1 (by omega)), hplace]
    rcases tryPut_ev hC1 (show d < 12 by omega) ht with ⟨s3, a1, a2, a3⟩ | ⟨-, a2, a3, l2, s3, b1, b2, b3, b4, b5⟩
    · rcases a3 with h | h | ⟨u, hu, e⟩
      · exact absurd g1 h
      · exact absurd h g2
      · have htl : t ∈ l := (g3.2 t).mpr ⟨ht, by rw [upd_at, if_pos rfl]⟩
        have hL := hC1.2.2.2.2.2.1 d (by omega)
        have hu2 := (hL.1.2 u).mp hu
        have hut : u ≠ t := fun q => by rw [q, g1] at hu2; exact nI_m1 (by omega) hu2.2.symm
        have hul : u ∈ l := (g3.2 u).mpr ⟨hu2.1, by rw [upd_at, if_neg hut]; exact hu2.2⟩
        exact absurd (asc_inj g3.1 hul htl e) hut
    · have el : l2 = l := b1.uniq g3
      subst el
      have hlen := b1.len
      obtain ⟨s15, k1, k2, k3, k4, k5, k6⟩ := keep_ev (d := d) (t := t) (x := nI d) b3 (by omega) (by omega) (by omega) b4 b5
      have hkp : f_X5_keepPut s3 (nI d) (nI t) = some (st2 s15 34 t (nI d)) := by
        unfold f_X5_keepPut
        rw [dat_ev (by omega), bd_s, k1, bd_s, k2, bd_s]
      rw [b2, bd2_s, if_neg g4, hkp, bd_s]
      refine ⟨_, _, D, _, rfl, rfl, hC1.one (d := d) (t := t) (x := nI d) (l := l2) (by omega) ht (fun q h1 h2 h3 h4 _ => k3 q h1 h2 h3 h4) ?_ ?_ (Nat.le_refl _) hD k4 (Or.inr ⟨d, hd, rfl⟩) (fun e he hne => ⟨by rw [h341]; exact fun h => nI_m1 (by omega) h.symm, fun h => hne (nI_inj (by omega) (by omega) h).symm⟩) b1 k5 k6, hM1.one (d := d) (by omega) (fun q h1 h2 h3 h4 _ => k3 q h1 h2 h3 h4) k4, r3.env.trans (fun k hk => k3 k (by unfold Scr; omega) (by omega) (by omega) (by omega)), fun k h1 h2 => (k3 k (by unfold Scr; omega) (by omega) (by omega) (by omega)).trans (hq1 k h1 h2), fun u hu => ?_⟩
      · rw [k3 30 (by unfold Scr; omega) (by omega) (by omega) (by omega)]; exact hC1.2.1.2.1
      · rw [k3 30 (by unfold Scr; omega) (by omega) (by omega) (by omega)]; exact hC1.2.1.2.2
      · rw [st2_j _ _ _ _ hu]; exact hu1 u
/-- the class's queue of the trips that are in no duty -/
theorem cq_loop {T D V : Nat} {L : Nat → List Nat} {dep du : Nat → Int32} : ∀ (q v n : Nat) (E : dd_S) (Q : List Nat), v + q = T → q < n → CI E T D V L → E 43 = dep → E 34 = du → QAt E dep Q → QS dep Q → (∀ x, x ∈ Q ↔ x < v ∧ du x = -1) →
    ∃ E2 Q2, f_X5_plan_9 n E (nI v) = f_X5_plan_53 64 E2 0 ∧ FrQ E E2 ∧ QAt E2 dep Q2 ∧ QS dep Q2 ∧ ∀ x, x ∈ Q2 ↔ x < T ∧ du x = -1 := by
  intro q
  induction q with
  | zero =>
    intro v n E Q hv hn hC h43 h34 hA hS hm
    have hT := hC.1.1
    obtain ⟨n, rfl⟩ : ∃ m, n = m + 1 := ⟨n - 1, by omega⟩
    have : v = T := by omega
    subst this
    unfold f_X5_plan_9
    rw [hC.2.1.1, if_pos ((nI_le_iff (by omega) (by omega)).mpr (Nat.le_refl _))]
    exact ⟨E, Q, rfl, FrQ.refl, hA, hS, hm⟩
  | succ q ih =>
    intro v n E Q hv hn hC h43 h34 hA hS hm
    have hT := hC.1.1
    obtain ⟨n, rfl⟩ : ∃ m, n = m + 1 := ⟨n - 1, by omega⟩
    unfold f_X5_plan_9
    rw [hC.2.1.1, if_neg (nI_ge (by omega) (by omega)), dof_ev (by omega), bd_s, h34]
    by_cases e : du v = -1
    · have hlen := nodup_len v Q hS.nodup (fun x hx => ((hm x).mp hx).1)
      obtain ⟨Q2, s2, b1, b2, b3, b4, b5⟩ := qi_ev (v := v) (by omega) hA hS (fun x hx => ((hm x).mp hx).1)
      rw [if_pos e, dep_ev (by omega), bd_s, h43, b1, bd_s]
      unfold f_X5_plan_45
      rw [lt_e, nI_inc]
      obtain ⟨E3, Q3, c1, c2, c3, c4, c5⟩ := ih (v + 1) n s2 Q2 (by omega) (by omega) (hC.frw b2.w) ((b2 43 (by decide) (by decide) (by decide)).trans h43) ((b2 34 (by decide) (by decide) (by decide)).trans h34) b3 b4 (fun x => by
        rw [b5, hm]
        constructor
        · rintro (h | h)
          · subst h; exact ⟨by omega, e⟩
          · exact ⟨by omega, h.2⟩
        · rintro ⟨h1, h2⟩
          by_cases e2 : x = v
          · exact Or.inl e2
          · exact Or.inr ⟨by omega, h2⟩)
      exact ⟨E3, Q3, c1, b2.trans c2, c3, c4, c5⟩
    · rw [if_neg e]
      unfold f_X5_plan_45
      rw [lt_e, nI_inc]
      exact ih (v + 1) n E Q (by omega) (by omega) hC h43 h34 hA hS (fun x => by
        rw [hm]
        constructor
        · rintro h; exact ⟨by omega, h.2⟩
        · rintro ⟨h1, h2⟩
          by_cases e2 : x = v
          · subst e2; exact absurd h2 e
          · exact ⟨by omega, h2⟩)
/-- the reference's search -/
def cand (tm du : Nat → Int32) (t : Nat) : Bool := decide (tm t = 0) && decide (du t = -1)
theorem cand_iff {tm du : Nat → Int32} {t : Nat} : cand tm du t = true ↔ tm t = 0 ∧ du t = -1 := by
  unfold cand
  rw [Bool.and_eq_true, decide_eq_true_eq, decide_eq_true_eq]
theorem ps_loop {T : Nat} (hT : T ≤ 40) {s : dd_S} {tm : Nat → Int32} {v2 : Int32} {k : dd_S → (Nat → Int32) → Int32 → Option (Int32 × dd_S)} (h2 : s 0 2 = nI T) : ∀ (q v n : Nat), v + q = T → q < n →
    ∃ n', f_X6_plan_25 k n s tm v2 (enc (bo (cand tm (s 6)) (s 4) v)) (nI v) = f_X6_plan_25 k (n' + 1) s tm v2 (enc (bo (cand tm (s 6)) (s 4) T)) (nI T) := by
  intro q
  induction q with
  | zero =>
    intro v n hv hn
    have : v = T := by omega
    subst this
    exact ⟨n - 1, by rw [show n - 1 + 1 = n by omega]⟩
  | succ q ih =>
    intro v n hv hn
    obtain ⟨n, rfl⟩ : ∃ m, n = m + 1 := ⟨n - 1, by omega⟩
    obtain ⟨n', r⟩ := ih (v + 1) n (by omega) (by omega)
    refine ⟨n', Eq.trans ?_ r⟩
    have hsame : cand tm (s 6) v = false → f_X6_plan_76 k (fun zs zt z0 z1 z2 => f_X6_plan_25 k n zs zt z0 z1 z2) s tm v2 (enc (bo (cand tm (s 6)) (s 4) v)) (nI v) = f_X6_plan_25 k n s tm v2 (enc (bo (cand tm (s 6)) (s 4) (v + 1))) (nI (v + 1)) := fun h => by
      unfold f_X6_plan_76
      rw [lt_e, nI_inc]
      conv => rhs; unfold bo
      rw [if_neg (by rw [h]; decide)]
    conv => lhs; unfold f_X6_plan_25
    rw [h2, if_neg (nI_ge (by omega) (by omega)), gd_p (ix_ok (by omega) (by decide)), gd_p (ix_ok (by omega) (by decide)), gd_p (ix_ok (by omega) (by decide)), nI_clamp (show v < 2 ^ 31 by omega)]
    by_cases c1 : tm v = 0
    · rw [if_pos c1]
      by_cases c2 : s 6 v = -1
      · have hc : cand tm (s 6) v = true := cand_iff.mpr ⟨c1, c2⟩
        rw [if_pos c2]
        rcases bo_spec (cand tm (s 6)) (s 4) v with ⟨e, -⟩ | ⟨x, e, hx, -⟩
        · rw [e]
          unfold f_X6_plan_73 f_X6_plan_76
          rw [if_pos (show enc none = -1 from rfl), lt_e, nI_inc]
          conv => rhs; unfold bo
          rw [if_pos hc, e]
          rfl
        · rw [e, if_neg (show ¬ enc (some x) = -1 from nI_m1 (by omega))]
          have hex : enc (some x) = nI x := rfl
          rw [hex, gd_p (ix_ok (by omega) (by decide)), nI_clamp (show x < 2 ^ 31 by omega)]
          by_cases c3 : s 4 x ≤ s 4 v
          · rw [if_pos c3]
            unfold f_X6_plan_76
            rw [lt_e, nI_inc]
            conv => rhs; unfold bo
            rw [if_pos hc, e]
            show _ = f_X6_plan_25 k n s tm v2 (enc (if s 4 v < s 4 x then some v else some x)) (nI (v + 1))
            rw [if_neg (i32_nlt.mpr c3)]
            rfl
          · rw [if_neg c3]
            unfold f_X6_plan_73 f_X6_plan_76
            rw [lt_e, nI_inc]
            conv => rhs; unfold bo
            rw [if_pos hc, e]
            show _ = f_X6_plan_25 k n s tm v2 (enc (if s 4 v < s 4 x then some v else some x)) (nI (v + 1))
            rw [if_pos (i32_nle.mp c3)]
            rfl
      · rw [if_neg c2]
        refine hsame ?_
        cases h : cand tm (s 6) v with
        | false => rfl
        | true => exact absurd (cand_iff.mp h).2 c2
    · rw [if_neg c1]
      refine hsame ?_
      cases h : cand tm (s 6) v with
      | false => rfl
      | true => exact absurd (cand_iff.mp h).1 c1
/-- the class goes through its queue, the reference searches: the same trips in the same order -/
theorem pl_both {T V : Nat} {dep : Nat → Int32} : ∀ (Q pre : List Nat) (n1 n2 i : Nat) (E s : dd_S) (tm : Nat → Int32) (D : Nat) (L : Nat → List Nat), Q.length < n1 → Q.length < n2 → i + Q.length ≤ T → CI E T D V L → MI E s T D V → E 43 = dep → QAt E dep (pre ++ Q) → (pre ++ Q).length ≤ 40 → QS dep Q → (∀ x, x ∈ Q ↔ x < T ∧ cand tm (s 6) x = true) →
    ∃ r E2 s2 D2 L2, f_X5_plan_53 n1 E (nI pre.length) = some (r, E2) ∧ f_X6_plan_12 n2 s tm (nI i) = some (r, s2) ∧ CI E2 T D2 V L2 ∧ MI E2 s2 T D2 V := by
  intro Q
  induction Q with
  | nil =>
    intro pre n1 n2 i E s tm D L h1 h2 hi hC hM h43 hA hlen hS hm
    have hT := hC.1.1
    obtain ⟨n1, rfl⟩ : ∃ m, n1 = m + 1 := ⟨n1 - 1, by simp at h1; omega⟩
    obtain ⟨n2, rfl⟩ : ∃ m, n2 = m + 1 := ⟨n2 - 1, by simp at h2; omega⟩
    rw [List.append_nil] at hA hlen
    obtain ⟨r, r1, r2⟩ := free_both hC hM
    have hend : f_X6_plan_105 s tm = some (r, s) := by unfold f_X6_plan_105; rw [r2, bd_s]
    refine ⟨r, E, s, D, L, ?_, ?_, hC, hM⟩
    · unfold f_X5_plan_53
      rw [hA.1, if_pos ((nI_le_iff (by omega) (by omega)).mpr (Nat.le_refl _)), r1, bd_s]
    · unfold f_X6_plan_12
      rw [hM.2.1.1]
      by_cases c : T ≤ i
      · rw [if_pos ((nI_le_iff (by omega) (by simp at hi; omega)).mpr c)]
        exact hend
      · rw [if_neg (nI_ge (by omega) (by omega))]
        obtain ⟨n', e⟩ := ps_loop hT (tm := tm) (v2 := nI i) (k := fun zs zt z0 => f_X6_plan_12 n2 zs zt z0) hM.2.1.1 T 0 64 (by omega) (by omega)
        refine Eq.trans e ?_
        unfold f_X6_plan_25
        rw [hM.2.1.1, if_pos ((nI_le_iff (by omega) (by omega)).mpr (Nat.le_refl _)), bo_head (key := s 4) List.Pairwise.nil hm]
        show (if enc none = -1 then _ else _) = _
        rw [if_pos (show enc none = -1 from rfl)]
        exact hend
  | cons x Q ih =>
    intro pre n1 n2 i E s tm D L h1 h2 hi hC hM h43 hA hlen hS hm
    have hT := hC.1.1
    obtain ⟨n1, rfl⟩ : ∃ m, n1 = m + 1 := ⟨n1 - 1, by simp at h1; omega⟩
    obtain ⟨n2, rfl⟩ : ∃ m, n2 = m + 1 := ⟨n2 - 1, by simp at h2; omega⟩
    have hx := (hm x).mp (by simp)
    have hxc := cand_iff.mp hx.2
    have hle : pre.length < (pre ++ x :: Q).length := by simp
    have hnum : E 38 pre.length = nI x := by
      rw [hA.2.2 pre.length hle]
      simp
    have hxQ : x ∉ Q := (List.nodup_cons.mp hS.nodup).1
    obtain ⟨E2, s2, D2, L2, p1, p2, p3, p4, p5, p6, p7⟩ := pt_both hC hM hx.1 ((hM.2.2.1 x hx.1).symm.trans hxc.2)
    have hA2 : QAt E2 dep ((pre ++ [x]) ++ Q) := by
      rw [List.append_assoc, List.singleton_append]
      exact ⟨by rw [p6 36 (by decide) (by decide)]; exact hA.1, fun j hj => by rw [p6 37 (by decide) (by decide)]; exact hA.2.1 j hj, by rw [p6 38 (by decide) (by decide)]; exact hA.2.2⟩
    obtain ⟨r, E3, s3, D3, L3, q1, q2, q3, q4⟩ := ih (pre ++ [x]) n1 n2 (i + 1) E2 s2 (upd tm x 1) D2 L2 (by simp at h1; omega) (by simp at h2; omega) (by simp at hi; omega) p3 p4 (p5.p.2.2.1.trans h43) hA2 (by rw [List.append_assoc, List.singleton_append]; exact hlen) (List.pairwise_cons.mp hS).2 (fun y => by
      rw [cand_iff, upd_at]
      by_cases e : y = x
      · subst e
        rw [if_pos rfl]
        exact ⟨fun h => absurd h hxQ, fun h => absurd h.2.1 (by decide)⟩
      · rw [if_neg e, p7 y e, ← cand_iff, ← hm y]
        exact ⟨fun h => List.mem_cons_of_mem _ h, fun h => by
          rcases List.mem_cons.mp h with q | q
          · exact absurd q e
          · exact q⟩)
    refine ⟨r, E3, s3, D3, L3, ?_, ?_, q3, q4⟩
    · rw [List.length_append, List.length_singleton] at q1
      unfold f_X5_plan_53
      rw [hA.1, if_neg (nI_ge (by omega) (by omega)), num_ev (by omega), bd_s, hnum, p1, bd_s, lt_e, nI_inc]
      exact q1
    · unfold f_X6_plan_12
      rw [hM.2.1.1, if_neg (nI_ge (by simp at hi; omega) (by omega))]
      obtain ⟨n', e⟩ := ps_loop hT (tm := tm) (v2 := nI i) (k := fun zs zt z0 => f_X6_plan_12 n2 zs zt z0) hM.2.1.1 T 0 64 (by omega) (by omega)
      refine Eq.trans e ?_
      unfold f_X6_plan_25
      have h4 : s 4 = dep := hM.1.2.2.1.trans h43
      rw [hM.2.1.1, if_pos ((nI_le_iff (by omega) (by omega)).mpr (Nat.le_refl _)), bo_head (Q := x :: Q) (by rw [h4]; exact hS) hm]
      have hex : enc (List.head? (x :: Q)) = nI x := rfl
      rw [hex, if_neg (nI_m1 (by omega)), gd_p (ix_ok (by omega) (by decide)), lt_e, nI_clamp (by omega), p2, bd_s, lt_e, nI_inc]
      exact q2
theorem po_plan : PO_plan Inv := by
  intro sC sM ⟨T, D, V, L, hC, hM⟩
  have hT := hC.1.1
  have hM0 := hM.thrown (v := 0)
  obtain ⟨s1, a1, a2, a3⟩ := qc_ev (s := sC) (key := sC 43)
  have hC1 := hC.frw a2.w
  obtain ⟨E2, Q, b1, b2, b3, b4, b5⟩ := cq_loop (dep := sC 43) (du := sC 34) T 0 64 s1 [] (by omega) (by omega) hC1 (a2 43 (by decide) (by decide) (by decide)) (a2 34 (by decide) (by decide) (by decide)) a3 List.Pairwise.nil (fun x => ⟨fun h => absurd h List.not_mem_nil, fun h => absurd h.1 (Nat.not_lt_zero _)⟩)
  have hC2 := hC1.frw b2.w
  have hM2 := (hM0.frCw a2.w).frCw b2.w
  have hlen := nodup_len T Q b4.nodup (fun x hx => ((b5 x).mp hx).1)
  obtain ⟨r, E3, s3, D3, L3, c1, c2, c3, c4⟩ := pl_both (T := T) (V := V) (dep := sC 43) Q [] 64 64 0 E2 (st2 sM 0 0 0) (fun _ => 0) D L (by omega) (by omega) (by omega) hC2 hM2 ((b2 43 (by decide) (by decide) (by decide)).trans (a2 43 (by decide) (by decide) (by decide))) b3 (by rw [List.nil_append]; omega) b4 (fun x => by
    rw [b5, cand_iff]
    constructor
    · rintro ⟨h1, h2⟩
      exact ⟨h1, rfl, (hM0.2.2.1 x h1).trans h2⟩
    · rintro ⟨h1, -, h2⟩
      exact ⟨h1, (hM0.2.2.1 x h1).symm.trans h2⟩)
  have b1' : f_X5_plan_9 64 s1 (0 : Int32) = f_X5_plan_53 64 E2 0 := b1
  have c1' : f_X5_plan_53 64 E2 (0 : Int32) = some (r, E3) := c1
  have c2' : f_X6_plan_12 64 (st2 sM 0 0 0) (fun _ => 0) (0 : Int32) = some (r, s3) := c2
  refine ⟨r, E3, s3, ?_, ?_, T, D3, V, L3, c3, c4⟩
  · unfold f_X5_plan
    rw [a1, bd_s, b1', c1']
  · unfold f_X6_plan
    rw [lt_e, lt_e, c2']
