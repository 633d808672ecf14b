/-! P28: planning keeps all duties right -/
def AR (E : dd_S) (L : Nat → List Nat) : Prop := ∀ d, d < 12 → ftS E (L d) 8 = 1
theorem AR.env {E E2 : dd_S} {L : Nat → List Nat} (h : AR E L) (hE : EnvEq E E2) : AR E2 L := fun d hd => by rw [hE.ft]; exact h d hd
theorem ft_1 {E : dd_S} {l : List Nat} (h : ftS E l 8 ≠ 0) : ftS E l 8 = 1 := by
  rcases of_decide_eq_true (ft8 (E := E) (l := l)) with e | e
  · exact absurd e h
  · exact e
theorem bst_loop {T D V t : Nat} {L : Nat → List Nat} (ht : t < T) : ∀ (q d n : Nat) (b c : Int32) (E : dd_S), d + q = D → q < n → CI E T D V L → (b = -1 ∨ ∃ e, e < D ∧ b = nI e ∧ Good E T V t e) →
    ∃ r s1, f_X5_cheapestDuty_7 (nI t) n E b c (nI d) = some (r, s1) ∧ FrS E s1 ∧ (r = -1 ∨ ∃ e, e < D ∧ r = nI e ∧ Good s1 T V t e) := by
  intro q
  induction q with
  | zero =>
    intro d n b c E hd hn hC hb
    have hD := hC.1.2.1
    obtain ⟨n, rfl⟩ : ∃ m, n = m + 1 := ⟨n - 1, by omega⟩
    unfold f_X5_cheapestDuty_7
    rw [hC.2.1.2.1, if_pos ((nI_le_iff (by omega) (by omega)).mpr (by omega))]
    exact ⟨b, E, rfl, FrS.refl, hb⟩
  | succ q ih =>
    intro d n b c E hd hn hC hb
    have hD := hC.1.2.1
    obtain ⟨n, rfl⟩ : ∃ m, n = m + 1 := ⟨n - 1, by omega⟩
    unfold f_X5_cheapestDuty_7
    rw [hC.2.1.2.1, if_neg (nI_ge (by omega) (by omega))]
    have skip : ∀ s1, FrS E s1 → ∃ r s1', f_X5_cheapestDuty_62 (nI t) (fun zs z0 z1 z2 => f_X5_cheapestDuty_7 (nI t) n zs z0 z1 z2) s1 b c (nI d) = some (r, s1') ∧ FrS E s1' ∧ (r = -1 ∨ ∃ e, e < D ∧ r = nI e ∧ Good s1' T V t e) := fun s1 h1 => by
      unfold f_X5_cheapestDuty_62
      rw [lt_e, nI_inc]
      obtain ⟨r, s3, r1, r3, r5⟩ := ih (d + 1) n b c s1 (by omega) (by omega) (hC.fr h1) (hb.imp id (fun ⟨e, h3, h4, h5⟩ => ⟨e, h3, h4, h5.fr h1⟩))
      exact ⟨r, s3, r1, h1.trans r3, r5⟩
    have take : ∀ (s1 : dd_S) (x : Int32), FrS E s1 → Good E T V t d → ∃ r s1', f_X5_cheapestDuty_62 (nI t) (fun zs z0 z1 z2 => f_X5_cheapestDuty_7 (nI t) n zs z0 z1 z2) s1 (nI d) x (nI d) = some (r, s1') ∧ FrS E s1' ∧ (r = -1 ∨ ∃ e, e < D ∧ r = nI e ∧ Good s1' T V t e) := fun s1 x h1 hg => by
      unfold f_X5_cheapestDuty_62
      rw [lt_e, nI_inc]
      obtain ⟨r, s3, r1, r3, r5⟩ := ih (d + 1) n (nI d) x s1 (by omega) (by omega) (hC.fr h1) (Or.inr ⟨d, by omega, rfl, hg.fr h1⟩)
      exact ⟨r, s3, r1, h1.trans r3, r5⟩
    rcases tryPut_ev hC (show d < 12 by omega) ht with ⟨s1, a1, a2, a3⟩ | ⟨g1, g2, g3, l, s1, b1, b2, b3, b4, b5⟩
    · rw [a1, bd2_s, if_pos rfl]
      exact skip s1 a2
    · rw [b2, bd2_s]
      by_cases c0 : ftS E l 8 = 0
      · rw [if_pos c0]
        exact skip s1 b3
      · rw [if_neg c0, dat_ev (by omega), bd_s, lt_e]
        unfold f_X5_cheapestDuty_56
        by_cases c1 : b = -1
        · rw [if_pos c1]
          exact take s1 _ b3 ⟨g1, g2, l, b1, c0⟩
        · rw [if_neg c1]
          by_cases c2 : c ≤ s1 12 5 - s1 d 5
          · rw [if_pos c2]
            exact skip s1 b3
          · rw [if_neg c2]
            exact take s1 _ b3 ⟨g1, g2, l, b1, c0⟩
theorem bst_ev {E : dd_S} {T D V t : Nat} {L : Nat → List Nat} (hC : CI E T D V L) (ht : t < T) : ∃ r s1, f_X5_cheapestDuty E (nI t) = some (r, s1) ∧ FrS E s1 ∧ (r = -1 ∨ ∃ e, e < D ∧ r = nI e ∧ Good s1 T V t e) := bst_loop ht D 0 64 (-1) 0 E (by omega) (by have := hC.1.2.1; omega) hC (Or.inl rfl)
/-- what planning leaves as it is -/
def KP (a b : dd_S) : Prop := EnvEq a b ∧ ∀ v, v < 8 → b (45 + v) = a (45 + v)
theorem KP.refl {a : dd_S} : KP a a := ⟨EnvEq.refl, fun _ _ => rfl⟩
theorem KP.trans {a b c : dd_S} (h1 : KP a b) (h2 : KP b c) : KP a c := ⟨h1.1.trans h2.1, fun v hv => (h2.2 v hv).trans (h1.2 v hv)⟩
theorem FrW.kp {a b : dd_S} (h : FrW a b) : KP a b := ⟨h.env, fun v hv => h (45 + v) (by unfold Scw; omega)⟩
theorem plt_ev {E : dd_S} {T D V t : Nat} {L : Nat → List Nat} (hC : CI E T D V L) (hR : AR E L) (ht : t < T) (h34 : E 34 t = -1) :
    ∃ E2 D2 L2, f_X5_planTrip E (nI t) = some E2 ∧ CI E2 T D2 V L2 ∧ AR E2 L2 ∧ KP E E2 ∧ (∀ k, 36 ≤ k → k ≤ 38 → E2 k = E k) ∧ ∀ u, u ≠ t → E2 34 u = E 34 u := by
  have hT := hC.1.1
  have hD := hC.1.2.1
  obtain ⟨r, s1, r1, r3, r5⟩ := bst_ev hC ht
  have hC1 := hC.fr r3
  have hR1 : AR s1 L := hR.env r3.env
  have h341 : s1 34 t = -1 := by rw [r3 34 (by unfold Scr; omega)]; exact h34
  have hu1 : ∀ u, s1 34 u = E 34 u := fun u => by rw [r3 34 (by unfold Scr; omega)]
  have hq1 : ∀ k, 36 ≤ k → k ≤ 38 → s1 k = E k := fun k h1 h2 => r3 k (by unfold Scr; omega)
  unfold f_X5_planTrip
  rw [r1, bd2_s]
  rcases r5 with e | ⟨d, hd, e, g1, g2, l, g3, g4⟩
  · subst e
    rw [if_pos rfl, hC1.2.1.2.1]
    by_cases c12 : D = 12
    · subst c12
      rw [if_pos (show (12 : Int32) ≤ nI 12 by decide)]
      exact ⟨s1, 12, L, rfl, hC1, hR1, r3.w.kp, hq1, fun u _ => hu1 u⟩
    · have hn12 : ¬ (12 : Int32) ≤ nI D := show ¬ (12 : Int32) ≤ _ from nI_ge (b := 12) (by omega) (by decide)
      rw [if_neg hn12]
      have hno : ∀ s3 : dd_S, FrS s1 s3 → ∃ E2 D2 L2, f_X5_planTrip_69 (nI t) s3 = some E2 ∧ CI E2 T D2 V L2 ∧ AR E2 L2 ∧ KP E E2 ∧ (∀ k, 36 ≤ k → k ≤ 38 → E2 k = E k) ∧ ∀ u, u ≠ t → E2 34 u = E 34 u := fun s3 h1 =>
        ⟨s3, D, L, rfl, hC1.fr h1, hR1.env h1.env, (r3.trans h1).w.kp, fun k a b => (h1 k (by unfold Scr; omega)).trans (hq1 k a b), fun u _ => by rw [h1 34 (by unfold Scr; omega)]; exact hu1 u⟩
      rcases tryPut_ev hC1 (show D < 12 by omega) ht with ⟨s3, a1, a2, a3⟩ | ⟨a1, a2, a3, l, s3, b1, b2, b3, b4, b5⟩
      · rw [a1, bd2_s, if_pos rfl]
        exact hno s3 a2
      · rw [b2, bd2_s]
        by_cases c0 : ftS s1 l 8 = 0
        · rw [if_pos c0]
          exact hno s3 b3
        · have hlen := b1.len
          obtain ⟨s15, k1, k2, k3, k4, k5, k6⟩ := keep_ev (d := D) (t := t) (x := nI D) b3 (by omega) (by omega) (by omega) b4 b5
          have h305 : s3 30 5 = nI D := by rw [b3 30 (by unfold Scr; omega)]; exact hC1.2.1.2.1
          have hkp : f_X5_keepPut s3 (nI D) (nI t) = some (st2 s15 34 t (nI D)) := by
            unfold f_X5_keepPut
            rw [dat_ev (by omega), bd_s, k1, bd_s, k2, bd_s]
          have h305b : st2 s15 34 t (nI D) 30 5 = nI D := by rw [k3 30 (by unfold Scr; omega) (by omega) (by omega) (by omega)]; exact hC1.2.1.2.1
          rw [if_neg c0, h305, hkp, bd_s, lt_e, h305b, nI_inc]
          have hfb : ∀ k, k ≠ 30 → st2 (st2 s15 34 t (nI D)) 30 5 (nI (D + 1)) k = st2 s15 34 t (nI D) k := fun k hk => st2_k _ _ _ _ hk
          have hfc : ∀ k, ¬ Scr k → k ≠ D → k ≠ 15 + D → k ≠ 34 → k ≠ 30 → st2 (st2 s15 34 t (nI D)) 30 5 (nI (D + 1)) k = s1 k := fun k h0 h1 h2 h3 h4 => by rw [hfb k h4, k3 k h0 h1 h2 h3]
          have hE2 : EnvEq s1 (st2 (st2 s15 34 t (nI D)) 30 5 (nI (D + 1))) := fun k hk => hfc k (by unfold Scr; omega) (by omega) (by omega) (by omega) (by omega)
          refine ⟨_, D + 1, _, rfl, hC1.one (d := D) (t := t) (x := nI D) (l := l) (by omega) ht hfc (st2_s _ _ _ _) ?_ (by omega) (by omega) (by rw [hfb 34 (by omega)]; exact k4) (Or.inr ⟨D, by omega, rfl⟩) (fun e he hne => ⟨by rw [h341]; exact fun h => nI_m1 (by omega) h.symm, fun h => hne (nI_inj (by omega) (by omega) h).symm⟩) b1 ⟨by rw [hfb D (by omega)]; exact k5.1, by rw [hfb _ (by omega)]; exact k5.2⟩ (fun j h2 h8 => by rw [hfb D (by omega)]; exact k6 j h2 h8), ?_, ⟨r3.env.trans hE2, fun v hv => (hfc (45 + v) (by unfold Scr; omega) (by omega) (by omega) (by omega) (by omega)).trans (r3 (45 + v) (by unfold Scr; omega))⟩, fun k h1 h2 => (hfc k (by unfold Scr; omega) (by omega) (by omega) (by omega) (by omega)).trans (hq1 k h1 h2), fun u hu => ?_⟩
          · rw [st2_j _ _ _ _ (by decide), k3 30 (by unfold Scr; omega) (by omega) (by omega) (by omega)]; exact hC1.2.1.2.2
          · intro e he
            rw [hE2.ft]
            show ftS s1 (if e = D then l else L e) 8 = 1
            by_cases ed : e = D
            · rw [if_pos ed]; exact ft_1 c0
            · rw [if_neg ed]; exact hR1 e he
          · rw [hfb 34 (by omega), k4, upd_at, if_neg hu]; exact hu1 u
  · subst e
    rw [if_neg (nI_m1 (by omega))]
    rcases tryPut_ev hC1 (show d < 12 by omega) ht with ⟨s3, a1, a2, a3⟩ | ⟨-, a2, a3, l2, s3, b1, b2, b3, b4, b5⟩
    · rw [a1, bd2_s, if_pos rfl]
      exact ⟨s3, D, L, rfl, hC1.fr a2, hR1.env a2.env, (r3.trans a2).w.kp, fun k a b => (a2 k (by unfold Scr; omega)).trans (hq1 k a b), fun u _ => by rw [a2 34 (by unfold Scr; omega)]; exact hu1 u⟩
    · by_cases c0 : ftS s1 l2 8 = 0
      · rw [b2, bd2_s, if_pos c0]
        exact ⟨s3, D, L, rfl, hC1.fr b3, hR1.env b3.env, (r3.trans b3).w.kp, fun k a b => (b3 k (by unfold Scr; omega)).trans (hq1 k a b), fun u _ => by rw [b3 34 (by unfold Scr; omega)]; exact hu1 u⟩
      · have hlen := b1.len
        obtain ⟨s15, k1, k2, k3, k4, k5, k6⟩ := keep_ev (d := d) (t := t) (x := nI d) b3 (by omega) (by omega) (by omega) b4 b5
        have hkp : f_X5_keepPut s3 (nI d) (nI t) = some (st2 s15 34 t (nI d)) := by
          unfold f_X5_keepPut
          rw [dat_ev (by omega), bd_s, k1, bd_s, k2, bd_s]
        have hE2 : EnvEq s1 (st2 s15 34 t (nI d)) := fun k hk => k3 k (by unfold Scr; omega) (by omega) (by omega) (by omega)
        rw [b2, bd2_s, if_neg c0, hkp, bd_s]
        refine ⟨_, D, _, rfl, hC1.one (d := d) (t := t) (x := nI d) (l := l2) (by omega) ht (fun q h1 h2 h3 h4 _ => k3 q h1 h2 h3 h4) ?_ ?_ (Nat.le_refl _) hD k4 (Or.inr ⟨d, hd, rfl⟩) (fun e he hne => ⟨by rw [h341]; exact fun h => nI_m1 (by omega) h.symm, fun h => hne (nI_inj (by omega) (by omega) h).symm⟩) b1 k5 k6, ?_, ⟨r3.env.trans hE2, fun v hv => (k3 (45 + v) (by unfold Scr; omega) (by omega) (by omega) (by omega)).trans (r3 (45 + v) (by unfold Scr; omega))⟩, fun k h1 h2 => (k3 k (by unfold Scr; omega) (by omega) (by omega) (by omega)).trans (hq1 k h1 h2), fun u hu => ?_⟩
        · rw [k3 30 (by unfold Scr; omega) (by omega) (by omega) (by omega)]; exact hC1.2.1.2.1
        · rw [k3 30 (by unfold Scr; omega) (by omega) (by omega) (by omega)]; exact hC1.2.1.2.2
        · intro e he
          rw [hE2.ft]
          show ftS s1 (if e = d then l2 else L e) 8 = 1
          by_cases ed : e = d
          · rw [if_pos ed]; exact ft_1 c0
          · rw [if_neg ed]; exact hR1 e he
        · rw [k4, upd_at, if_neg hu]; exact hu1 u
/-- the queue's trips, one behind another -/
theorem pln_loop {T V : Nat} {dep : Nat → Int32} : ∀ (Q pre : List Nat) (n : Nat) (E : dd_S) (D : Nat) (L : Nat → List Nat), Q.length < n → CI E T D V L → AR E L → QAt E dep (pre ++ Q) → (pre ++ Q).length ≤ 40 → Q.Nodup → (∀ x ∈ Q, x < T ∧ E 34 x = -1) →
    ∃ E2 D2 L2, f_X5_plan_53 n E (nI pre.length) = some (frS E2 T, E2) ∧ CI E2 T D2 V L2 ∧ AR E2 L2 ∧ KP E E2 := by
  intro Q
  induction Q with
  | nil =>
    intro pre n E D L hn hC hR hA hlen hnd hQ
    obtain ⟨n, rfl⟩ : ∃ m, n = m + 1 := ⟨n - 1, by simp at hn; omega⟩
    rw [List.append_nil] at hA
    unfold f_X5_plan_53
    rw [hA.1, if_pos ((nI_le_iff (by simp at hlen; omega) (by simp at hlen; omega)).mpr (Nat.le_refl _)), fr_ev hC, bd_s]
    exact ⟨E, D, L, rfl, hC, hR, KP.refl⟩
  | cons x Q ih =>
    intro pre n E D L hn hC hR hA hlen hnd hQ
    obtain ⟨n, rfl⟩ : ∃ m, n = m + 1 := ⟨n - 1, by simp at hn; omega⟩
    have hx := hQ x (by simp)
    have hle : pre.length < (pre ++ x :: Q).length := by simp
    have hnum : E 38 pre.length = nI x := by
      rw [hA.2.2 pre.length hle]
      simp
    have hnd2 := List.nodup_cons.mp hnd
    obtain ⟨E1, D1, L1, p1, p2, p3, p4, p5, p6⟩ := plt_ev hC hR hx.1 hx.2
    have hpre : (pre ++ [x]) ++ Q = pre ++ x :: Q := by rw [List.append_assoc, List.singleton_append]
    obtain ⟨E2, D2, L2, q1, q2, q3, q4⟩ := ih (pre ++ [x]) n E1 D1 L1 (by simp at hn; omega) p2 p3 (by
      rw [hpre]
      exact ⟨by rw [p5 36 (by decide) (by decide)]; exact hA.1, fun j hj => by rw [p5 37 (by decide) (by decide)]; exact hA.2.1 j hj, by rw [p5 38 (by decide) (by decide)]; exact hA.2.2⟩) (by rw [hpre]; exact hlen) hnd2.2 (fun y hy => ⟨(hQ y (List.mem_cons_of_mem _ hy)).1, by rw [p6 y (fun e => hnd2.1 (by rw [← e]; exact hy))]; exact (hQ y (List.mem_cons_of_mem _ hy)).2⟩)
    rw [List.length_append, List.length_singleton] at q1
    refine ⟨E2, D2, L2, ?_, q2, q3, p4.trans q4⟩
    unfold f_X5_plan_53
    rw [hA.1, if_neg (nI_ge hle (by omega)), num_ev (by omega), bd_s, hnum, p1, bd_s, lt_e, nI_inc]
    exact q1
theorem pln_ev {E : dd_S} {T D V : Nat} {L : Nat → List Nat} (hC : CI E T D V L) (hR : AR E L) : ∃ E2 D2 L2, f_X5_plan E = some (frS E2 T, E2) ∧ CI E2 T D2 V L2 ∧ AR E2 L2 ∧ KP E E2 := by
  have hT := hC.1.1
  obtain ⟨s1, a1, a2, a3⟩ := qc_ev (s := E) (key := E 43)
  have hC1 := hC.frw a2.w
  obtain ⟨E2, Q, b1, b2, b3, b4, b5⟩ := cq_loop (dep := E 43) (du := E 34) T 0 64 s1 [] (by omega) (by omega) hC1 (a2 43 (by decide) (by decide) (by decide)) (a2 34 (by decide) (by decide) (by decide)) a3 List.Pairwise.nil (fun x => ⟨fun h => absurd h List.not_mem_nil, fun h => absurd h.1 (Nat.not_lt_zero _)⟩)
  have hC2 := hC1.frw b2.w
  have h34 : E2 34 = E 34 := (b2 34 (by decide) (by decide) (by decide)).trans (a2 34 (by decide) (by decide) (by decide))
  have hlen := nodup_len T Q b4.nodup (fun x hx => ((b5 x).mp hx).1)
  obtain ⟨E3, D3, L3, c1, c2, c3, c4⟩ := pln_loop (T := T) (V := V) (dep := E 43) Q [] 64 E2 D L (by omega) hC2 ((hR.env a2.w.env).env b2.w.env) b3 (by rw [List.nil_append]; omega) b4.nodup (fun x hx => ⟨((b5 x).mp hx).1, by rw [h34]; exact ((b5 x).mp hx).2⟩)
  have b1' : f_X5_plan_9 64 s1 (0 : Int32) = f_X5_plan_53 64 E2 0 := b1
  have c1' : f_X5_plan_53 64 E2 (0 : Int32) = some (frS E3 T, E3) := c1
  refine ⟨E3, D3, L3, ?_, c2, c3, (a2.w.kp.trans b2.w.kp).trans c4⟩
  unfold f_X5_plan
  rw [a1, bd_s, b1', c1']
