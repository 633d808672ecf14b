/-! P28: an exchange is made only if it saves pay, and saves what it tells -/
def XP (E0 : dd_S) (D V : Nat) (L : Nat → List Nat) (x : X4) : Prop := (x.1 = 0 ∧ x.2.1 = -1) ∨ (x.1 < 0 ∧ ∃ a b, a < D ∧ b < D ∧ a ≠ b ∧ x.2.1 = nI a ∧ x.2.2.1 = nI b ∧ okE E0 L a b x.2.2.2 ≠ 0 ∧ x.1 = chE E0 L a b x.2.2.2 ∧ ¬ Fxd E0 V (nI a) ∧ ¬ Fxd E0 V (nI b))
theorem XP.le {E0 : dd_S} {D V : Nat} {L : Nat → List Nat} {x : X4} (h : XP E0 D V L x) : x.1 ≤ 0 := by
  rcases h with ⟨h, -⟩ | ⟨h, -⟩
  · rw [h]; decide
  · rw [Int32.le_iff_toInt_le]; rw [Int32.lt_iff_toInt_lt] at h; omega
theorem XP.st {E0 : dd_S} {D V a b : Nat} {L : Nat → List Nat} {x : X4} (ha : a < D) (hb : b < D) (hD : D ≤ 12) (hab : a ≠ b) (fa : ¬ Fxd E0 V (nI a)) (fb : ¬ Fxd E0 V (nI b)) (h : XP E0 D V L x) (t : Nat) : XP E0 D V L (stE E0 L a b x t) := by
  unfold stE
  by_cases c0 : okE E0 L a b (E0 43 t) = 0
  · rw [if_pos c0]; exact h
  · rw [if_neg c0]
    unfold off
    by_cases c : chE E0 L a b (E0 43 t) < x.1 ∨ (chE E0 L a b (E0 43 t) = x.1 ∧ x.2.1 = nI a ∧ x.2.2.1 = nI b ∧ E0 43 t < x.2.2.2)
    · rw [if_pos c]
      refine Or.inr ⟨?_, a, b, ha, hb, hab, rfl, rfl, c0, rfl, fa, fb⟩
      rcases c with c | ⟨c1, c2, -⟩
      · exact i32_lel c h.le
      · rcases h with ⟨-, h2⟩ | ⟨h1, -⟩
        · rw [c2] at h2; exact absurd h2 (nI_m1 (by omega))
        · show chE E0 L a b (E0 43 t) < 0
          rw [c1]; exact h1
    · rw [if_neg c]; exact h
theorem XP.fold {E0 : dd_S} {D V a b : Nat} {L : Nat → List Nat} (ha : a < D) (hb : b < D) (hD : D ≤ 12) (hab : a ≠ b) (fa : ¬ Fxd E0 V (nI a)) (fb : ¬ Fxd E0 V (nI b)) : ∀ (l : List Nat) (x : X4), XP E0 D V L x → XP E0 D V L (l.foldl (stE E0 L a b) x) := by
  intro l
  induction l with
  | nil => intro x h; exact h
  | cons y r ih => intro x h; exact ih _ (h.st ha hb hD hab fa fb y)
theorem wp_loop {E0 : dd_S} {T D V a : Nat} {L : Nat → List Nat} (hC0 : CI E0 T D V L) (fa : ¬ Fxd E0 V (nI a)) : ∀ (q b n1 : Nat) (E : dd_S), b + q = D → a < b → q < n1 → FrW E0 E → XP E0 D V L (xO E) →
    ∃ E2, f_X5_weighPairsOf_4 (nI a) n1 E (nI b) = some E2 ∧ FrW E0 E2 ∧ XP E0 D V L (xO E2) := by
  have hD := hC0.1.2.1
  intro q
  induction q with
  | zero =>
    intro b n1 E hb hab h1 hf hX
    obtain ⟨n1, rfl⟩ : ∃ m, n1 = m + 1 := ⟨n1 - 1, by omega⟩
    have hC := hC0.frw hf
    unfold f_X5_weighPairsOf_4
    rw [hC.2.1.2.1, if_pos ((nI_le_iff (by omega) (by omega)).mpr (by omega))]
    exact ⟨E, rfl, hf, hX⟩
  | succ q ih =>
    intro b n1 E hb hab h1 hf hX
    obtain ⟨n1, rfl⟩ : ∃ m, n1 = m + 1 := ⟨n1 - 1, by omega⟩
    have hC := hC0.frw hf
    have hEF : ∀ d : Int32, Fxd E V d ↔ Fxd E0 V d := fun d => Fxd.env (fun v _ => hf (45 + v) (by unfold Scw; omega))
    unfold f_X5_weighPairsOf_4
    rw [hC.2.1.2.1, if_neg (nI_ge (by omega) (by omega))]
    rcases cFix (E := E) (nI b) hC.1.2.2 hC.2.1.2.2 with ⟨g1, g2⟩ | ⟨g1, g2⟩
    · obtain ⟨E2, b1, b2, b3⟩ := ih (b + 1) n1 E (by omega) (by omega) (by omega) hf hX
      rw [g1, bd_s, if_neg (show ¬ (1 : Int32) = 0 by decide)]
      unfold f_X5_weighPairsOf_34
      rw [lt_e, nI_inc]
      exact ⟨E2, b1, b2, b3⟩
    · obtain ⟨E1, c1, c2, c3⟩ := wt_ev hC0 (show a < 12 by omega) (show b < 12 by omega) (show a ≠ b by omega) (show a < 12 by omega) hf
      obtain ⟨E2, d1, d2, d3⟩ := wt_ev hC0 (show a < 12 by omega) (show b < 12 by omega) (show a ≠ b by omega) (show b < 12 by omega) c2
      have fb : ¬ Fxd E0 V (nI b) := fun h => g2 ((hEF _).mpr h)
      have hX2 : XP E0 D V L (xO E2) := by
        rw [d3, c3]
        exact XP.fold (by omega) (by omega) hD (by omega) fa fb _ _ (XP.fold (by omega) (by omega) hD (by omega) fa fb _ _ hX)
      obtain ⟨E3, b1, b2, b3⟩ := ih (b + 1) n1 E2 (by omega) (by omega) (by omega) d2 hX2
      rw [g1, bd_s, if_pos rfl, c1, bd_s, d1, bd_s]
      unfold f_X5_weighPairsOf_34
      rw [lt_e, nI_inc]
      exact ⟨E3, b1, b2, b3⟩
/-- what improving says of the state behind it -/
def IM (E E2 : dd_S) (D V : Nat) (L L2 : Nat → List Nat) (r : Int32) : Prop := r ≤ 0 ∧ sN (fun d => E2 d 5) D = sN (fun d => E d 5) D + r ∧ AR E2 L2 ∧ KP E E2 ∧ (∀ d, d < 12 → Fxd E V (nI d) → E2 d = E d) ∧ ∀ t, E2 34 t = -1 ↔ E 34 t = -1
theorem im_same {E E2 : dd_S} {D V : Nat} {L : Nat → List Nat} (hD : D ≤ 12) (hf : FrW E E2) (hR : AR E L) : IM E E2 D V L L 0 := by
  refine ⟨by decide, ?_, hR.env hf.env, hf.kp, fun d hd _ => hf d (by unfold Scw; omega), fun t => by rw [hf 34 (by unfold Scw; omega)]⟩
  rw [Int32.add_zero]
  exact sN_congr D (fun d hd => by rw [hf d (by unfold Scw; omega)])
theorem ipl_loop {E0 : dd_S} {T D V : Nat} {L : Nat → List Nat} (hC0 : CI E0 T D V L) (hR : AR E0 L) : ∀ (q a n1 : Nat) (E : dd_S), a + q = D → q < n1 → FrW E0 E → XP E0 D V L (xO E) →
    ∃ r E2 L2, f_X5_improve_9 n1 E (nI a) = some (r, E2) ∧ CI E2 T D V L2 ∧ IM E0 E2 D V L L2 r := by
  have hT := hC0.1.1
  have hD := hC0.1.2.1
  intro q
  induction q with
  | zero =>
    intro a n1 E ha h1 hf hX
    obtain ⟨n1, rfl⟩ : ∃ m, n1 = m + 1 := ⟨n1 - 1, by omega⟩
    have hC := hC0.frw hf
    unfold f_X5_improve_9
    rw [hC.2.1.2.1, if_pos ((nI_le_iff (by omega) (by omega)).mpr (by omega))]
    rcases hX with ⟨x1, x2⟩ | ⟨x1, e, f, he, hfD, hef, x2, x3, x4, x5, x6, x7⟩
    · have x1' : E 39 3 = 0 := x1
      rw [if_pos (by rw [x1']; decide)]
      refine ⟨E 39 3, E, L, rfl, hC, ?_⟩
      rw [x1']
      exact im_same hD hf hR
    · have x1' : E 39 3 < 0 := x1
      have x2' : E 39 0 = nI e := x2
      have x3' : E 39 1 = nI f := x3
      have x4' : okE E0 L e f (E 39 2) ≠ 0 := x4
      have x5' : E 39 3 = chE E0 L e f (E 39 2) := x5
      rw [if_neg (i32_nle.mpr x1'), x2', x3']
      obtain ⟨s1, t1, t2, t3, t4, t5, t6⟩ := tryEx_ev hC (show e < 12 by omega) (show f < 12 by omega) hef (E 39 2)
      have hok : okE E0 L e f (E 39 2) = (if ftS E (hdR (E 43) (E 39 2) (L e) (L f)) 8 = 0 then 0 else if ftS E (hdR (E 43) (E 39 2) (L f) (L e)) 8 = 0 then 0 else 1) := by
        unfold okE
        rw [hf.hdE, hf.env.ft, hf.env.ft]
      have hch : E 39 3 = ((ftS E (hdR (E 43) (E 39 2) (L e) (L f)) 5 + ftS E (hdR (E 43) (E 39 2) (L f) (L e)) 5) - E e 5) - E f 5 := by
        rw [x5']
        unfold chE
        rw [hf.hdE, hf.env.ft, hf.env.ft, hf e (by unfold Scw; omega), hf f (by unfold Scw; omega)]
      rw [hok] at x4'
      generalize htm : E 39 2 = tm at *
      have h39 : s1 39 = E 39 := t2 39 (by unfold Scr; omega)
      obtain ⟨E2, k1, k2, k3, k4, k5⟩ := keepEx_ev hC he hfD hef t2 t3 t4 t5 t6
      rw [t1, bd2_s, if_neg x4', h39, x2', x3', k1, bd_s]
      have h392 : E2 39 = E 39 := (k3 39 (by decide) (by decide)).trans h39
      refine ⟨E 39 3, E2, _, ?_, k5, ?_⟩
      · unfold f_X5_improve_92
        rw [h392]
      · have p8 : ftS E (hdR (E 43) tm (L e) (L f)) 8 ≠ 0 := fun h => x4' (by rw [if_pos h])
        have q8 : ftS E (hdR (E 43) tm (L f) (L e)) 8 ≠ 0 := fun h => x4' (by rw [if_neg p8, if_pos h])
        have hE2 : EnvEq E E2 := fun k hk => k2 k (by unfold Scr; omega) (by omega) (by omega) (by omega) (by omega) (by omega)
        have hEall : ∀ d, d < 12 → d ≠ e → d ≠ f → E2 d = E d := fun d hd h1 h2 => k2 d (by unfold Scr; omega) h1 (by omega) h2 (by omega) (by omega)
        have he5 : E2 e 5 = ftS E (hdR (E 43) tm (L e) (L f)) 5 := by
          have := (k5.2.2.2.2.2.1 e (by omega)).2.2 5 (by decide) (by decide)
          rw [hE2.ft] at this
          rw [this]
          show ftS E (if e = e then hdR (E 43) tm (L e) (L f) else if e = f then hdR (E 43) tm (L f) (L e) else L e) 5 = _
          rw [if_pos rfl]
        have hf5 : E2 f 5 = ftS E (hdR (E 43) tm (L f) (L e)) 5 := by
          have := (k5.2.2.2.2.2.1 f (by omega)).2.2 5 (by decide) (by decide)
          rw [hE2.ft] at this
          rw [this]
          show ftS E (if f = e then hdR (E 43) tm (L e) (L f) else if f = f then hdR (E 43) tm (L f) (L e) else L f) 5 = _
          rw [if_neg (fun h : f = e => hef h.symm), if_pos rfl]
        have hd0 : ∀ d, d < 12 → E d = E0 d := fun d hd => hf d (by unfold Scw; omega)
        have hEF : ∀ d : Int32, Fxd E V d ↔ Fxd E0 V d := fun d => Fxd.env (fun v _ => hf (45 + v) (by unfold Scw; omega))
        refine ⟨?_, ?_, ?_, ⟨hf.env.trans hE2, fun v hv => (k2 (45 + v) (by unfold Scr; omega) (by omega) (by omega) (by omega) (by omega) (by omega)).trans (hf (45 + v) (by unfold Scw; omega))⟩, fun d hd hF => ?_, fun t => ?_⟩
        · rw [Int32.le_iff_toInt_le]
          have := Int32.lt_iff_toInt_lt.mp x1'
          omega
        · have b1 : (if e = e then E e 5 else E2 e 5) = E e 5 := if_pos rfl
          have a1 : sN (fun d => E2 d 5) D + E e 5 = sN (fun d => if d = e then E e 5 else E2 d 5) D + E2 e 5 := (congrArg (fun z => sN (fun d => E2 d 5) D + z) b1.symm).trans (sN_upd (f := fun d => E2 d 5) (g := fun d => if d = e then E e 5 else E2 d 5) (d := e) D he (fun x hx hne => (if_neg hne).symm))
          have a2 := sN_upd (f := fun d => if d = e then E e 5 else E2 d 5) (g := fun d => E d 5) (d := f) D hfD (fun x hx hne => by
            show (if x = e then E e 5 else E2 x 5) = E x 5
            by_cases q : x = e
            · rw [if_pos q, q]
            · rw [if_neg q, hEall x (by omega) q hne])
          have b2 : (if f = e then E e 5 else E2 f 5) = E2 f 5 := if_neg (fun h => hef h.symm)
          simp only [b2] at a2
          have a3 : sN (fun d => E d 5) D = sN (fun d => E0 d 5) D := sN_congr D (fun d hd => by rw [hd0 d (by omega)])
          rw [he5] at a1
          rw [hf5] at a2
          rw [← a3, hch]
          have a4 : sN (fun d => E2 d 5) D = (sN (fun d => if d = e then E e 5 else E2 d 5) D + ftS E (hdR (E 43) tm (L e) (L f)) 5) - E e 5 := by
            rw [← a1, Int32.add_sub_cancel]
          have a5 : sN (fun d => if d = e then E e 5 else E2 d 5) D = (sN (fun d => E d 5) D + ftS E (hdR (E 43) tm (L f) (L e)) 5) - E f 5 := by
            rw [← a2, Int32.add_sub_cancel]
          rw [a4, a5]
          simp only [Int32.sub_eq_add_neg]
          ac_rfl
        · intro d hd
          rw [hE2.ft]
          show ftS E (if d = e then hdR (E 43) tm (L e) (L f) else if d = f then hdR (E 43) tm (L f) (L e) else L d) 8 = 1
          by_cases q1 : d = e
          · rw [if_pos q1]; exact ft_1 p8
          · rw [if_neg q1]
            by_cases q2 : d = f
            · rw [if_pos q2]; exact ft_1 q8
            · rw [if_neg q2, hf.env.ft]; exact hR d hd
        · rw [hEall d hd (fun h => x6 (by rw [← h]; exact hF)) (fun h => x7 (by rw [← h]; exact hF)), hd0 d hd]
        · have h34 : E 34 = E0 34 := hf 34 (by unfold Scw; omega)
          rw [k4, ← h34]
          by_cases ht : t < T
          · rw [xch_lt ht]
            by_cases c : E 43 t < tm
            · rw [if_pos c]
            · rw [if_neg c]
              constructor
              · intro h
                rw [swp_iff.mp h, swp_o (fun q => nI_m1 (by omega) q.symm) (fun q => nI_m1 (by omega) q.symm)]
              · intro h
                rw [h, swp_o (fun q => nI_m1 (by omega) q.symm) (fun q => nI_m1 (by omega) q.symm)]
          · rw [xch_ge (by omega)]
  | succ q ih =>
    intro a n1 E ha h1 hf hX
    obtain ⟨n1, rfl⟩ : ∃ m, n1 = m + 1 := ⟨n1 - 1, by omega⟩
    have hC := hC0.frw hf
    have hEF : ∀ d : Int32, Fxd E V d ↔ Fxd E0 V d := fun d => Fxd.env (fun v _ => hf (45 + v) (by unfold Scw; omega))
    unfold f_X5_improve_9
    rw [hC.2.1.2.1, if_neg (nI_ge (by omega) (by omega))]
    rcases cFix (E := E) (nI a) hC.1.2.2 hC.2.1.2.2 with ⟨g1, g2⟩ | ⟨g1, g2⟩
    · obtain ⟨r, E2, L2, b1, b3, b4⟩ := ih (a + 1) n1 E (by omega) (by omega) hf hX
      rw [g1, bd_s, if_neg (show ¬ (1 : Int32) = 0 by decide)]
      unfold f_X5_improve_30
      rw [lt_e, nI_inc]
      exact ⟨r, E2, L2, b1, b3, b4⟩
    · obtain ⟨E1, a1, a2, a3⟩ := wp_loop hC0 (fun h => g2 ((hEF _).mpr h)) (D - (a + 1)) (a + 1) 64 E (by omega) (by omega) (by omega) hf hX
      obtain ⟨r, E2, L2, b1, b3, b4⟩ := ih (a + 1) n1 E1 (by omega) (by omega) a2 a3
      have hw : f_X5_weighPairsOf E (nI a) = some E1 := by
        unfold f_X5_weighPairsOf
        rw [lt_e, nI_inc]
        exact a1
      rw [g1, bd_s, if_pos rfl, hw, bd_s]
      unfold f_X5_improve_30
      rw [lt_e, nI_inc]
      exact ⟨r, E2, L2, b1, b3, b4⟩
theorem imp_ev {E : dd_S} {T D V : Nat} {L : Nat → List Nat} (hC : CI E T D V L) (hR : AR E L) : ∃ r E2 L2, f_X5_improve E = some (r, E2) ∧ CI E2 T D V L2 ∧ IM E E2 D V L L2 r := by
  have hD := hC.1.2.1
  obtain ⟨s1, a1, a2, a3⟩ : ∃ s1, f_X1_clear E = some s1 ∧ FrW E s1 ∧ xO s1 = (0, -1, -1, 0) := by
    unfold f_X1_clear
    simp only [lt_e]
    refine ⟨_, rfl, fun k hk => ?_, ?_⟩
    · have : k ≠ 39 := fun e => hk (by unfold Scw; omega)
      rw [st2_k _ _ _ _ this, st2_k _ _ _ _ this, st2_k _ _ _ _ this, st2_k _ _ _ _ this]
    · unfold xO
      simp [st2_at]
  obtain ⟨r, E2, L2, b1, b3, b4⟩ := ipl_loop hC hR D 0 64 s1 (by omega) (by omega) a2 (by rw [a3]; exact Or.inl ⟨rfl, rfl⟩)
  refine ⟨r, E2, L2, ?_, b3, b4⟩
  unfold f_X5_improve
  rw [a1, bd_s]
  exact b1
