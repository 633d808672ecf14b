/-! improving: the reference's loops, and both together -/
theorem fR_id (p : Nat → Bool) : ∀ (q v : Nat) (x : X4), fR (fun x _ => x) p v q x = x := by
  intro q
  induction q with
  | zero => intro v x; rfl
  | succ q ih =>
    intro v x
    unfold fR
    rw [ih]
    split <;> rfl
def inP (E : dd_S) (a b : Nat) (t : Nat) : Bool := decide (E 34 t = nI a) || decide (E 34 t = nI b)
theorem inP_iff {E : dd_S} {a b t : Nat} : inP E a b t = true ↔ E 34 t = nI a ∨ E 34 t = nI b := by
  unfold inP
  rw [Bool.or_eq_true, decide_eq_true_eq, decide_eq_true_eq]
theorem m77_ev {E0 s : dd_S} {T D V a b v : Nat} {L : Nat → List Nat} {k17 : dd_S → Int32 → Int32 → Int32 → Int32 → Int32 → Option (Int32 × dd_S)} {k32 : dd_S → Int32 → Int32 → Int32 → Int32 → Int32 → Int32 → Option (Int32 × dd_S)} {k44 : dd_S → Int32 → Int32 → Int32 → Int32 → Int32 → Int32 → Int32 → Option (Int32 × dd_S)} {st : X4 → Nat → X4} (hC : CI E0 T D V L) (hM : MI E0 s T D V) (ha : a < 12) (hb : b < 12) (hab : a ≠ b) (hv : v < T) (hst : ((Fxd E0 V (nI a) ∨ Fxd E0 V (nI b)) ∧ st = fun x _ => x) ∨ ((¬ Fxd E0 V (nI a) ∧ ¬ Fxd E0 V (nI b)) ∧ st = stE E0 L a b)) (x : X4) :
    ∃ s2, f_X6_improve_77 k17 k32 k44 s x.1 x.2.1 x.2.2.1 x.2.2.2 (nI a) (nI b) (nI v) = f_X6_improve_173 k17 k32 k44 s2 (st x v).1 (st x v).2.1 (st x v).2.2.1 (st x v).2.2.2 (nI a) (nI b) (nI v) ∧ FrM s s2 := by
  have hT := hC.1.1
  have h4 : s 4 = E0 43 := hM.1.2.2.1
  unfold f_X6_improve_77
  rw [gd_p (ix_ok (by omega) (by decide)), nI_clamp (show v < 2 ^ 31 by omega), h4]
  rcases canEx_ev hC hM ha hb hab (E0 43 v) with ⟨f1, f2⟩ | ⟨f1, s2, f2, f3, f4⟩
  · rcases hst with ⟨-, e⟩ | ⟨g, -⟩
    · rw [f2, bd2_s, if_pos rfl, e]
      exact ⟨s, rfl, FrM.refl⟩
    · rcases f1 with f | f
      · exact absurd f g.1
      · exact absurd f g.2
  · rcases hst with ⟨g, -⟩ | ⟨-, e⟩
    · rcases g with g | g
      · exact absurd g f1.1
      · exact absurd g f1.2
    · refine ⟨s2, ?_, f3⟩
      have hok : okE E0 L a b (E0 43 v) = (if ftS E0 (hdR (E0 43) (E0 43 v) (L a) (L b)) 8 = 0 then 0 else if ftS E0 (hdR (E0 43) (E0 43 v) (L b) (L a)) 8 = 0 then 0 else 1) := rfl
      have hch : s2 0 24 = chE E0 L a b (E0 43 v) := f4
      have h42 : s2 4 = E0 43 := (f3.1 4 (by decide) (by decide)).trans h4
      rw [← hok] at f2
      rw [f2, bd2_s, hch, h42, e]
      have h143 : ∀ t0 : Int32, f_X6_improve_143 k17 k32 k44 s2 x.1 x.2.1 x.2.2.1 x.2.2.2 (nI a) (nI b) (nI v) t0 = if t0 = 0 then f_X6_improve_173 k17 k32 k44 s2 x.1 x.2.1 x.2.2.1 x.2.2.2 (nI a) (nI b) (nI v) else f_X6_improve_173 k17 k32 k44 s2 (chE E0 L a b (E0 43 v)) (nI a) (nI b) (E0 43 v) (nI a) (nI b) (nI v) := fun t0 => by
        unfold f_X6_improve_143
        rw [gd_p (ix_ok (by omega) (by decide)), nI_clamp (show v < 2 ^ 31 by omega), lt_e, hch, h42]
      unfold f_X6_improve_138 f_X6_improve_142
      rw [h143, h143, if_pos rfl, if_neg (show ¬ (1 : Int32) = 0 by decide), gd_p (ix_ok (by omega) (by decide))]
      unfold stE off
      by_cases c0 : okE E0 L a b (E0 43 v) = 0
      · rw [if_pos c0, if_pos c0]
      · rw [if_neg c0, if_neg c0]
        by_cases c1 : chE E0 L a b (E0 43 v) < x.1
        · rw [if_pos c1, if_pos (Or.inl c1)]
        · rw [if_neg c1]
          by_cases c2 : chE E0 L a b (E0 43 v) = x.1
          · rw [if_pos c2]
            by_cases c3 : x.2.1 = nI a
            · rw [if_pos c3]
              by_cases c4 : x.2.2.1 = nI b
              · rw [if_pos c4]
                by_cases c5 : x.2.2.2 ≤ E0 43 v
                · rw [if_pos c5, if_neg (fun q => q.elim c1 (fun q => i32_nlt.mpr c5 q.2.2.2))]
                · rw [if_neg c5, if_pos (Or.inr ⟨c2, c3, c4, i32_nle.mp c5⟩)]
              · rw [if_neg c4, if_neg (fun q => q.elim c1 (fun q => c4 q.2.2.1))]
            · rw [if_neg c3, if_neg (fun q => q.elim c1 (fun q => c3 q.2.1))]
          · rw [if_neg c2, if_neg (fun q => q.elim c1 (fun q => c2 q.1))]
theorem m44_loop {E0 : dd_S} {T D V a b : Nat} {L : Nat → List Nat} {k17 : dd_S → Int32 → Int32 → Int32 → Int32 → Int32 → Option (Int32 × dd_S)} {k32 : dd_S → Int32 → Int32 → Int32 → Int32 → Int32 → Int32 → Option (Int32 × dd_S)} {st : X4 → Nat → X4} (hC : CI E0 T D V L) (ha : a < 12) (hb : b < 12) (hab : a ≠ b) (hst : ((Fxd E0 V (nI a) ∨ Fxd E0 V (nI b)) ∧ st = fun x _ => x) ∨ ((¬ Fxd E0 V (nI a) ∧ ¬ Fxd E0 V (nI b)) ∧ st = stE E0 L a b)) : ∀ (q v n : Nat) (s : dd_S) (x : X4), v + q = T → q < n → MI E0 s T D V →
    ∃ s2, f_X6_improve_44 k17 k32 n s x.1 x.2.1 x.2.2.1 x.2.2.2 (nI a) (nI b) (nI v) = k32 s2 (fR st (inP E0 a b) v q x).1 (fR st (inP E0 a b) v q x).2.1 (fR st (inP E0 a b) v q x).2.2.1 (fR st (inP E0 a b) v q x).2.2.2 (nI a) (nI (b + 1)) ∧ FrM s s2 := by
  have hT := hC.1.1
  intro q
  induction q with
  | zero =>
    intro v n s x hv hn hM
    obtain ⟨n, rfl⟩ : ∃ m, n = m + 1 := ⟨n - 1, by omega⟩
    have : v = T := by omega
    subst this
    unfold f_X6_improve_44
    rw [hM.2.1.1, if_pos ((nI_le_iff (by omega) (by omega)).mpr (Nat.le_refl _)), lt_e, nI_inc]
    exact ⟨s, rfl, FrM.refl⟩
  | succ q ih =>
    intro v n s x hv hn hM
    obtain ⟨n, rfl⟩ : ∃ m, n = m + 1 := ⟨n - 1, by omega⟩
    have h6 : s 6 v = E0 34 v := hM.2.2.1 v (by omega)
    obtain ⟨s1, a1, a2⟩ := m77_ev (k17 := k17) (k32 := k32) (k44 := fun zs z0 z1 z2 z3 z4 z5 z6 => f_X6_improve_44 k17 k32 n zs z0 z1 z2 z3 z4 z5 z6) hC hM ha hb hab (show v < T by omega) hst x
    unfold f_X6_improve_44
    rw [hM.2.1.1, if_neg (nI_ge (by omega) (by omega)), gd_p (ix_ok (by omega) (by decide)), gd_p (ix_ok (by omega) (by decide)), nI_clamp (show v < 2 ^ 31 by omega), h6]
    have hyes : inP E0 a b v = true → ∃ s2, f_X6_improve_77 k17 k32 (fun zs z0 z1 z2 z3 z4 z5 z6 => f_X6_improve_44 k17 k32 n zs z0 z1 z2 z3 z4 z5 z6) s x.1 x.2.1 x.2.2.1 x.2.2.2 (nI a) (nI b) (nI v) = k32 s2 (fR st (inP E0 a b) v (q + 1) x).1 (fR st (inP E0 a b) v (q + 1) x).2.1 (fR st (inP E0 a b) v (q + 1) x).2.2.1 (fR st (inP E0 a b) v (q + 1) x).2.2.2 (nI a) (nI (b + 1)) ∧ FrM s s2 := fun h => by
      obtain ⟨s2, b1, b2⟩ := ih (v + 1) n s1 (st x v) (by omega) (by omega) (hM.fr a2)
      refine ⟨s2, ?_, a2.trans b2⟩
      rw [a1]
      unfold f_X6_improve_173
      rw [lt_e, nI_inc]
      unfold fR
      rw [if_pos h]
      exact b1
    by_cases c1 : E0 34 v = nI a
    · rw [if_pos c1]
      exact hyes (inP_iff.mpr (Or.inl c1))
    · rw [if_neg c1]
      by_cases c2 : E0 34 v = nI b
      · rw [if_pos c2]
        exact hyes (inP_iff.mpr (Or.inr c2))
      · rw [if_neg c2]
        have h : ¬ inP E0 a b v = true := fun q => (inP_iff.mp q).elim c1 c2
        unfold f_X6_improve_173
        rw [lt_e, nI_inc]
        unfold fR
        rw [if_neg h]
        exact ih (v + 1) n s x (by omega) (by omega) hM
/-- a pair of duties: the class's two rows, the reference's trips -/
theorem pair_fold {E0 : dd_S} {T D V a b : Nat} {L : Nat → List Nat} (hC : CI E0 T D V L) (ha : a < 12) (hb : b < 12) (hab : a ≠ b) (x : X4) : (L b).foldl (stE E0 L a b) ((L a).foldl (stE E0 L a b) x) = fR (stE E0 L a b) (inP E0 a b) 0 T x := by
  have hA := hC.2.2.2.2.2.1 a ha
  have hB := hC.2.2.2.2.2.1 b hb
  rw [← List.foldl_append]
  refine foldl_fR (stE_comm E0 L a b) T 0 _ x (List.nodup_append.mpr ⟨hA.1.1.nodup, hB.1.1.nodup, fun y hy z hz e => ?_⟩) (fun t => ?_)
  · subst e
    exact hab (nI_inj (by omega) (by omega) (((hA.1.2 y).mp hy).2.symm.trans ((hB.1.2 y).mp hz).2))
  · rw [List.mem_append, hA.1.2, hB.1.2, inP_iff]
    constructor
    · rintro (⟨h1, h2⟩ | ⟨h1, h2⟩)
      · exact ⟨⟨Nat.zero_le _, by omega⟩, Or.inl h2⟩
      · exact ⟨⟨Nat.zero_le _, by omega⟩, Or.inr h2⟩
    · rintro ⟨⟨-, h1⟩, h2 | h2⟩
      · exact Or.inl ⟨by omega, h2⟩
      · exact Or.inr ⟨by omega, h2⟩
/-- what is kept as the best so far -/
def XI (E0 : dd_S) (D : Nat) (L : Nat → List Nat) (x : X4) : Prop := (x.1 = 0 ∧ x.2.1 = -1) ∨ (x.1 < 0 ∧ ∃ a b, a < D ∧ b < D ∧ a ≠ b ∧ x.2.1 = nI a ∧ x.2.2.1 = nI b ∧ okE E0 L a b x.2.2.2 ≠ 0)
theorem XI.le {E0 : dd_S} {D : Nat} {L : Nat → List Nat} {x : X4} (h : XI E0 D L x) : x.1 ≤ 0 := by
  rcases h with ⟨h, -⟩ | ⟨h, -⟩
  · rw [h]; decide
  · rw [Int32.le_iff_toInt_le]; rw [Int32.lt_iff_toInt_lt] at h; omega
theorem XI.st {E0 : dd_S} {D a b : Nat} {L : Nat → List Nat} {x : X4} (ha : a < D) (hb : b < D) (hD : D ≤ 12) (hab : a ≠ b) (h : XI E0 D L x) (t : Nat) : XI E0 D L (stE E0 L a b x t) := by
  unfold stE
  by_cases c0 : okE E0 L a b (E0 43 t) = 0
  · rw [if_pos c0]; exact h
  · rw [if_neg c0]
    unfold off
    by_cases c : chE E0 L a b (E0 43 t) < x.1 ∨ (chE E0 L a b (E0 43 t) = x.1 ∧ x.2.1 = nI a ∧ x.2.2.1 = nI b ∧ E0 43 t < x.2.2.2)
    · rw [if_pos c]
      refine Or.inr ⟨?_, a, b, ha, hb, hab, rfl, rfl, c0⟩
      rcases c with c | ⟨c1, c2, -⟩
      · exact i32_lel c h.le
      · rcases h with ⟨-, h2⟩ | ⟨h1, -⟩
        · rw [c2] at h2; exact absurd h2 (nI_m1 (by omega))
        · show chE E0 L a b (E0 43 t) < 0
          rw [c1]; exact h1
    · rw [if_neg c]; exact h
theorem XI.fold {E0 : dd_S} {D a b : Nat} {L : Nat → List Nat} (ha : a < D) (hb : b < D) (hD : D ≤ 12) (hab : a ≠ b) : ∀ (l : List Nat) (x : X4), XI E0 D L x → XI E0 D L (l.foldl (stE E0 L a b) x) := by
  intro l
  induction l with
  | nil => intro x h; exact h
  | cons y r ih => intro x h; exact ih _ (h.st ha hb hD hab y)
theorem m32_fixed {E0 : dd_S} {T D V a : Nat} {L : Nat → List Nat} {k17 : dd_S → Int32 → Int32 → Int32 → Int32 → Int32 → Option (Int32 × dd_S)} (hC : CI E0 T D V L) (hF : Fxd E0 V (nI a)) : ∀ (q b n : Nat) (s : dd_S) (x : X4), b + q = D → a < b → q < n → MI E0 s T D V → ∃ s2, f_X6_improve_32 k17 n s x.1 x.2.1 x.2.2.1 x.2.2.2 (nI a) (nI b) = k17 s2 x.1 x.2.1 x.2.2.1 x.2.2.2 (nI (a + 1)) ∧ FrM s s2 := by
  have hT := hC.1.1
  have hD := hC.1.2.1
  intro q
  induction q with
  | zero =>
    intro b n s x hb hab hn hM
    obtain ⟨n, rfl⟩ : ∃ m, n = m + 1 := ⟨n - 1, by omega⟩
    unfold f_X6_improve_32
    rw [hM.2.1.2.1, if_pos ((nI_le_iff (by omega) (by omega)).mpr (by omega)), lt_e, nI_inc]
    exact ⟨s, rfl, FrM.refl⟩
  | succ q ih =>
    intro b n s x hb hab hn hM
    obtain ⟨n, rfl⟩ : ∃ m, n = m + 1 := ⟨n - 1, by omega⟩
    obtain ⟨s1, a1, a2⟩ := m44_loop (k17 := k17) (k32 := fun zs z0 z1 z2 z3 z4 z5 => f_X6_improve_32 k17 n zs z0 z1 z2 z3 z4 z5) (st := fun x _ => x) hC (show a < 12 by omega) (show b < 12 by omega) (show a ≠ b by omega) (Or.inl ⟨Or.inl hF, rfl⟩) T 0 64 s x (by omega) (by omega) hM
    rw [fR_id] at a1
    obtain ⟨s2, b1, b2⟩ := ih (b + 1) n s1 x (by omega) (by omega) (by omega) (hM.fr a2)
    unfold f_X6_improve_32
    rw [hM.2.1.2.1, if_neg (nI_ge (by omega) (by omega))]
    exact ⟨s2, a1.trans b1, a2.trans b2⟩
theorem pr_loop {E0 : dd_S} {T D V a : Nat} {L : Nat → List Nat} {k17 : dd_S → Int32 → Int32 → Int32 → Int32 → Int32 → Option (Int32 × dd_S)} (hC0 : CI E0 T D V L) (hF : ¬ Fxd E0 V (nI a)) : ∀ (q b n1 n2 : Nat) (E s : dd_S), b + q = D → a < b → q < n1 → q < n2 → FrW E0 E → MI E0 s T D V → XI E0 D L (xO E) →
    ∃ E2 s2, f_X5_weighPairsOf_4 (nI a) n1 E (nI b) = some E2 ∧ FrW E0 E2 ∧ XI E0 D L (xO E2) ∧ f_X6_improve_32 k17 n2 s (xO E).1 (xO E).2.1 (xO E).2.2.1 (xO E).2.2.2 (nI a) (nI b) = k17 s2 (xO E2).1 (xO E2).2.1 (xO E2).2.2.1 (xO E2).2.2.2 (nI (a + 1)) ∧ FrM s s2 := by
  have hT := hC0.1.1
  have hD := hC0.1.2.1
  intro q
  induction q with
  | zero =>
    intro b n1 n2 E s hb hab h1 h2 hf hM hX
    obtain ⟨n1, rfl⟩ : ∃ m, n1 = m + 1 := ⟨n1 - 1, by omega⟩
    obtain ⟨n2, rfl⟩ : ∃ m, n2 = m + 1 := ⟨n2 - 1, by omega⟩
    have hC := hC0.frw hf
    unfold f_X5_weighPairsOf_4 f_X6_improve_32
    rw [hC.2.1.2.1, hM.2.1.2.1, if_pos ((nI_le_iff (by omega) (by omega)).mpr (by omega)), if_pos ((nI_le_iff (by omega) (by omega)).mpr (by omega)), lt_e, nI_inc]
    exact ⟨E, s, rfl, hf, hX, rfl, FrM.refl⟩
  | succ q ih =>
    intro b n1 n2 E s hb hab h1 h2 hf hM hX
    obtain ⟨n1, rfl⟩ : ∃ m, n1 = m + 1 := ⟨n1 - 1, by omega⟩
    obtain ⟨n2, rfl⟩ : ∃ m, n2 = m + 1 := ⟨n2 - 1, by omega⟩
    have hC := hC0.frw hf
    have hEF : ∀ d : Int32, Fxd E V d ↔ Fxd E0 V d := fun d => Fxd.env (fun v _ => hf (45 + v) (by unfold Scw; omega))
    unfold f_X5_weighPairsOf_4 f_X6_improve_32
    rw [hC.2.1.2.1, hM.2.1.2.1, if_neg (nI_ge (by omega) (by omega)), if_neg (nI_ge (by omega) (by omega))]
    rcases cFix (E := E) (nI b) hC.1.2.2 hC.2.1.2.2 with ⟨g1, g2⟩ | ⟨g1, g2⟩
    · obtain ⟨s1, a1, a2⟩ := m44_loop (k17 := k17) (k32 := fun zs z0 z1 z2 z3 z4 z5 => f_X6_improve_32 k17 n2 zs z0 z1 z2 z3 z4 z5) (st := fun x _ => x) hC0 (show a < 12 by omega) (show b < 12 by omega) (show a ≠ b by omega) (Or.inl ⟨Or.inr ((hEF _).mp g2), rfl⟩) T 0 64 s (xO E) (by omega) (by omega) hM
      rw [fR_id] at a1
      obtain ⟨E2, s2, b1, b2, b3, b4, b5⟩ := ih (b + 1) n1 n2 E s1 (by omega) (by omega) (by omega) (by omega) hf (hM.fr a2) hX
      rw [g1, bd_s, if_neg (show ¬ (1 : Int32) = 0 by decide)]
      unfold f_X5_weighPairsOf_34
      rw [lt_e, nI_inc]
      exact ⟨E2, s2, b1, b2, b3, a1.trans b4, a2.trans b5⟩
    · obtain ⟨E1, c1, c2, c3⟩ := wt_ev hC0 (show a < 12 by omega) (show b < 12 by omega) (show a ≠ b by omega) (show a < 12 by omega) hf
      obtain ⟨E2, d1, d2, d3⟩ := wt_ev hC0 (show a < 12 by omega) (show b < 12 by omega) (show a ≠ b by omega) (show b < 12 by omega) c2
      obtain ⟨s1, a1, a2⟩ := m44_loop (k17 := k17) (k32 := fun zs z0 z1 z2 z3 z4 z5 => f_X6_improve_32 k17 n2 zs z0 z1 z2 z3 z4 z5) (st := stE E0 L a b) hC0 (show a < 12 by omega) (show b < 12 by omega) (show a ≠ b by omega) (Or.inr ⟨⟨hF, fun h => g2 ((hEF _).mpr h)⟩, rfl⟩) T 0 64 s (xO E) (by omega) (by omega) hM
      rw [← pair_fold hC0 (show a < 12 by omega) (show b < 12 by omega) (show a ≠ b by omega), ← c3, ← d3] at a1
      have hX2 : XI E0 D L (xO E2) := by
        rw [d3, c3]
        exact XI.fold (by omega) (by omega) hD (by omega) _ _ (XI.fold (by omega) (by omega) hD (by omega) _ _ hX)
      obtain ⟨E3, s2, b1, b2, b3, b4, b5⟩ := ih (b + 1) n1 n2 E2 s1 (by omega) (by omega) (by omega) (by omega) d2 (hM.fr a2) hX2
      rw [g1, bd_s, if_pos rfl, c1, bd_s, d1, bd_s]
      unfold f_X5_weighPairsOf_34
      rw [lt_e, nI_inc]
      exact ⟨E3, s2, b1, b2, b3, a1.trans b4, a2.trans b5⟩
theorem im_loop {E0 : dd_S} {T D V : Nat} {L : Nat → List Nat} (hC0 : CI E0 T D V L) : ∀ (q a n1 n2 : Nat) (E s : dd_S), a + q = D → q < n1 → q < n2 → FrW E0 E → MI E0 s T D V → XI E0 D L (xO E) →
    ∃ r E2 s2 L2, f_X5_improve_9 n1 E (nI a) = some (r, E2) ∧ f_X6_improve_17 n2 s (xO E).1 (xO E).2.1 (xO E).2.2.1 (xO E).2.2.2 (nI a) = some (r, s2) ∧ CI E2 T D V L2 ∧ MI E2 s2 T D V := by
  have hT := hC0.1.1
  have hD := hC0.1.2.1
  intro q
  induction q with
  | zero =>
    intro a n1 n2 E s ha h1 h2 hf hM hX
    obtain ⟨n1, rfl⟩ : ∃ m, n1 = m + 1 := ⟨n1 - 1, by omega⟩
    obtain ⟨n2, rfl⟩ : ∃ m, n2 = m + 1 := ⟨n2 - 1, by omega⟩
    have hC := hC0.frw hf
    unfold f_X5_improve_9 f_X6_improve_17
    rw [hC.2.1.2.1, hM.2.1.2.1, if_pos ((nI_le_iff (by omega) (by omega)).mpr (by omega)), if_pos ((nI_le_iff (by omega) (by omega)).mpr (by omega))]
    rcases hX with ⟨x1, x2⟩ | ⟨x1, e, f, he, hfD, hef, x2, x3, x4⟩
    · have x1' : E 39 3 = 0 := x1
      rw [if_pos (by rw [x1']; decide), if_pos x2]
      exact ⟨E 39 3, E, s, L, rfl, rfl, hC, hM.frCw hf⟩
    · have x1' : E 39 3 < 0 := x1
      have x2' : E 39 0 = nI e := x2
      have x3' : E 39 1 = nI f := x3
      rw [if_neg (i32_nle.mpr x1'), if_neg (by rw [x2]; exact nI_m1 (by omega)), x2', x3', x2, x3]
      obtain ⟨s1, t1, t2, t3, t4, t5, t6⟩ := tryEx_ev hC (show e < 12 by omega) (show f < 12 by omega) hef (E 39 2)
      have hok : okE E0 L e f (E 39 2) = (if ftS E (hdR (E 43) (E 39 2) (L e) (L f)) 8 = 0 then 0 else if ftS E (hdR (E 43) (E 39 2) (L f) (L e)) 8 = 0 then 0 else 1) := by
        unfold okE
        rw [hf.hdE, hf.env.ft, hf.env.ft]
      rw [← hok] at t1
      have h39 : s1 39 = E 39 := t2 39 (by unfold Scr; omega)
      obtain ⟨E2, m2, L2, k1, k2, k3, -, k5, k6⟩ := doEx_both hC (hM.frCw hf) he hfD hef t2 t3 t4 t5 t6
      have hx4 : okE E0 L e f (E 39 2) ≠ 0 := x4
      rw [t1, bd2_s, if_neg hx4, h39, x2', x3', k1, bd_s]
      have hx2 : (xO E).2.2.2 = E 39 2 := rfl
      rw [hx2, k3, bd_s]
      refine ⟨E 39 3, E2, m2, L2, ?_, rfl, k5, k6⟩
      unfold f_X5_improve_92
      rw [k2 39 (by decide) (by decide), h39]
  | succ q ih =>
    intro a n1 n2 E s ha h1 h2 hf hM hX
    obtain ⟨n1, rfl⟩ : ∃ m, n1 = m + 1 := ⟨n1 - 1, by omega⟩
    obtain ⟨n2, rfl⟩ : ∃ m, n2 = m + 1 := ⟨n2 - 1, by omega⟩
    have hC := hC0.frw hf
    have hEF : ∀ d : Int32, Fxd E V d ↔ Fxd E0 V d := fun d => Fxd.env (fun v _ => hf (45 + v) (by unfold Scw; omega))
    unfold f_X5_improve_9 f_X6_improve_17
    rw [hC.2.1.2.1, hM.2.1.2.1, if_neg (nI_ge (by omega) (by omega)), if_neg (nI_ge (by omega) (by omega)), lt_e, nI_inc]
    rcases cFix (E := E) (nI a) hC.1.2.2 hC.2.1.2.2 with ⟨g1, g2⟩ | ⟨g1, g2⟩
    · obtain ⟨s1, a1, a2⟩ := m32_fixed (k17 := fun zs z0 z1 z2 z3 z4 => f_X6_improve_17 n2 zs z0 z1 z2 z3 z4) hC0 ((hEF _).mp g2) (D - (a + 1)) (a + 1) 64 s (xO E) (by omega) (by omega) (by omega) hM
      obtain ⟨r, E2, s2, L2, b1, b2, b3, b4⟩ := ih (a + 1) n1 n2 E s1 (by omega) (by omega) (by omega) hf (hM.fr a2) hX
      rw [g1, bd_s, if_neg (show ¬ (1 : Int32) = 0 by decide)]
      unfold f_X5_improve_30
      rw [lt_e, nI_inc]
      exact ⟨r, E2, s2, L2, b1, a1.trans b2, b3, b4⟩
    · obtain ⟨E1, s1, a1, a2, a3, a4, a5⟩ := pr_loop (k17 := fun zs z0 z1 z2 z3 z4 => f_X6_improve_17 n2 zs z0 z1 z2 z3 z4) hC0 (fun h => g2 ((hEF _).mpr h)) (D - (a + 1)) (a + 1) 64 64 E s (by omega) (by omega) (by omega) (by omega) hf hM hX
      obtain ⟨r, E2, s2, L2, b1, b2, b3, b4⟩ := ih (a + 1) n1 n2 E1 s1 (by omega) (by omega) (by omega) a2 (hM.fr a5) a3
      have hw : f_X5_weighPairsOf E (nI a) = some E1 := by
        unfold f_X5_weighPairsOf
        rw [lt_e, nI_inc]
        exact a1
      rw [g1, bd_s, if_pos rfl, hw, bd_s]
      unfold f_X5_improve_30
      rw [lt_e, nI_inc]
      exact ⟨r, E2, s2, L2, b1, a4.trans b2, b3, b4⟩
theorem po_improve : PO_improve Inv := by
  intro sC sM ⟨T, D, V, L, hC, hM⟩
  have hD := hC.1.2.1
  have hM0 := hM.thrown (v := 0)
  obtain ⟨s1, a1, a2, a3⟩ : ∃ s1, f_X1_clear sC = some s1 ∧ FrW sC s1 ∧ xO s1 = (0, -1, -1, 0) := by
    unfold f_X1_clear
    simp only [lt_e]
    refine ⟨_, rfl, fun k hk => ?_, ?_⟩
    · have : k ≠ 39 := fun e => hk (by unfold Scw; omega)
      rw [st2_k _ _ _ _ this, st2_k _ _ _ _ this, st2_k _ _ _ _ this, st2_k _ _ _ _ this]
    · unfold xO
      simp [st2_at]
  obtain ⟨r, E2, s2, L2, b1, b2, b3, b4⟩ := im_loop hC D 0 64 64 s1 (st2 sM 0 0 0) (by omega) (by omega) (by omega) a2 hM0 (by rw [a3]; exact Or.inl ⟨rfl, rfl⟩)
  rw [a3] at b2
  refine ⟨r, E2, s2, ?_, ?_, T, D, V, L2, b3, b4⟩
  · unfold f_X5_improve
    rw [a1, bd_s]
    exact b1
  · unfold f_X6_improve
    rw [lt_e]
    exact b2
