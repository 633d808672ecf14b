/-! IMPROVING: offers may come in any order -/
abbrev X4 : Type := Int32 × Int32 × Int32 × Int32
def off (a b : Int32) (x : X4) (c tm : Int32) : X4 := if c < x.1 ∨ (c = x.1 ∧ x.2.1 = a ∧ x.2.2.1 = b ∧ tm < x.2.2.2) then (c, a, b, tm) else x
theorem off_comm (a b : Int32) (x : X4) (c1 t1 c2 t2 : Int32) : off a b (off a b x c1 t1) c2 t2 = off a b (off a b x c2 t2) c1 t1 := by
  obtain ⟨v, f, g, t⟩ := x
  unfold off
  simp only
  by_cases A1 : c1 < v ∨ (c1 = v ∧ f = a ∧ g = b ∧ t1 < t)
  · rw [if_pos A1]
    by_cases A2 : c2 < v ∨ (c2 = v ∧ f = a ∧ g = b ∧ t2 < t)
    · rw [if_pos A2]
      simp only [true_and]
      by_cases B12 : c2 < c1 ∨ (c2 = c1 ∧ t2 < t1)
      · rw [if_pos B12]
        have B21 : ¬ (c1 < c2 ∨ (c1 = c2 ∧ t1 < t2)) := by
          simp only [Int32.lt_iff_toInt_lt, ← Int32.toInt_inj] at *
          omega
        rw [if_neg B21]
      · rw [if_neg B12]
        by_cases B21 : c1 < c2 ∨ (c1 = c2 ∧ t1 < t2)
        · rw [if_pos B21]
        · rw [if_neg B21]
          have e1 : c1 = c2 := by
            simp only [Int32.lt_iff_toInt_lt, ← Int32.toInt_inj] at *
            omega
          have e2 : t1 = t2 := by
            simp only [Int32.lt_iff_toInt_lt, ← Int32.toInt_inj] at *
            omega
          rw [e1, e2]
    · rw [if_neg A2]
      simp only [true_and]
      have B12 : ¬ (c2 < c1 ∨ (c2 = c1 ∧ t2 < t1)) := by
        simp only [Int32.lt_iff_toInt_lt, ← Int32.toInt_inj] at *
        omega
      rw [if_neg B12, if_pos A1]
  · rw [if_neg A1]
    by_cases A2 : c2 < v ∨ (c2 = v ∧ f = a ∧ g = b ∧ t2 < t)
    · rw [if_pos A2]
      simp only [true_and]
      have B21 : ¬ (c1 < c2 ∨ (c1 = c2 ∧ t1 < t2)) := by
        simp only [Int32.lt_iff_toInt_lt, ← Int32.toInt_inj] at *
        omega
      rw [if_neg B21]
    · rw [if_neg A2, if_neg A1]
def fR (st : X4 → Nat → X4) (p : Nat → Bool) : Nat → Nat → X4 → X4
  | _, 0, x => x
  | v, q + 1, x => fR st p (v + 1) q (if p v = true then st x v else x)
theorem foldl_erase {st : X4 → Nat → X4} (hc : ∀ x t u, st (st x t) u = st (st x u) t) {t : Nat} : ∀ {l : List Nat} (x : X4), t ∈ l → l.foldl st x = (l.erase t).foldl st (st x t) := by
  intro l
  induction l with
  | nil => intro x h; exact absurd h List.not_mem_nil
  | cons y r ih =>
    intro x h
    by_cases e : y = t
    · subst e
      rw [List.erase_cons_head]; rfl
    · have hr : t ∈ r := by
        rcases List.mem_cons.mp h with q | q
        · exact absurd q.symm e
        · exact q
      rw [List.erase_cons_tail (by simpa using e), List.foldl_cons, List.foldl_cons, ih _ hr, hc]
theorem foldl_fR {st : X4 → Nat → X4} (hc : ∀ x t u, st (st x t) u = st (st x u) t) {p : Nat → Bool} : ∀ (q v : Nat) (l : List Nat) (x : X4), l.Nodup → (∀ t, t ∈ l ↔ (v ≤ t ∧ t < v + q) ∧ p t = true) → l.foldl st x = fR st p v q x := by
  intro q
  induction q with
  | zero =>
    intro v l x hn h
    cases l with
    | nil => rfl
    | cons y r =>
      have := (h y).mp List.mem_cons_self
      omega
  | succ q ih =>
    intro v l x hn h
    unfold fR
    by_cases c : p v = true
    · rw [if_pos c, foldl_erase hc x ((h v).mpr ⟨⟨by omega, by omega⟩, c⟩)]
      refine ih (v + 1) _ _ (hn.erase v) (fun t => ?_)
      rw [hn.mem_erase_iff, h t]
      constructor
      · rintro ⟨h1, h2, h3⟩; exact ⟨⟨by omega, by omega⟩, h3⟩
      · rintro ⟨h1, h2⟩; exact ⟨by omega, ⟨by omega, by omega⟩, h2⟩
    · rw [if_neg c]
      refine ih (v + 1) l x hn (fun t => ?_)
      rw [h t]
      constructor
      · rintro ⟨h1, h2⟩
        have : t ≠ v := fun e => c (by rw [← e]; exact h2)
        exact ⟨⟨by omega, by omega⟩, h2⟩
      · rintro ⟨h1, h2⟩; exact ⟨⟨by omega, by omega⟩, h2⟩
/-- what an exchange at a time would bring -/
def okE (E : dd_S) (L : Nat → List Nat) (a b : Nat) (tm : Int32) : Int32 := if ftS E (hdR (E 43) tm (L a) (L b)) 8 = 0 then 0 else if ftS E (hdR (E 43) tm (L b) (L a)) 8 = 0 then 0 else 1
def chE (E : dd_S) (L : Nat → List Nat) (a b : Nat) (tm : Int32) : Int32 := ((ftS E (hdR (E 43) tm (L a) (L b)) 5 + ftS E (hdR (E 43) tm (L b) (L a)) 5) - E a 5) - E b 5
def stE (E : dd_S) (L : Nat → List Nat) (a b : Nat) (x : X4) (t : Nat) : X4 := if okE E L a b (E 43 t) = 0 then x else off (nI a) (nI b) x (chE E L a b (E 43 t)) (E 43 t)
theorem stE_comm (E : dd_S) (L : Nat → List Nat) (a b : Nat) (x : X4) (t u : Nat) : stE E L a b (stE E L a b x t) u = stE E L a b (stE E L a b x u) t := by
  unfold stE
  by_cases h1 : okE E L a b (E 43 t) = 0
  · rw [if_pos h1, if_pos h1]
  · by_cases h2 : okE E L a b (E 43 u) = 0
    · rw [if_pos h2, if_pos h2]
    · rw [if_neg h1, if_neg h2, if_neg h2, if_neg h1, off_comm]
def xO (s : dd_S) : X4 := (s 39 3, s 39 0, s 39 1, s 39 2)
theorem offer_ev (s : dd_S) (a b tm c : Int32) : ∃ s2, f_X1_offer s a b tm c = some s2 ∧ (∀ k, k ≠ 39 → s2 k = s k) ∧ xO s2 = off a b (xO s) c tm := by
  have htake : ∃ s2, f_X1_offer_54 a b tm c s = some s2 ∧ (∀ k, k ≠ 39 → s2 k = s k) ∧ xO s2 = (c, a, b, tm) := by
    unfold f_X1_offer_54
    simp only [lt_e]
    refine ⟨_, rfl, fun k hk => by rw [st2_k _ _ _ _ hk, st2_k _ _ _ _ hk, st2_k _ _ _ _ hk, st2_k _ _ _ _ hk], ?_⟩
    unfold xO
    simp [st2_at]
  have hkeep : ∃ s2, f_X1_offer_75 a b tm c s = some s2 ∧ (∀ k, k ≠ 39 → s2 k = s k) ∧ xO s2 = xO s := ⟨s, rfl, fun _ _ => rfl, rfl⟩
  have h38 : ∀ t0 : Int32, ∃ s2, f_X1_offer_38 a b tm c s t0 = some s2 ∧ (∀ k, k ≠ 39 → s2 k = s k) ∧ xO s2 = if c < s 39 3 ∨ t0 ≠ 0 then (c, a, b, tm) else xO s := fun t0 => by
    unfold f_X1_offer_38
    by_cases h1 : c < s 39 3
    · rw [if_pos h1, if_pos (Or.inl h1)]; exact htake
    · rw [if_neg h1]
      by_cases h2 : t0 = 0
      · rw [if_pos h2, if_neg (fun q => q.elim h1 (fun q => q h2))]; exact hkeep
      · rw [if_neg h2, if_pos (Or.inr h2)]; exact htake
  have h37 : ¬ (c = s 39 3 ∧ s 39 0 = a ∧ s 39 1 = b ∧ tm < s 39 2) → ∃ s2, f_X1_offer_37 a b tm c s = some s2 ∧ (∀ k, k ≠ 39 → s2 k = s k) ∧ xO s2 = off a b (xO s) c tm := fun hn => by
    obtain ⟨s2, q1, q2, q3⟩ := h38 0
    refine ⟨s2, q1, q2, ?_⟩
    rw [q3]
    unfold off
    show _ = if c < s 39 3 ∨ (c = s 39 3 ∧ s 39 0 = a ∧ s 39 1 = b ∧ tm < s 39 2) then _ else _
    by_cases h1 : c < s 39 3
    · rw [if_pos (Or.inl h1), if_pos (Or.inl h1)]
    · rw [if_neg (fun q => q.elim h1 (fun q => q rfl)), if_neg (fun q => q.elim h1 hn)]
  unfold f_X1_offer
  by_cases h1 : c = s 39 3
  · rw [if_pos h1]
    by_cases h2 : a = s 39 0
    · rw [if_pos h2]
      by_cases h3 : b = s 39 1
      · rw [if_pos h3]
        by_cases h4 : s 39 2 ≤ tm
        · rw [if_pos h4]
          exact h37 (fun q => i32_nlt.mpr h4 q.2.2.2)
        · rw [if_neg h4]
          obtain ⟨s2, q1, q2, q3⟩ := h38 1
          refine ⟨s2, q1, q2, ?_⟩
          rw [q3, if_pos (Or.inr (by decide))]
          unfold off
          show _ = if c < s 39 3 ∨ (c = s 39 3 ∧ s 39 0 = a ∧ s 39 1 = b ∧ tm < s 39 2) then _ else _
          rw [if_pos (Or.inr ⟨h1, h2.symm, h3.symm, i32_nle.mp h4⟩)]
      · rw [if_neg h3]
        exact h37 (fun q => h3 q.2.2.1.symm)
    · rw [if_neg h2]
      exact h37 (fun q => h2 q.2.1.symm)
  · rw [if_neg h1]
    exact h37 (fun q => h1 q.1)
/-- the class weighs the times of one duty of a pair -/
theorem FrW.hdE {E s : dd_S} (h : FrW E s) : s 43 = E 43 := h 43 (by unfold Scw; omega)
theorem wt_loop {E0 : dd_S} {T D V a b e : Nat} {L : Nat → List Nat} (hC0 : CI E0 T D V L) (ha : a < 12) (hb : b < 12) (hab : a ≠ b) (he : e < 12) (a1 : Int32) : ∀ (rest pre : List Nat) (n : Nat) (E : dd_S), L e = pre ++ rest → rest.length < n → FrW E0 E →
    ∃ E2, f_X5_weighTimesOf_10 a1 (nI a) (nI b) n E e (nI pre.length) = some E2 ∧ FrW E0 E2 ∧ xO E2 = rest.foldl (stE E0 L a b) (xO E) := by
  have hT := hC0.1.1
  intro rest
  induction rest with
  | nil =>
    intro pre n E hl hn hf
    obtain ⟨n, rfl⟩ : ∃ m, n = m + 1 := ⟨n - 1, by simp at hn; omega⟩
    have hC := hC0.frw hf
    have hL := hC.2.2.2.2.2.1 e he
    have hlen := hL.1.len
    rw [List.append_nil] at hl
    unfold f_X5_weighTimesOf_10
    rw [hL.2.1.1, hl, if_pos ((nI_le_iff (by rw [hl] at hlen; omega) (by rw [hl] at hlen; omega)).mpr (Nat.le_refl _))]
    exact ⟨E, rfl, hf, rfl⟩
  | cons x r ih =>
    intro pre n E hl hn hf
    obtain ⟨n, rfl⟩ : ∃ m, n = m + 1 := ⟨n - 1, by simp at hn; omega⟩
    have hC := hC0.frw hf
    have hL := hC.2.2.2.2.2.1 e he
    have hlen := hL.1.len
    have hll : (L e).length = pre.length + (r.length + 1) := by rw [hl]; simp
    have hx : x < 40 := by have := hL.1.lt (x := x) (by rw [hl]; simp); omega
    have hgt : (L e)[pre.length]'(by omega) = x := by simp [hl]
    have htin : f_X0_tripIn E e (nI pre.length) = some (nI x) := by rw [tin_duty hL.2.1 (by omega) (by omega), hgt]
    have h43 := hf.hdE
    obtain ⟨s1, t1, t2, t3, t4, t5, t6⟩ := tryEx_ev hC ha hb hab (E0 43 x)
    rw [h43, hf.env.ft, hf.env.ft] at t1
    rw [h43] at t4 t6
    have hok : okE E0 L a b (E0 43 x) = (if ftS E0 (hdR (E0 43) (E0 43 x) (L a) (L b)) 8 = 0 then 0 else if ftS E0 (hdR (E0 43) (E0 43 x) (L b) (L a)) 8 = 0 then 0 else 1) := rfl
    rw [← hok] at t1
    have hx1 : xO s1 = xO E := by unfold xO; rw [t2 39 (by unfold Scr; omega)]
    have hf1 : FrW E0 s1 := hf.trans t2.w
    have hgo : ∀ s2, FrW E0 s2 → xO s2 = stE E0 L a b (xO E) x → ∃ E2, f_X5_weighTimesOf_64 a1 (nI a) (nI b) (fun zs z0 z1 => f_X5_weighTimesOf_10 a1 (nI a) (nI b) n zs z0 z1) s2 e (nI pre.length) = some E2 ∧ FrW E0 E2 ∧ xO E2 = (x :: r).foldl (stE E0 L a b) (xO E) := fun s2 h1 h2 => by
      obtain ⟨E2, q1, q2, q3⟩ := ih (pre ++ [x]) n s2 (by rw [hl]; simp) (by simp at hn; omega) h1
      rw [List.length_append, List.length_singleton] at q1
      unfold f_X5_weighTimesOf_64
      rw [lt_e, nI_inc]
      exact ⟨E2, q1, q2, by rw [q3, h2, List.foldl_cons]⟩
    unfold f_X5_weighTimesOf_10
    rw [hL.2.1.1, if_neg (nI_ge (by omega) (by omega)), htin, bd_s, dep_ev hx, bd_s, h43, t1, bd2_s]
    by_cases c0 : okE E0 L a b (E0 43 x) = 0
    · rw [if_pos c0]
      exact hgo s1 hf1 (by unfold stE; rw [if_pos c0, hx1])
    · have hch : f_X5_changeOfPay s1 (nI a) (nI b) = some (chE E0 L a b (E0 43 x)) := by
        unfold f_X5_changeOfPay chE
        rw [dat_ev ha, bd_s, dat_ev hb, bd_s, t4 5 (by decide) (by decide), t6 5 (by decide) (by decide), hf.env.ft, hf.env.ft, hf1 a (by unfold Scw; omega), hf1 b (by unfold Scw; omega)]
      obtain ⟨s2, o1, o2, o3⟩ := offer_ev s1 (nI a) (nI b) (E0 43 x) (chE E0 L a b (E0 43 x))
      rw [if_neg c0, hch, bd_s, o1, bd_s]
      exact hgo s2 (hf1.trans (fun k hk => o2 k (by unfold Scw at hk; omega))) (by unfold stE; rw [if_neg c0, o3, hx1])
theorem wt_ev {E0 E : dd_S} {T D V a b e : Nat} {L : Nat → List Nat} (hC0 : CI E0 T D V L) (ha : a < 12) (hb : b < 12) (hab : a ≠ b) (he : e < 12) (hf : FrW E0 E) : ∃ E2, f_X5_weighTimesOf E (nI e) (nI a) (nI b) = some E2 ∧ FrW E0 E2 ∧ xO E2 = (L e).foldl (stE E0 L a b) (xO E) := by
  have hT := hC0.1.1
  have hlen := (hC0.2.2.2.2.2.1 e he).1.len
  obtain ⟨E2, h1, h2, h3⟩ := wt_loop hC0 ha hb hab he (nI e) (L e) [] 64 E rfl (by omega) hf
  refine ⟨E2, ?_, h2, h3⟩
  unfold f_X5_weighTimesOf
  rw [dat_ev he, bd_s]
  exact h1
/-! improving: the reference's loops, and both together -/
theorem fR_id (p : Nat → Bool) : ∀ (q v : Nat) (x : X4), fR (fun x _ => x) p v q x = x := by
  intro q
  induction q with
  | zero => intro v x; rfl
  | succ q ih =>
    intro v x
    unfold fR
    rw [ih]
    split <;> rfl
def inP (E : dd_S) (a b : Nat) (t : Nat) : Bool := decide (E 34 t = nI a) || decide (E 34 t = nI b)
theorem inP_iff {E : dd_S} {a b t : Nat} : inP E a b t = true ↔ E 34 t = nI a ∨ E 34 t = nI b := by
  unfold inP
  rw [Bool.or_eq_true, decide_eq_true_eq, decide_eq_true_eq]
/-- a pair of duties: the class's two rows, the reference's trips -/
theorem pair_fold {E0 : dd_S} {T D V a b : Nat} {L : Nat → List Nat} (hC : CI E0 T D V L) (ha : a < 12) (hb : b < 12) (hab : a ≠ b) (x : X4) : (L b).foldl (stE E0 L a b) ((L a).foldl (stE E0 L a b) x) = fR (stE E0 L a b) (inP E0 a b) 0 T x := by
  have hA := hC.2.2.2.2.2.1 a ha
  have hB := hC.2.2.2.2.2.1 b hb
  rw [← List.foldl_append]
  refine foldl_fR (stE_comm E0 L a b) T 0 _ x (List.nodup_append.mpr ⟨hA.1.1.nodup, hB.1.1.nodup, fun y hy z hz e => ?_⟩) (fun t => ?_)
  · subst e
    exact hab (nI_inj (by omega) (by omega) (((hA.1.2 y).mp hy).2.symm.trans ((hB.1.2 y).mp hz).2))
  · rw [List.mem_append, hA.1.2, hB.1.2, inP_iff]
    constructor
    · rintro (⟨h1, h2⟩ | ⟨h1, h2⟩)
      · exact ⟨⟨Nat.zero_le _, by omega⟩, Or.inl h2⟩
      · exact ⟨⟨Nat.zero_le _, by omega⟩, Or.inr h2⟩
    · rintro ⟨⟨-, h1⟩, h2 | h2⟩
      · exact Or.inl ⟨by omega, h2⟩
      · exact Or.inr ⟨by omega, h2⟩
/-- what is kept as the best so far -/
def XI (E0 : dd_S) (D : Nat) (L : Nat → List Nat) (x : X4) : Prop := (x.1 = 0 ∧ x.2.1 = -1) ∨ (x.1 < 0 ∧ ∃ a b, a < D ∧ b < D ∧ a ≠ b ∧ x.2.1 = nI a ∧ x.2.2.1 = nI b ∧ okE E0 L a b x.2.2.2 ≠ 0)
theorem XI.le {E0 : dd_S} {D : Nat} {L : Nat → List Nat} {x : X4} (h : XI E0 D L x) : x.1 ≤ 0 := by
  rcases h with ⟨h, -⟩ | ⟨h, -⟩
  · rw [h]; decide
  · rw [Int32.le_iff_toInt_le]; rw [Int32.lt_iff_toInt_lt] at h; omega
theorem XI.st {E0 : dd_S} {D a b : Nat} {L : Nat → List Nat} {x : X4} (ha : a < D) (hb : b < D) (hD : D ≤ 12) (hab : a ≠ b) (h : XI E0 D L x) (t : Nat) : XI E0 D L (stE E0 L a b x t) := by
  unfold stE
  by_cases c0 : okE E0 L a b (E0 43 t) = 0
  · rw [if_pos c0]; exact h
  · rw [if_neg c0]
    unfold off
    by_cases c : chE E0 L a b (E0 43 t) < x.1 ∨ (chE E0 L a b (E0 43 t) = x.1 ∧ x.2.1 = nI a ∧ x.2.2.1 = nI b ∧ E0 43 t < x.2.2.2)
    · rw [if_pos c]
      refine Or.inr ⟨?_, a, b, ha, hb, hab, rfl, rfl, c0⟩
      rcases c with c | ⟨c1, c2, -⟩
      · exact i32_lel c h.le
      · rcases h with ⟨-, h2⟩ | ⟨h1, -⟩
        · rw [c2] at h2; exact absurd h2 (nI_m1 (by omega))
        · show chE E0 L a b (E0 43 t) < 0
          rw [c1]; exact h1
    · rw [if_neg c]; exact h
theorem XI.fold {E0 : dd_S} {D a b : Nat} {L : Nat → List Nat} (ha : a < D) (hb : b < D) (hD : D ≤ 12) (hab : a ≠ b) : ∀ (l : List Nat) (x : X4), XI E0 D L x → XI E0 D L (l.foldl (stE E0 L a b) x) := by
  intro l
  induction l with
  | nil => intro x h; exact h
  | cons y r ih => intro x h; exact ih _ (h.st ha hb hD hab y)
