/-! EXCHANGING TAILS -/
def swp (a b x : Int32) : Int32 := if x = a then b else if x = b then a else x
theorem swp_swp (a b x : Int32) : swp a b (swp a b x) = x := by
  unfold swp
  by_cases h1 : x = a
  · rw [if_pos h1]
    by_cases h2 : b = a
    · rw [if_pos h2, h1, h2]
    · rw [if_neg h2, if_pos rfl, h1]
  · rw [if_neg h1]
    by_cases h2 : x = b
    · rw [if_pos h2, if_pos rfl, h2]
    · rw [if_neg h2, if_neg h1, if_neg h2]
theorem swp_o {a b x : Int32} (h1 : x ≠ a) (h2 : x ≠ b) : swp a b x = x := by unfold swp; rw [if_neg h1, if_neg h2]
theorem swp_a {a b : Int32} : swp a b a = b := by unfold swp; rw [if_pos rfl]
theorem swp_b {a b : Int32} : swp a b b = a := by
  unfold swp
  by_cases h : b = a
  · rw [if_pos h]; exact h
  · rw [if_neg h, if_pos rfl]
theorem swp_iff {a b x y : Int32} : swp a b x = y ↔ x = swp a b y := ⟨fun h => by rw [← h, swp_swp], fun h => by rw [h, swp_swp]⟩
def xch (dep du : Nat → Int32) (a b tm : Int32) (v T t : Nat) : Int32 := if (v ≤ t ∧ t < T) ∧ ¬ dep t < tm then swp a b (du t) else du t
theorem xch_lt {dep du : Nat → Int32} {a b tm : Int32} {T t : Nat} (h : t < T) : xch dep du a b tm 0 T t = if dep t < tm then du t else swp a b (du t) := by
  unfold xch
  by_cases c : dep t < tm
  · rw [if_pos c, if_neg (fun q => q.2 c)]
  · rw [if_neg c, if_pos ⟨⟨Nat.zero_le _, h⟩, c⟩]
theorem xch_ge {dep du : Nat → Int32} {a b tm : Int32} {T t : Nat} (h : T ≤ t) : xch dep du a b tm 0 T t = du t := by
  unfold xch
  rw [if_neg (fun q => absurd q.1.2 (by omega))]
/-- the rows that the exchange makes -/
def hdR (dep : Nat → Int32) (tm : Int32) (l m : List Nat) : List Nat := l.filter (fun x => decide (dep x < tm)) ++ m.filter (fun x => decide (¬ dep x < tm))
theorem hd_row {dep du : Nat → Int32} {T : Nat} {a b tm : Int32} {l m : List Nat} (hl : IsRow dep du T a l) (hm : IsRow dep du T b m) : IsRow dep (xch dep du a b tm 0 T) T a (hdR dep tm l m) := by
  refine ⟨List.pairwise_append.mpr ⟨hl.1.filter _, hm.1.filter _, fun x hx y hy => ?_⟩, fun t => ?_⟩
  · have h1 := of_decide_eq_true (List.mem_filter.mp hx).2
    have h2 := of_decide_eq_true (List.mem_filter.mp hy).2
    exact i32_lel h1 (i32_nlt.mp h2)
  · unfold hdR
    rw [List.mem_append, List.mem_filter, List.mem_filter, hl.2, hm.2]
    constructor
    · rintro (⟨⟨h1, h2⟩, h3⟩ | ⟨⟨h1, h2⟩, h3⟩)
      · exact ⟨h1, by rw [xch_lt h1, if_pos (of_decide_eq_true h3)]; exact h2⟩
      · exact ⟨h1, by rw [xch_lt h1, if_neg (of_decide_eq_true h3), h2, swp_b]⟩
    · rintro ⟨h1, h2⟩
      rw [xch_lt h1] at h2
      by_cases c : dep t < tm
      · rw [if_pos c] at h2
        exact Or.inl ⟨⟨h1, h2⟩, decide_eq_true c⟩
      · rw [if_neg c] at h2
        refine Or.inr ⟨⟨h1, ?_⟩, decide_eq_true c⟩
        rw [swp_iff.mp h2, swp_a]
theorem swp_comm (a b x : Int32) : swp a b x = swp b a x := by
  unfold swp
  by_cases h1 : x = a
  · rw [if_pos h1]
    by_cases h2 : x = b
    · rw [if_pos h2, ← h1, ← h2]
    · rw [if_neg h2, if_pos h1]
  · rw [if_neg h1]
    by_cases h2 : x = b
    · rw [if_pos h2, if_pos h2]
    · rw [if_neg h2, if_neg h2, if_neg h1]
theorem xch_comm (dep du : Nat → Int32) (a b tm : Int32) (T : Nat) : xch dep du a b tm 0 T = xch dep du b a tm 0 T := by
  funext t
  unfold xch
  rw [swp_comm]
theorem hd_row2 {dep du : Nat → Int32} {T : Nat} {a b tm : Int32} {l m : List Nat} (hl : IsRow dep du T a l) (hm : IsRow dep du T b m) : IsRow dep (xch dep du a b tm 0 T) T b (hdR dep tm m l) := by
  rw [xch_comm]
  exact hd_row hm hl
theorem two_len {dep du : Nat → Int32} {T : Nat} {a b : Int32} (hab : a ≠ b) {l m : List Nat} (hl : IsRow dep du T a l) (hm : IsRow dep du T b m) : l.length + m.length ≤ T := by
  have := nodup_len T (l ++ m) (List.nodup_append.mpr ⟨hl.1.nodup, hm.1.nodup, fun x hx y hy e => by
    subst e
    exact hab (((hl.2 x).mp hx).2.symm.trans ((hm.2 x).mp hy).2)⟩) (fun x hx => by
    rcases List.mem_append.mp hx with h | h
    · exact hl.lt h
    · exact hm.lt h)
  rwa [List.length_append] at this
/-- the class tries an exchange -/
theorem tryEx_ev {E : dd_S} {T D V a b : Nat} {L : Nat → List Nat} (hC : CI E T D V L) (ha : a < 12) (hb : b < 12) (hab : a ≠ b) (tm : Int32) :
    ∃ s1, f_X5_tryExchange E (nI a) (nI b) tm = some ((if ftS E (hdR (E 43) tm (L a) (L b)) 8 = 0 then 0 else if ftS E (hdR (E 43) tm (L b) (L a)) 8 = 0 then 0 else 1), s1) ∧ FrS E s1 ∧ DutyAt s1 12 (hdR (E 43) tm (L a) (L b)) ∧ (∀ j, 2 ≤ j → j ≤ 8 → s1 12 j = ftS E (hdR (E 43) tm (L a) (L b)) j) ∧ DutyAt s1 13 (hdR (E 43) tm (L b) (L a)) ∧ ∀ j, 2 ≤ j → j ≤ 8 → s1 13 j = ftS E (hdR (E 43) tm (L b) (L a)) j := by
  have hT := hC.1.1
  have hA := hC.2.2.2.2.2.1 a ha
  have hB := hC.2.2.2.2.2.1 b hb
  have hlen := two_len (fun h => hab (nI_inj (by omega) (by omega) h)) hA.1 hB.1
  have hA40 : ∀ x ∈ L a, x < 40 := fun x hx => by have := hA.1.lt hx; omega
  have hB40 : ∀ x ∈ L b, x < 40 := fun x hx => by have := hB.1.lt hx; omega
  have rA := hd_row (tm := tm) hA.1 hB.1
  have rB := hd_row2 (tm := tm) hA.1 hB.1
  have lA := rA.len
  have lB := rB.len
  obtain ⟨s1, a1, a2, a3⟩ := join_ev (sg := E) (d := 12) (d2 := a) (d3 := b) tm (by decide) (by omega) (by omega) (by omega) (by omega) hA40 hB40 (by omega) hA.2.1 hB.2.1
  obtain ⟨s2, b1, b2, b3⟩ := join_ev (sg := s1) (d := 13) (d2 := b) (d3 := a) tm (by decide) (by omega) (by omega) (by omega) (by omega) hB40 hA40 (by omega) (hB.2.1.fr a2 (by omega) (by omega) (by omega)) (hA.2.1.fr a2 (by omega) (by omega) (by omega))
  have h43 : s1 43 = E 43 := a2 43 (by decide) (by decide)
  rw [h43] at b3
  have hF2 : FrS E s2 := a2.s12.trans b2.s13
  have a4 : DutyAt s2 12 (hdR (E 43) tm (L a) (L b)) := a3.fr b2 (by decide) (by decide) (by decide)
  obtain ⟨s3, c1, c2, c3, c4⟩ := meas_ev (sg := s2) (d := 12) (l := hdR (E 43) tm (L a) (L b)) (by decide) (by omega) a4 (fun x hx => ((hC.2.2.1.1 x (rA.lt hx)).1).env hF2.env)
  have hF3 : FrS E s3 := hF2.trans (one12 c2)
  have b4 : DutyAt s3 13 (hdR (E 43) tm (L b) (L a)) := ⟨by rw [c2 13 (by decide)]; exact b3.1, by rw [c2 _ (by decide)]; exact b3.2⟩
  obtain ⟨s4, d1, d2, d3, d4⟩ := meas_ev (sg := s3) (d := 13) (l := hdR (E 43) tm (L b) (L a)) (by decide) (by omega) b4 (fun x hx => ((hC.2.2.1.1 x (rB.lt hx)).1).env hF3.env)
  have f12 : ∀ j, 2 ≤ j → j ≤ 8 → s4 12 j = ftS E (hdR (E 43) tm (L a) (L b)) j := fun j h2 h8 => by rw [d2 12 (by decide), c4 j h2 h8, hF2.env.ft]
  have f13 : ∀ j, 2 ≤ j → j ≤ 8 → s4 13 j = ftS E (hdR (E 43) tm (L b) (L a)) j := fun j h2 h8 => by rw [d4 j h2 h8, hF3.env.ft]
  refine ⟨s4, ?_, hF3.trans (one13 d2), ⟨by rw [d2 12 (by decide)]; exact c3.1, by rw [d2 _ (by decide)]; exact c3.2⟩, f12, d3, f13⟩
  unfold f_X5_tryExchange
  rw [dat_ev ha, bd_s, dat_ev hb, bd_s, a1, bd_s, dat_ev hb, bd_s, dat_ev ha, bd_s, b1, bd_s, c1, bd_s, d1, bd_s, f12 8 (by decide) (by decide), f13 8 (by decide) (by decide)]
  unfold f_X5_tryExchange_98 f_X5_tryExchange_99
  by_cases q1 : ftS E (hdR (E 43) tm (L a) (L b)) 8 = 0
  · rw [if_pos q1, if_pos q1]; rfl
  · rw [if_neg q1, if_neg q1]
    by_cases q2 : ftS E (hdR (E 43) tm (L b) (L a)) 8 = 0
    · rw [if_pos q2, if_pos q2]; rfl
    · rw [if_neg q2, if_neg q2]; rfl
theorem chg_ac (c d p q : Int32) : ((c + d) - p) - q = (((-p) - q) + c) + d := by
  simp only [Int32.sub_eq_add_neg]
  ac_rfl
/-! an exchange is kept; swap -/
theorem at_loop {d : Nat} {l : List Nat} (hl : l.length ≤ 40) (hl40 : ∀ x ∈ l, x < 40) : ∀ (rest pre : List Nat) (n : Nat) (s : dd_S), l = pre ++ rest → rest.length < n → d < 12 → DutyAt s d l → ∃ s2, f_X5_assignTripsOf_8 (nI d) n s d (nI pre.length) = some s2 ∧ (∀ k, k ≠ 34 → s2 k = s k) ∧ ∀ t, s2 34 t = if t ∈ rest then nI d else s 34 t := by
  intro rest
  induction rest with
  | nil =>
    intro pre n s hl2 hn hd hD
    obtain ⟨n, rfl⟩ : ∃ m, n = m + 1 := ⟨n - 1, by simp at hn; omega⟩
    rw [List.append_nil] at hl2
    subst hl2
    unfold f_X5_assignTripsOf_8
    rw [hD.1, if_pos ((nI_le_iff (by omega) (by omega)).mpr (Nat.le_refl _))]
    exact ⟨s, rfl, fun _ _ => rfl, fun t => by rw [if_neg List.not_mem_nil]⟩
  | cons x r ih =>
    intro pre n s hl2 hn hd hD
    obtain ⟨n, rfl⟩ : ∃ m, n = m + 1 := ⟨n - 1, by simp at hn; omega⟩
    have hlen : l.length = pre.length + (r.length + 1) := by rw [hl2]; simp
    have hx : x < 40 := hl40 x (by rw [hl2]; simp)
    have hgt : l[pre.length]'(by omega) = x := by simp [hl2]
    have htin : f_X0_tripIn s d (nI pre.length) = some (nI x) := by rw [tin_duty hD (by omega) hl, hgt]
    unfold f_X5_assignTripsOf_8
    rw [hD.1, if_neg (nI_ge (by omega) (by omega)), htin, bd_s, asg_ev hx, bd_s, lt_e, nI_inc]
    obtain ⟨s2, b1, b2, b3⟩ := ih (pre ++ [x]) n (st2 s 34 x (nI d)) (by rw [hl2]; simp) (by simp at hn; omega) hd ⟨by rw [st2_k _ _ _ _ (show d ≠ 34 by omega)]; exact hD.1, by rw [st2_k _ _ _ _ (show 15 + d ≠ 34 by omega)]; exact hD.2⟩
    rw [List.length_append, List.length_singleton] at b1
    refine ⟨s2, b1, fun k hk => by rw [b2 k hk, st2_k _ _ _ _ hk], fun t => ?_⟩
    rw [b3, st2_at, if_pos rfl]
    by_cases e : t ∈ r
    · rw [if_pos e, if_pos (List.mem_cons_of_mem _ e)]
    · rw [if_neg e]
      by_cases e2 : t = x
      · rw [if_pos e2, if_pos (by rw [e2]; exact List.mem_cons_self)]
      · rw [if_neg e2, if_neg (fun h => by
          rcases List.mem_cons.mp h with q | q
          · exact e2 q
          · exact e q)]
theorem at_ev {s : dd_S} {d : Nat} {l : List Nat} (hd : d < 12) (hl : l.length ≤ 40) (hl40 : ∀ x ∈ l, x < 40) (hD : DutyAt s d l) : ∃ s2, f_X5_assignTripsOf s (nI d) = some s2 ∧ (∀ k, k ≠ 34 → s2 k = s k) ∧ ∀ t, s2 34 t = if t ∈ l then nI d else s 34 t := by
  obtain ⟨s2, h1, h2, h3⟩ := at_loop hl hl40 l [] 64 s rfl (by omega) hd hD
  refine ⟨s2, ?_, h2, h3⟩
  unfold f_X5_assignTripsOf
  rw [dat_ev hd, bd_s]
  exact h1
theorem keepEx_ev {E s1 : dd_S} {T D V a b : Nat} {L : Nat → List Nat} (hC : CI E T D V L) (ha : a < D) (hb : b < D) (hab : a ≠ b) {tm : Int32} (hf : FrS E s1) (hDA : DutyAt s1 12 (hdR (E 43) tm (L a) (L b))) (hfa : ∀ j, 2 ≤ j → j ≤ 8 → s1 12 j = ftS E (hdR (E 43) tm (L a) (L b)) j) (hDB : DutyAt s1 13 (hdR (E 43) tm (L b) (L a))) (hfb : ∀ j, 2 ≤ j → j ≤ 8 → s1 13 j = ftS E (hdR (E 43) tm (L b) (L a)) j) :
    ∃ s2, f_X5_keepExchange s1 (nI a) (nI b) = some s2 ∧ (∀ k, ¬ Scr k → k ≠ a → k ≠ 15 + a → k ≠ b → k ≠ 15 + b → k ≠ 34 → s2 k = E k) ∧ (∀ k, 27 ≤ k → k ≠ 34 → s2 k = s1 k) ∧ s2 34 = xch (E 43) (E 34) (nI a) (nI b) tm 0 T ∧ CI s2 T D V (fun e => if e = a then hdR (E 43) tm (L a) (L b) else if e = b then hdR (E 43) tm (L b) (L a) else L e) := by
  have hT := hC.1.1
  have hD := hC.1.2.1
  have hA := hC.2.2.2.2.2.1 a (by omega)
  have hB := hC.2.2.2.2.2.1 b (by omega)
  have rA := hd_row (tm := tm) hA.1 hB.1
  have rB := hd_row2 (tm := tm) hA.1 hB.1
  have lA := rA.len
  have lB := rB.len
  have hA40 : ∀ x ∈ hdR (E 43) tm (L a) (L b), x < 40 := fun x hx => by have := rA.lt hx; omega
  have hB40 : ∀ x ∈ hdR (E 43) tm (L b) (L a), x < 40 := fun x hx => by have := rB.lt hx; omega
  generalize hla : hdR (E 43) tm (L a) (L b) = la at *
  generalize hlb : hdR (E 43) tm (L b) (L a) = lb at *
  obtain ⟨s2, a1, a2, a3, a4⟩ := copy_ev (sg := s1) (d := a) (d2 := 12) (by omega) (by decide) (by omega) (by omega) hDA (by rw [hfa 8 (by decide) (by decide)]; exact ft8)
  have h13 : s2 13 = s1 13 := a2 13 (by omega) (by omega)
  obtain ⟨s3, b1, b2, b3, b4⟩ := copy_ev (sg := s2) (d := b) (d2 := 13) (by omega) (by decide) (by omega) (by omega) (hDB.fr a2 (by omega) (by omega) (by omega)) (by rw [h13, hfb 8 (by decide) (by decide)]; exact ft8)
  obtain ⟨s4, c1, c2, c3⟩ := at_ev (s := s3) (d := a) (by omega) (by omega) hA40 (a3.fr b2 (by omega) (by omega) (by omega))
  obtain ⟨s5, d1, d2, d3⟩ := at_ev (s := s4) (d := b) (l := lb) (by omega) (by omega) hB40 ⟨by rw [c2 b (by omega)]; exact b3.1, by rw [c2 _ (by omega)]; exact b3.2⟩
  have hk : ∀ k, ¬ Scr k → k ≠ a → k ≠ 15 + a → k ≠ b → k ≠ 15 + b → k ≠ 34 → s5 k = E k := fun k h0 h1 h2 h3 h4 h5 => by rw [d2 k h5, c2 k h5, b2 k h3 h4, a2 k h1 h2, hf k h0]
  have h34a : s3 34 = E 34 := by rw [b2 34 (by omega) (by omega), a2 34 (by omega) (by omega), hf 34 (by unfold Scr; omega)]
  have h34 : s5 34 = xch (E 43) (E 34) (nI a) (nI b) tm 0 T := by
    funext t
    rw [d3, c3, h34a]
    by_cases e1 : t ∈ lb
    · rw [if_pos e1]; exact ((rB.2 t).mp e1).2.symm
    · rw [if_neg e1]
      by_cases e2 : t ∈ la
      · rw [if_pos e2]; exact ((rA.2 t).mp e2).2.symm
      · rw [if_neg e2]
        by_cases ht : t < T
        · have n1 : xch (E 43) (E 34) (nI a) (nI b) tm 0 T t ≠ nI a := fun h => e2 ((rA.2 t).mpr ⟨ht, h⟩)
          have n2 : xch (E 43) (E 34) (nI a) (nI b) tm 0 T t ≠ nI b := fun h => e1 ((rB.2 t).mpr ⟨ht, h⟩)
          rw [xch_lt ht] at n1 n2 ⊢
          by_cases c : E 43 t < tm
          · rw [if_pos c]
          · rw [if_neg c] at n1 n2 ⊢
            rw [swp_o (fun h => n2 (by rw [h, swp_a])) (fun h => n1 (by rw [h, swp_b]))]
        · rw [xch_ge (by omega)]
  refine ⟨s5, ?_, hk, fun k h1 h2 => by rw [d2 k h2, c2 k h2, b2 k (by omega) (by omega), a2 k (by omega) (by omega)], h34, ?_⟩
  · unfold f_X5_keepExchange
    rw [dat_ev (by omega), bd_s, a1, bd_s, dat_ev (by omega), bd_s, b1, bd_s, c1, bd_s, d1, bd_s]
  · have hg : ∀ k, ¬ Scr k → 14 ≤ k → (k < 15 ∨ 27 ≤ k) → k ≠ 34 → s5 k = E k := fun k h0 h1 h2 h3 => hk k h0 (by omega) (by omega) (by omega) (by omega) h3
    refine hC.new (fun k hk => hg k (by unfold Scr; omega) (by omega) (by omega) (by omega)) (hg 31 (by unfold Scr; omega) (by omega) (by omega) (by omega)) (hg 14 (by unfold Scr; omega) (by omega) (by omega) (by omega)) (by rw [hg 30 (by unfold Scr; omega) (by omega) (by omega) (by omega)]; exact hC.2.1.2.1) (by rw [hg 30 (by unfold Scr; omega) (by omega) (by omega) (by omega)]; exact hC.2.1.2.2) (fun v hv => hg (45 + v) (by unfold Scr; omega) (by omega) (by omega) (by omega)) (Nat.le_refl _) hD (fun t ht => ?_) (fun e he => ?_)
    · rw [d3, c3, h34a]
      by_cases e1 : t ∈ lb
      · rw [if_pos e1]; exact Or.inr ⟨rB.lt e1, b, hb, rfl⟩
      · rw [if_neg e1]
        by_cases e2 : t ∈ la
        · rw [if_pos e2]; exact Or.inr ⟨rA.lt e2, a, ha, rfl⟩
        · rw [if_neg e2]; exact hC.2.2.2.2.1 t ht
    · rw [h34]
      by_cases ea : e = a
      · subst ea
        rw [if_pos rfl]
        have hD3 : DutyAt s3 e la := a3.fr b2 (by omega) (by omega) (by omega)
        exact ⟨rA, ⟨by rw [d2 e (by omega), c2 e (by omega)]; exact hD3.1, by rw [d2 _ (by omega), c2 _ (by omega)]; exact hD3.2⟩, fun j h2 h8 => by rw [d2 e (by omega), c2 e (by omega), b2 e (by omega) (by omega), a4 j h2 h8, hfa j h2 h8]⟩
      · rw [if_neg ea]
        by_cases eb : e = b
        · subst eb
          rw [if_pos rfl]
          exact ⟨rB, ⟨by rw [d2 e (by omega), c2 e (by omega)]; exact b3.1, by rw [d2 _ (by omega), c2 _ (by omega)]; exact b3.2⟩, fun j h2 h8 => by rw [d2 e (by omega), c2 e (by omega), b4 j h2 h8, h13, hfb j h2 h8]⟩
        · rw [if_neg eb]
          obtain ⟨o1, o2, o3⟩ := hC.2.2.2.2.2.1 e he
          have hke : s5 e = E e := hk e (by unfold Scr; omega) ea (by omega) eb (by omega) (by omega)
          refine ⟨⟨o1.1, fun t => (o1.2 t).trans ?_⟩, ⟨by rw [hke]; exact o2.1, by rw [hk (15 + e) (by unfold Scr; omega) (by omega) (by omega) (by omega) (by omega) (by omega)]; exact o2.2⟩, fun j h2 h8 => by rw [hke]; exact o3 j h2 h8⟩
          constructor
          · rintro ⟨h1, h2⟩
            refine ⟨h1, ?_⟩
            rw [xch_lt h1, h2]
            split
            · rfl
            · exact swp_o (fun h => ea (nI_inj (by omega) (by omega) h)) (fun h => eb (nI_inj (by omega) (by omega) h))
          · rintro ⟨h1, h2⟩
            refine ⟨h1, ?_⟩
            rw [xch_lt h1] at h2
            by_cases c : E 43 t < tm
            · rw [if_pos c] at h2; exact h2
            · rw [if_neg c] at h2
              rw [swp_iff.mp h2]
              exact swp_o (fun h => ea (nI_inj (by omega) (by omega) h)) (fun h => eb (nI_inj (by omega) (by omega) h))
