/-! EXCHANGING TAILS -/
def swp (a b x : Int32) : Int32 := if x = a then b else if x = b then a else x
theorem swp_swp (a b x : Int32) : swp a b (swp a b x) = x := by
  unfold swp
  by_cases h1 : x = a
  · rw [if_pos h1]
    by_cases h2 : b = a
    · rw [if_pos h2, h1, h2]
    · rw [if_neg h2, if_pos rfl, h1]
  · rw [if_neg h1]
    by_cases h2 : x = b
    · rw [if_pos h2, if_pos rfl, h2]
    · rw [if_neg h2, if_neg h1, if_neg h2]
theorem swp_o {a b x : Int32} (h1 : x ≠ a) (h2 : x ≠ b) : swp a b x = x := by unfold swp; rw [if_neg h1, if_neg h2]
theorem swp_a {a b : Int32} : swp a b a = b := by unfold swp; rw [if_pos rfl]
theorem swp_b {a b : Int32} : swp a b b = a := by
  unfold swp
  by_cases h : b = a
  · rw [if_pos h]; exact h
  · rw [if_neg h, if_pos rfl]
theorem swp_iff {a b x y : Int32} : swp a b x = y ↔ x = swp a b y := ⟨fun h => by rw [← h, swp_swp], fun h => by rw [h, swp_swp]⟩
def xch (dep du : Nat → Int32) (a b tm : Int32) (v T t : Nat) : Int32 := if (v ≤ t ∧ t < T) ∧ ¬ dep t < tm then swp a b (du t) else du t
theorem xch_lt {dep du : Nat → Int32} {a b tm : Int32} {T t : Nat} (h : t < T) : xch dep du a b tm 0 T t = if dep t < tm then du t else swp a b (du t) := by
  unfold xch
  by_cases c : dep t < tm
  · rw [if_pos c, if_neg (fun q => q.2 c)]
  · rw [if_neg c, if_pos ⟨⟨Nat.zero_le _, h⟩, c⟩]
theorem xch_ge {dep du : Nat → Int32} {a b tm : Int32} {T t : Nat} (h : T ≤ t) : xch dep du a b tm 0 T t = du t := by
  unfold xch
  rw [if_neg (fun q => absurd q.1.2 (by omega))]
theorem xc_loop {a b tm : Int32} {T : Nat} (hT : T ≤ 40) (ha : a ≠ -1) (hb : b ≠ -1) : ∀ (q v n : Nat) (s : dd_S), v + q = T → q < n → s 0 2 = nI T → ∃ s2, f_X6_exchange_3 a b tm n s (nI v) = some s2 ∧ (∀ k, k ≠ 6 → s2 k = s k) ∧ ∀ t, s2 6 t = xch (s 4) (s 6) a b tm v T t := by
  intro q
  induction q with
  | zero =>
    intro v n s hv hn h2
    obtain ⟨n, rfl⟩ : ∃ m, n = m + 1 := ⟨n - 1, by omega⟩
    unfold f_X6_exchange_3
    rw [h2, if_pos ((nI_le_iff (by omega) (by omega)).mpr (by omega))]
    exact ⟨s, rfl, fun _ _ => rfl, fun t => by unfold xch; rw [if_neg (fun q => absurd q.1.2 (by omega))]⟩
  | succ q ih =>
    intro v n s hv hn h2
    obtain ⟨n, rfl⟩ : ∃ m, n = m + 1 := ⟨n - 1, by omega⟩
    have hgo : ∀ x : Int32, x = (if s 4 v < tm then s 6 v else swp a b (s 6 v)) → ∃ s2, f_X6_exchange_3 a b tm n (st2 s 6 v x) (nI (v + 1)) = some s2 ∧ (∀ k, k ≠ 6 → s2 k = s k) ∧ ∀ t, s2 6 t = xch (s 4) (s 6) a b tm v T t := fun x hx => by
      obtain ⟨s2, r1, r2, r3⟩ := ih (v + 1) n (st2 s 6 v x) (by omega) (by omega) (by rw [st2_k _ _ _ _ (show 0 ≠ 6 by decide)]; exact h2)
      refine ⟨s2, r1, fun k hk => by rw [r2 k hk, st2_k _ _ _ _ hk], fun t => ?_⟩
      rw [r3, st2_k _ _ _ _ (show 4 ≠ 6 by decide)]
      unfold xch
      rw [st2_at, if_pos rfl]
      by_cases e : t = v
      · subst e
        rw [if_pos rfl, if_neg (fun q => absurd q.1.1 (by omega)), hx]
        by_cases c : s 4 t < tm
        · rw [if_pos c, if_neg (fun q => q.2 c)]
        · rw [if_neg c, if_pos ⟨⟨Nat.le_refl _, by omega⟩, c⟩]
      · rw [if_neg e]
        by_cases c : (v + 1 ≤ t ∧ t < T) ∧ ¬ s 4 t < tm
        · rw [if_pos c, if_pos ⟨⟨by omega, c.1.2⟩, c.2⟩]
        · rw [if_neg c, if_neg (fun q => c ⟨⟨by omega, q.1.2⟩, q.2⟩)]
    have hsame : s 6 v = (if s 4 v < tm then s 6 v else swp a b (s 6 v)) → ∃ s2, f_X6_exchange_3 a b tm n s (nI (v + 1)) = some s2 ∧ (∀ k, k ≠ 6 → s2 k = s k) ∧ ∀ t, s2 6 t = xch (s 4) (s 6) a b tm v T t := fun h => by
      have := hgo (s 6 v) h
      rw [st2_id] at this
      exact this
    unfold f_X6_exchange_3
    have hix : ix (nI v) 40 = true := ix_ok (by omega) (by decide)
    rw [h2, if_neg (nI_ge (by omega) (by omega)), gd_p hix, gd_p hix, gd_p hix, gd_p hix, nI_clamp (show v < 2 ^ 31 by omega)]
    by_cases c1 : s 4 v < tm
    · rw [if_pos c1]
      unfold f_X6_exchange_82
      rw [lt_e, nI_inc]
      exact hsame (by rw [if_pos c1])
    · rw [if_neg c1]
      by_cases c2 : s 6 v = -1
      · rw [if_pos c2]
        unfold f_X6_exchange_82
        rw [lt_e, nI_inc]
        exact hsame (by rw [if_neg c1, c2, swp_o ha.symm hb.symm])
      · rw [if_neg c2]
        unfold f_X6_exchange_59
        rw [gd_p hix, nI_clamp (show v < 2 ^ 31 by omega)]
        by_cases c3 : s 6 v = a
        · rw [if_pos c3, if_pos c3]
          unfold f_X6_exchange_81 f_X6_exchange_82
          rw [gd_p hix, lt_e, lt_e, nI_inc, nI_clamp (show v < 2 ^ 31 by omega)]
          exact hgo b (by rw [if_neg c1, c3, swp_a])
        · rw [if_neg c3, if_neg c3]
          by_cases c4 : s 6 v = b
          · rw [if_pos c4]
            unfold f_X6_exchange_81 f_X6_exchange_82
            rw [gd_p hix, lt_e, lt_e, nI_inc, nI_clamp (show v < 2 ^ 31 by omega)]
            exact hgo a (by rw [if_neg c1, c4, swp_b])
          · rw [if_neg c4]
            unfold f_X6_exchange_82
            rw [lt_e, nI_inc]
            exact hsame (by rw [if_neg c1, swp_o c3 c4])
theorem xc_ev {s : dd_S} {a b : Int32} (tm : Int32) {T : Nat} (hT : T ≤ 40) (ha : a ≠ -1) (hb : b ≠ -1) (h2 : s 0 2 = nI T) : ∃ s2, f_X6_exchange s a b tm = some s2 ∧ (∀ k, k ≠ 6 → s2 k = s k) ∧ ∀ t, s2 6 t = xch (s 4) (s 6) a b tm 0 T t := xc_loop hT ha hb T 0 64 s (by omega) (by omega) h2
/-- the rows that the exchange makes -/
def hdR (dep : Nat → Int32) (tm : Int32) (l m : List Nat) : List Nat := l.filter (fun x => decide (dep x < tm)) ++ m.filter (fun x => decide (¬ dep x < tm))
theorem hd_row {dep du : Nat → Int32} {T : Nat} {a b tm : Int32} {l m : List Nat} (hl : IsRow dep du T a l) (hm : IsRow dep du T b m) : IsRow dep (xch dep du a b tm 0 T) T a (hdR dep tm l m) := by
  refine ⟨List.pairwise_append.mpr ⟨hl.1.filter _, hm.1.filter _, fun x hx y hy => ?_⟩, fun t => ?_⟩
  · have h1 := of_decide_eq_true (List.mem_filter.mp hx).2
    have h2 := of_decide_eq_true (List.mem_filter.mp hy).2
    exact i32_lel h1 (i32_nlt.mp h2)
  · unfold hdR
    rw [List.mem_append, List.mem_filter, List.mem_filter, hl.2, hm.2]
    constructor
    · rintro (⟨⟨h1, h2⟩, h3⟩ | ⟨⟨h1, h2⟩, h3⟩)
      · exact ⟨h1, by rw [xch_lt h1, if_pos (of_decide_eq_true h3)]; exact h2⟩
      · exact ⟨h1, by rw [xch_lt h1, if_neg (of_decide_eq_true h3), h2, swp_b]⟩
    · rintro ⟨h1, h2⟩
      rw [xch_lt h1] at h2
      by_cases c : dep t < tm
      · rw [if_pos c] at h2
        exact Or.inl ⟨⟨h1, h2⟩, decide_eq_true c⟩
      · rw [if_neg c] at h2
        refine Or.inr ⟨⟨h1, ?_⟩, decide_eq_true c⟩
        rw [swp_iff.mp h2, swp_a]
theorem swp_comm (a b x : Int32) : swp a b x = swp b a x := by
  unfold swp
  by_cases h1 : x = a
  · rw [if_pos h1]
    by_cases h2 : x = b
    · rw [if_pos h2, ← h1, ← h2]
    · rw [if_neg h2, if_pos h1]
  · rw [if_neg h1]
    by_cases h2 : x = b
    · rw [if_pos h2, if_pos h2]
    · rw [if_neg h2, if_neg h2, if_neg h1]
theorem xch_comm (dep du : Nat → Int32) (a b tm : Int32) (T : Nat) : xch dep du a b tm 0 T = xch dep du b a tm 0 T := by
  funext t
  unfold xch
  rw [swp_comm]
theorem hd_row2 {dep du : Nat → Int32} {T : Nat} {a b tm : Int32} {l m : List Nat} (hl : IsRow dep du T a l) (hm : IsRow dep du T b m) : IsRow dep (xch dep du a b tm 0 T) T b (hdR dep tm m l) := by
  rw [xch_comm]
  exact hd_row hm hl
theorem two_len {dep du : Nat → Int32} {T : Nat} {a b : Int32} (hab : a ≠ b) {l m : List Nat} (hl : IsRow dep du T a l) (hm : IsRow dep du T b m) : l.length + m.length ≤ T := by
  have := nodup_len T (l ++ m) (List.nodup_append.mpr ⟨hl.1.nodup, hm.1.nodup, fun x hx y hy e => by
    subst e
    exact hab (((hl.2 x).mp hx).2.symm.trans ((hm.2 x).mp hy).2)⟩) (fun x hx => by
    rcases List.mem_append.mp hx with h | h
    · exact hl.lt h
    · exact hm.lt h)
  rwa [List.length_append] at this
/-- the class tries an exchange -/
theorem tryEx_ev {E : dd_S} {T D V a b : Nat} {L : Nat → List Nat} (hC : CI E T D V L) (ha : a < 12) (hb : b < 12) (hab : a ≠ b) (tm : Int32) :
    ∃ s1, f_X5_tryExchange E (nI a) (nI b) tm = some ((if ftS E (hdR (E 43) tm (L a) (L b)) 8 = 0 then 0 else if ftS E (hdR (E 43) tm (L b) (L a)) 8 = 0 then 0 else 1), s1) ∧ FrS E s1 ∧ DutyAt s1 12 (hdR (E 43) tm (L a) (L b)) ∧ (∀ j, 2 ≤ j → j ≤ 8 → s1 12 j = ftS E (hdR (E 43) tm (L a) (L b)) j) ∧ DutyAt s1 13 (hdR (E 43) tm (L b) (L a)) ∧ ∀ j, 2 ≤ j → j ≤ 8 → s1 13 j = ftS E (hdR (E 43) tm (L b) (L a)) j := by
  have hT := hC.1.1
  have hA := hC.2.2.2.2.2.1 a ha
  have hB := hC.2.2.2.2.2.1 b hb
  have hlen := two_len (fun h => hab (nI_inj (by omega) (by omega) h)) hA.1 hB.1
  have hA40 : ∀ x ∈ L a, x < 40 := fun x hx => by have := hA.1.lt hx; omega
  have hB40 : ∀ x ∈ L b, x < 40 := fun x hx => by have := hB.1.lt hx; omega
  have rA := hd_row (tm := tm) hA.1 hB.1
  have rB := hd_row2 (tm := tm) hA.1 hB.1
  have lA := rA.len
  have lB := rB.len
  obtain ⟨s1, a1, a2, a3⟩ := join_ev (sg := E) (d := 12) (d2 := a) (d3 := b) tm (by decide) (by omega) (by omega) (by omega) (by omega) hA40 hB40 (by omega) hA.2.1 hB.2.1
  obtain ⟨s2, b1, b2, b3⟩ := join_ev (sg := s1) (d := 13) (d2 := b) (d3 := a) tm (by decide) (by omega) (by omega) (by omega) (by omega) hB40 hA40 (by omega) (hB.2.1.fr a2 (by omega) (by omega) (by omega)) (hA.2.1.fr a2 (by omega) (by omega) (by omega))
  have h43 : s1 43 = E 43 := a2 43 (by decide) (by decide)
  rw [h43] at b3
  have hF2 : FrS E s2 := a2.s12.trans b2.s13
  have a4 : DutyAt s2 12 (hdR (E 43) tm (L a) (L b)) := a3.fr b2 (by decide) (by decide) (by decide)
  obtain ⟨s3, c1, c2, c3, c4⟩ := meas_ev (sg := s2) (d := 12) (l := hdR (E 43) tm (L a) (L b)) (by decide) (by omega) a4 (fun x hx => ((hC.2.2.1.1 x (rA.lt hx)).1).env hF2.env)
  have hF3 : FrS E s3 := hF2.trans (one12 c2)
  have b4 : DutyAt s3 13 (hdR (E 43) tm (L b) (L a)) := ⟨by rw [c2 13 (by decide)]; exact b3.1, by rw [c2 _ (by decide)]; exact b3.2⟩
  obtain ⟨s4, d1, d2, d3, d4⟩ := meas_ev (sg := s3) (d := 13) (l := hdR (E 43) tm (L b) (L a)) (by decide) (by omega) b4 (fun x hx => ((hC.2.2.1.1 x (rB.lt hx)).1).env hF3.env)
  have f12 : ∀ j, 2 ≤ j → j ≤ 8 → s4 12 j = ftS E (hdR (E 43) tm (L a) (L b)) j := fun j h2 h8 => by rw [d2 12 (by decide), c4 j h2 h8, hF2.env.ft]
  have f13 : ∀ j, 2 ≤ j → j ≤ 8 → s4 13 j = ftS E (hdR (E 43) tm (L b) (L a)) j := fun j h2 h8 => by rw [d4 j h2 h8, hF3.env.ft]
  refine ⟨s4, ?_, hF3.trans (one13 d2), ⟨by rw [d2 12 (by decide)]; exact c3.1, by rw [d2 _ (by decide)]; exact c3.2⟩, f12, d3, f13⟩
  unfold f_X5_tryExchange
  rw [dat_ev ha, bd_s, dat_ev hb, bd_s, a1, bd_s, dat_ev hb, bd_s, dat_ev ha, bd_s, b1, bd_s, c1, bd_s, d1, bd_s, f12 8 (by decide) (by decide), f13 8 (by decide) (by decide)]
  unfold f_X5_tryExchange_98 f_X5_tryExchange_99
  by_cases q1 : ftS E (hdR (E 43) tm (L a) (L b)) 8 = 0
  · rw [if_pos q1, if_pos q1]; rfl
  · rw [if_neg q1, if_neg q1]
    by_cases q2 : ftS E (hdR (E 43) tm (L b) (L a)) 8 = 0
    · rw [if_pos q2, if_pos q2]; rfl
    · rw [if_neg q2, if_neg q2]; rfl
theorem chg_ac (c d p q : Int32) : ((c + d) - p) - q = (((-p) - q) + c) + d := by
  simp only [Int32.sub_eq_add_neg]
  ac_rfl
/-- the reference tries an exchange -/
theorem canEx_ev {E s : dd_S} {T D V a b : Nat} {L : Nat → List Nat} (hC : CI E T D V L) (hM : MI E s T D V) (ha : a < 12) (hb : b < 12) (hab : a ≠ b) (tm : Int32) :
    ((Fxd E V (nI a) ∨ Fxd E V (nI b)) ∧ f_X6_canExchange s (nI a) (nI b) tm = some (0, s)) ∨
    ((¬ Fxd E V (nI a) ∧ ¬ Fxd E V (nI b)) ∧ ∃ s2, f_X6_canExchange s (nI a) (nI b) tm = some ((if ftS E (hdR (E 43) tm (L a) (L b)) 8 = 0 then 0 else if ftS E (hdR (E 43) tm (L b) (L a)) 8 = 0 then 0 else 1), s2) ∧ FrM s s2 ∧ s2 0 24 = ((ftS E (hdR (E 43) tm (L a) (L b)) 5 + ftS E (hdR (E 43) tm (L b) (L a)) 5) - E a 5) - E b 5) := by
  have hT := hC.1.1
  have hA := hC.2.2.2.2.2.1 a ha
  have hB := hC.2.2.2.2.2.1 b hb
  have rA := hd_row (tm := tm) hA.1 hB.1
  have rB := hd_row2 (tm := tm) hA.1 hB.1
  unfold f_X6_canExchange
  rcases fix_both (nI a) hC hM with ⟨-, g2, g3⟩ | ⟨-, g2, g3⟩
  · rw [g2, bd_s, if_neg (by decide)]
    exact Or.inl ⟨Or.inl g3, rfl⟩
  · rw [g2, bd_s, if_pos rfl]
    rcases fix_both (nI b) hC hM with ⟨-, k2, k3⟩ | ⟨-, k2, k3⟩
    · rw [k2, bd_s, if_neg (by decide)]
      exact Or.inl ⟨Or.inr k3, rfl⟩
    · refine Or.inr ⟨⟨g3, k3⟩, ?_⟩
      rw [k2, bd_s, if_pos rfl]
      obtain ⟨p1, a1, a2⟩ := mpay hC hM ha
      obtain ⟨p2, b1, b2⟩ := mpay hC (hM.fr a2) hb
      rw [a1, bd2_s, b1, bd2_s, lt_e]
      have hf1 : FrM s (st2 p2 0 24 ((-E a 5) - E b 5)) := (a2.trans b2).trans ⟨fun k h0 _ => st2_k _ _ _ _ h0, fun j hj => st2_j _ _ _ _ (by omega)⟩
      have hM1 := hM.fr hf1
      generalize hp3 : st2 p2 0 24 ((-E a 5) - E b 5) = p3 at hf1 hM1
      have h24 : p3 0 24 = (-E a 5) - E b 5 := by rw [← hp3]; exact st2_s _ _ _ _
      obtain ⟨x1, c1, c2, c3⟩ := xc_ev (s := p3) (a := nI a) (b := nI b) tm hT (nI_m1 (by omega)) (nI_m1 (by omega)) hM1.2.1.1
      have hdu : ∀ t, t < T → x1 6 t = xch (E 43) (E 34) (nI a) (nI b) tm 0 T t := fun t ht => by rw [c3, xch_lt ht, xch_lt ht, hM1.1.2.2.1, hM1.2.2.1 t ht]
      have hLx : LinkE E x1 := hM1.1.fr (fun k _ _ => c2 k (by omega)) (fun j _ _ => by rw [c2 0 (by decide)])
      obtain ⟨y1, d1, d2⟩ := look_ev (sM := x1) (du := x1 6) (d := nI a) hLx hT hC.2.2.1 (by rw [c2 0 (by decide)]; exact hM1.2.1.1) rfl (rA.congr hdu)
      rw [c1, bd_s, d1, bd2_s, lt_e]
      have hy24 : y1 0 24 = (-E a 5) - E b 5 := by rw [d2.2.1 24 (by omega), c2 0 (by decide)]; exact h24
      have hy20 : y1 0 20 = ftS E (hdR (E 43) tm (L a) (L b)) 5 := d2.2.2.2.1 5 (by decide) (by decide)
      rw [hy24, hy20]
      have hfy : (∀ k, k ≠ 0 → k ≠ 8 → st2 y1 0 24 (((-E a 5) - E b 5) + ftS E (hdR (E 43) tm (L a) (L b)) 5) k = x1 k) ∧ ∀ j, (j < 16 ∨ 24 < j) → st2 y1 0 24 (((-E a 5) - E b 5) + ftS E (hdR (E 43) tm (L a) (L b)) 5) 0 j = x1 0 j := ⟨fun k h0 h8 => by rw [st2_k _ _ _ _ h0, d2.1 k h0 h8], fun j hj => by rw [st2_j _ _ _ _ (by omega), d2.2.1 j (by omega)]⟩
      generalize hy2 : st2 y1 0 24 (((-E a 5) - E b 5) + ftS E (hdR (E 43) tm (L a) (L b)) 5) = y2 at hfy
      have hy2b : y2 0 24 = ((-E a 5) - E b 5) + ftS E (hdR (E 43) tm (L a) (L b)) 5 := by rw [← hy2]; exact st2_s _ _ _ _
      obtain ⟨z1, e1, e2⟩ := look_ev (sM := y2) (du := x1 6) (d := nI b) (hLx.fr (fun k _ _ => hfy.1 k (by omega) (by omega)) (fun j _ _ => hfy.2 j (by omega))) hT hC.2.2.1 (by rw [hfy.2 2 (by omega), c2 0 (by decide)]; exact hM1.2.1.1) (hfy.1 6 (by decide) (by decide)) (rB.congr hdu)
      rw [e1, bd2_s]
      have hz24 : z1 0 24 = ((-E a 5) - E b 5) + ftS E (hdR (E 43) tm (L a) (L b)) 5 := by rw [e2.2.1 24 (by omega)]; exact hy2b
      have hz20 : z1 0 20 = ftS E (hdR (E 43) tm (L b) (L a)) 5 := e2.2.2.2.1 5 (by decide) (by decide)
      have hend : ∀ v : Int32, bz v = true → ∃ s2, f_X6_canExchange_79 (nI a) (nI b) tm z1 v = some (v, s2) ∧ FrM s s2 ∧ s2 0 24 = ((ftS E (hdR (E 43) tm (L a) (L b)) 5 + ftS E (hdR (E 43) tm (L b) (L a)) 5) - E a 5) - E b 5 := fun v hv => by
        unfold f_X6_canExchange_79
        rw [lt_e, hz24, hz20]
        have hkz : ∀ k, k ≠ 0 → k ≠ 8 → st2 z1 0 24 ((((-E a 5) - E b 5) + ftS E (hdR (E 43) tm (L a) (L b)) 5) + ftS E (hdR (E 43) tm (L b) (L a)) 5) k = x1 k := fun k h0 h8 => by rw [st2_k _ _ _ _ h0, e2.1 k h0 h8, hfy.1 k h0 h8]
        have hjz : ∀ j, j < 16 → st2 z1 0 24 ((((-E a 5) - E b 5) + ftS E (hdR (E 43) tm (L a) (L b)) 5) + ftS E (hdR (E 43) tm (L b) (L a)) 5) 0 j = x1 0 j := fun j hj => by rw [st2_j _ _ _ _ (by omega), e2.2.1 j (by omega), hfy.2 j (by omega)]
        obtain ⟨w, w1, w2, w3⟩ := xc_ev (s := st2 z1 0 24 ((((-E a 5) - E b 5) + ftS E (hdR (E 43) tm (L a) (L b)) 5) + ftS E (hdR (E 43) tm (L b) (L a)) 5)) (a := nI a) (b := nI b) tm hT (nI_m1 (by omega)) (nI_m1 (by omega)) (by rw [hjz 2 (by omega), c2 0 (by decide)]; exact hM1.2.1.1)
        rw [w1, bd_s, gd_p hv]
        refine ⟨w, rfl, hf1.trans ⟨fun k h0 h8 => ?_, fun j hj => ?_⟩, ?_⟩
        · by_cases e6 : k = 6
          · subst e6
            funext t
            rw [w3, hkz 4 (by decide) (by decide), hkz 6 (by decide) (by decide), c2 4 (by decide)]
            by_cases ht : t < T
            · rw [xch_lt ht, c3, xch_lt ht]
              by_cases c : p3 4 t < tm
              · rw [if_pos c, if_pos c]
              · rw [if_neg c, if_neg c, swp_swp]
            · rw [xch_ge (by omega), c3, xch_ge (by omega)]
          · rw [w2 k e6, hkz k h0 h8, c2 k e6]
        · rw [w2 0 (by decide), hjz j (by omega), c2 0 (by decide)]
        · rw [w2 0 (by decide), st2_s, chg_ac]
      unfold f_X6_canExchange_78
      by_cases q2 : ftS E (hdR (E 43) tm (L b) (L a)) 8 = 0
      · rw [if_pos q2, if_pos q2]
        have : (if ftS E (hdR (E 43) tm (L a) (L b)) 8 = 0 then (0 : Int32) else 0) = 0 := by split <;> rfl
        rw [this]
        exact hend 0 bz_0
      · rw [if_neg q2, if_neg q2]
        by_cases q1 : ftS E (hdR (E 43) tm (L a) (L b)) 8 = 0
        · rw [if_pos q1, if_pos q1]
          exact hend 0 bz_0
        · rw [if_neg q1, if_neg q1]
          exact hend 1 bz_1
