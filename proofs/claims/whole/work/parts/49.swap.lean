/-! an exchange is kept; swap -/
theorem at_loop {d : Nat} {l : List Nat} (hl : l.length ≤ 40) (hl40 : ∀ x ∈ l, x < 40) : ∀ (rest pre : List Nat) (n : Nat) (s : dd_S), l = pre ++ rest → rest.length < n → d < 12 → DutyAt s d l → ∃ s2, f_X5_assignTripsOf_8 (nI d) n s d (nI pre.length) = some s2 ∧ (∀ k, k ≠ 34 → s2 k = s k) ∧ ∀ t, s2 34 t = if t ∈ rest then nI d else s 34 t := by
  intro rest
  induction rest with
  | nil =>
    intro pre n s hl2 hn hd hD
    obtain ⟨n, rfl⟩ : ∃ m, n = m + 1 := ⟨n - 1, by simp at hn; omega⟩
    rw [List.append_nil] at hl2
    subst hl2
    unfold f_X5_assignTripsOf_8
    rw [hD.1, if_pos ((nI_le_iff (by omega) (by omega)).mpr (Nat.le_refl _))]
    exact ⟨s, rfl, fun _ _ => rfl, fun t => by rw [if_neg List.not_mem_nil]⟩
  | cons x r ih =>
    intro pre n s hl2 hn hd hD
    obtain ⟨n, rfl⟩ : ∃ m, n = m + 1 := ⟨n - 1, by simp at hn; omega⟩
    have hlen : l.length = pre.length + (r.length + 1) := by rw [hl2]; simp
    have hx : x < 40 := hl40 x (by rw [hl2]; simp)
    have hgt : l[pre.length]'(by omega) = x := by simp [hl2]
    have htin : f_X0_tripIn s d (nI pre.length) = some (nI x) := by rw [tin_duty hD (by omega) hl, hgt]
    unfold f_X5_assignTripsOf_8
    rw [hD.1, if_neg (nI_ge (by omega) (by omega)), htin, bd_s, asg_ev hx, bd_s, lt_e, nI_inc]
    obtain ⟨s2, b1, b2, b3⟩ := ih (pre ++ [x]) n (st2 s 34 x (nI d)) (by rw [hl2]; simp) (by simp at hn; omega) hd ⟨by rw [st2_k _ _ _ _ (show d ≠ 34 by omega)]; exact hD.1, by rw [st2_k _ _ _ _ (show 15 + d ≠ 34 by omega)]; exact hD.2⟩
    rw [List.length_append, List.length_singleton] at b1
    refine ⟨s2, b1, fun k hk => by rw [b2 k hk, st2_k _ _ _ _ hk], fun t => ?_⟩
    rw [b3, st2_at, if_pos rfl]
    by_cases e : t ∈ r
    · rw [if_pos e, if_pos (List.mem_cons_of_mem _ e)]
    · rw [if_neg e]
      by_cases e2 : t = x
      · rw [if_pos e2, if_pos (by rw [e2]; exact List.mem_cons_self)]
      · rw [if_neg e2, if_neg (fun h => by
          rcases List.mem_cons.mp h with q | q
          · exact e2 q
          · exact e q)]
theorem at_ev {s : dd_S} {d : Nat} {l : List Nat} (hd : d < 12) (hl : l.length ≤ 40) (hl40 : ∀ x ∈ l, x < 40) (hD : DutyAt s d l) : ∃ s2, f_X5_assignTripsOf s (nI d) = some s2 ∧ (∀ k, k ≠ 34 → s2 k = s k) ∧ ∀ t, s2 34 t = if t ∈ l then nI d else s 34 t := by
  obtain ⟨s2, h1, h2, h3⟩ := at_loop hl hl40 l [] 64 s rfl (by omega) hd hD
  refine ⟨s2, ?_, h2, h3⟩
  unfold f_X5_assignTripsOf
  rw [dat_ev hd, bd_s]
  exact h1
theorem keepEx_ev {E s1 : dd_S} {T D V a b : Nat} {L : Nat → List Nat} (hC : CI E T D V L) (ha : a < D) (hb : b < D) (hab : a ≠ b) {tm : Int32} (hf : FrS E s1) (hDA : DutyAt s1 12 (hdR (E 43) tm (L a) (L b))) (hfa : ∀ j, 2 ≤ j → j ≤ 8 → s1 12 j = ftS E (hdR (E 43) tm (L a) (L b)) j) (hDB : DutyAt s1 13 (hdR (E 43) tm (L b) (L a))) (hfb : ∀ j, 2 ≤ j → j ≤ 8 → s1 13 j = ftS E (hdR (E 43) tm (L b) (L a)) j) :
    ∃ s2, f_X5_keepExchange s1 (nI a) (nI b) = some s2 ∧ (∀ k, ¬ Scr k → k ≠ a → k ≠ 15 + a → k ≠ b → k ≠ 15 + b → k ≠ 34 → s2 k = E k) ∧ (∀ k, 27 ≤ k → k ≠ 34 → s2 k = s1 k) ∧ s2 34 = xch (E 43) (E 34) (nI a) (nI b) tm 0 T ∧ CI s2 T D V (fun e => if e = a then hdR (E 43) tm (L a) (L b) else if e = b then hdR (E 43) tm (L b) (L a) else L e) := by
  have hT := hC.1.1
  have hD := hC.1.2.1
  have hA := hC.2.2.2.2.2.1 a (by omega)
  have hB := hC.2.2.2.2.2.1 b (by omega)
  have rA := hd_row (tm := tm) hA.1 hB.1
  have rB := hd_row2 (tm := tm) hA.1 hB.1
  have lA := rA.len
  have lB := rB.len
  have hA40 : ∀ x ∈ hdR (E 43) tm (L a) (L b), x < 40 := fun x hx => by have := rA.lt hx; omega
  have hB40 : ∀ x ∈ hdR (E 43) tm (L b) (L a), x < 40 := fun x hx => by have := rB.lt hx; omega
  generalize hla : hdR (E 43) tm (L a) (L b) = la at *
  generalize hlb : hdR (E 43) tm (L b) (L a) = lb at *
  obtain ⟨s2, a1, a2, a3, a4⟩ := copy_ev (sg := s1) (d := a) (d2 := 12) (by omega) (by decide) (by omega) (by omega) hDA (by rw [hfa 8 (by decide) (by decide)]; exact ft8)
  have h13 : s2 13 = s1 13 := a2 13 (by omega) (by omega)
  obtain ⟨s3, b1, b2, b3, b4⟩ := copy_ev (sg := s2) (d := b) (d2 := 13) (by omega) (by decide) (by omega) (by omega) (hDB.fr a2 (by omega) (by omega) (by omega)) (by rw [h13, hfb 8 (by decide) (by decide)]; exact ft8)
  obtain ⟨s4, c1, c2, c3⟩ := at_ev (s := s3) (d := a) (by omega) (by omega) hA40 (a3.fr b2 (by omega) (by omega) (by omega))
  obtain ⟨s5, d1, d2, d3⟩ := at_ev (s := s4) (d := b) (l := lb) (by omega) (by omega) hB40 ⟨by rw [c2 b (by omega)]; exact b3.1, by rw [c2 _ (by omega)]; exact b3.2⟩
  have hk : ∀ k, ¬ Scr k → k ≠ a → k ≠ 15 + a → k ≠ b → k ≠ 15 + b → k ≠ 34 → s5 k = E k := fun k h0 h1 h2 h3 h4 h5 => by rw [d2 k h5, c2 k h5, b2 k h3 h4, a2 k h1 h2, hf k h0]
  have h34a : s3 34 = E 34 := by rw [b2 34 (by omega) (by omega), a2 34 (by omega) (by omega), hf 34 (by unfold Scr; omega)]
  have h34 : s5 34 = xch (E 43) (E 34) (nI a) (nI b) tm 0 T := by
    funext t
    rw [d3, c3, h34a]
    by_cases e1 : t ∈ lb
    · rw [if_pos e1]; exact ((rB.2 t).mp e1).2.symm
    · rw [if_neg e1]
      by_cases e2 : t ∈ la
      · rw [if_pos e2]; exact ((rA.2 t).mp e2).2.symm
      · rw [if_neg e2]
        by_cases ht : t < T
        · have n1 : xch (E 43) (E 34) (nI a) (nI b) tm 0 T t ≠ nI a := fun h => e2 ((rA.2 t).mpr ⟨ht, h⟩)
          have n2 : xch (E 43) (E 34) (nI a) (nI b) tm 0 T t ≠ nI b := fun h => e1 ((rB.2 t).mpr ⟨ht, h⟩)
          rw [xch_lt ht] at n1 n2 ⊢
          by_cases c : E 43 t < tm
          · rw [if_pos c]
          · rw [if_neg c] at n1 n2 ⊢
            rw [swp_o (fun h => n2 (by rw [h, swp_a])) (fun h => n1 (by rw [h, swp_b]))]
        · rw [xch_ge (by omega)]
  refine ⟨s5, ?_, hk, fun k h1 h2 => by rw [d2 k h2, c2 k h2, b2 k (by omega) (by omega), a2 k (by omega) (by omega)], h34, ?_⟩
  · unfold f_X5_keepExchange
    rw [dat_ev (by omega), bd_s, a1, bd_s, dat_ev (by omega), bd_s, b1, bd_s, c1, bd_s, d1, bd_s]
  · have hg : ∀ k, ¬ Scr k → 14 ≤ k → (k < 15 ∨ 27 ≤ k) → k ≠ 34 → s5 k = E k := fun k h0 h1 h2 h3 => hk k h0 (by omega) (by omega) (by omega) (by omega) h3
    refine hC.new (fun k hk => hg k (by unfold Scr; omega) (by omega) (by omega) (by omega)) (hg 31 (by unfold Scr; omega) (by omega) (by omega) (by omega)) (hg 14 (by unfold Scr; omega) (by omega) (by omega) (by omega)) (by rw [hg 30 (by unfold Scr; omega) (by omega) (by omega) (by omega)]; exact hC.2.1.2.1) (by rw [hg 30 (by unfold Scr; omega) (by omega) (by omega) (by omega)]; exact hC.2.1.2.2) (fun v hv => hg (45 + v) (by unfold Scr; omega) (by omega) (by omega) (by omega)) (Nat.le_refl _) hD (fun t ht => ?_) (fun e he => ?_)
    · rw [d3, c3, h34a]
      by_cases e1 : t ∈ lb
      · rw [if_pos e1]; exact Or.inr ⟨rB.lt e1, b, hb, rfl⟩
      · rw [if_neg e1]
        by_cases e2 : t ∈ la
        · rw [if_pos e2]; exact Or.inr ⟨rA.lt e2, a, ha, rfl⟩
        · rw [if_neg e2]; exact hC.2.2.2.2.1 t ht
    · rw [h34]
      by_cases ea : e = a
      · subst ea
        rw [if_pos rfl]
        have hD3 : DutyAt s3 e la := a3.fr b2 (by omega) (by omega) (by omega)
        exact ⟨rA, ⟨by rw [d2 e (by omega), c2 e (by omega)]; exact hD3.1, by rw [d2 _ (by omega), c2 _ (by omega)]; exact hD3.2⟩, fun j h2 h8 => by rw [d2 e (by omega), c2 e (by omega), b2 e (by omega) (by omega), a4 j h2 h8, hfa j h2 h8]⟩
      · rw [if_neg ea]
        by_cases eb : e = b
        · subst eb
          rw [if_pos rfl]
          exact ⟨rB, ⟨by rw [d2 e (by omega), c2 e (by omega)]; exact b3.1, by rw [d2 _ (by omega), c2 _ (by omega)]; exact b3.2⟩, fun j h2 h8 => by rw [d2 e (by omega), c2 e (by omega), b4 j h2 h8, h13, hfb j h2 h8]⟩
        · rw [if_neg eb]
          obtain ⟨o1, o2, o3⟩ := hC.2.2.2.2.2.1 e he
          have hke : s5 e = E e := hk e (by unfold Scr; omega) ea (by omega) eb (by omega) (by omega)
          refine ⟨⟨o1.1, fun t => (o1.2 t).trans ?_⟩, ⟨by rw [hke]; exact o2.1, by rw [hk (15 + e) (by unfold Scr; omega) (by omega) (by omega) (by omega) (by omega) (by omega)]; exact o2.2⟩, fun j h2 h8 => by rw [hke]; exact o3 j h2 h8⟩
          constructor
          · rintro ⟨h1, h2⟩
            refine ⟨h1, ?_⟩
            rw [xch_lt h1, h2]
            split
            · rfl
            · exact swp_o (fun h => ea (nI_inj (by omega) (by omega) h)) (fun h => eb (nI_inj (by omega) (by omega) h))
          · rintro ⟨h1, h2⟩
            refine ⟨h1, ?_⟩
            rw [xch_lt h1] at h2
            by_cases c : E 43 t < tm
            · rw [if_pos c] at h2; exact h2
            · rw [if_neg c] at h2
              rw [swp_iff.mp h2]
              exact swp_o (fun h => ea (nI_inj (by omega) (by omega) h)) (fun h => eb (nI_inj (by omega) (by omega) h))
/-- the exchange is made, on both sides -/
theorem doEx_both {E s s1 : dd_S} {T D V a b : Nat} {L : Nat → List Nat} (hC : CI E T D V L) (hM : MI E s T D V) (ha : a < D) (hb : b < D) (hab : a ≠ b) {tm : Int32} (hf : FrS E s1) (hDA : DutyAt s1 12 (hdR (E 43) tm (L a) (L b))) (hfa : ∀ j, 2 ≤ j → j ≤ 8 → s1 12 j = ftS E (hdR (E 43) tm (L a) (L b)) j) (hDB : DutyAt s1 13 (hdR (E 43) tm (L b) (L a))) (hfb : ∀ j, 2 ≤ j → j ≤ 8 → s1 13 j = ftS E (hdR (E 43) tm (L b) (L a)) j) :
    ∃ s2 m2 L2, f_X5_keepExchange s1 (nI a) (nI b) = some s2 ∧ (∀ k, 27 ≤ k → k ≠ 34 → s2 k = s1 k) ∧ f_X6_exchange s (nI a) (nI b) tm = some m2 ∧ (∀ k, k ≠ 6 → m2 k = s k) ∧ CI s2 T D V L2 ∧ MI s2 m2 T D V := by
  have hT := hC.1.1
  have hD := hC.1.2.1
  obtain ⟨s2, a1, a2, a5, a3, a4⟩ := keepEx_ev hC ha hb hab hf hDA hfa hDB hfb
  obtain ⟨m2, b1, b2, b3⟩ := xc_ev (s := s) (a := nI a) (b := nI b) tm hT (nI_m1 (by omega)) (nI_m1 (by omega)) hM.2.1.1
  have hg : ∀ k, ¬ Scr k → 14 ≤ k → (k < 15 ∨ 27 ≤ k) → k ≠ 34 → s2 k = E k := fun k h0 h1 h2 h3 => a2 k h0 (by omega) (by omega) (by omega) (by omega) h3
  refine ⟨s2, m2, _, a1, a5, b1, b2, a4, hM.new (fun k hk => hg k (by unfold Scr; omega) (by omega) (by omega) (by omega)) (fun v hv => hg (45 + v) (by unfold Scr; omega) (by omega) (by omega) (by omega)) (fun k _ _ => b2 k (by omega)) (b2 7 (by decide)) (fun j _ => by rw [b2 0 (by decide)]) (by rw [b2 0 (by decide)]; exact hM.2.1.2.1) (fun t ht => ?_)⟩
  rw [b3, a3, xch_lt ht, xch_lt ht, hM.1.2.2.1, hM.2.2.1 t ht]
theorem po_swap : PO_swap Inv := by
  intro sC sM a b c ⟨T, D, V, L, hC, hM⟩
  have hD := hC.1.2.1
  have hM0 := hM.thrown (v := 0)
  have e00 : st2 sM 0 0 0 0 0 = 0 := st2_s _ _ _ _
  have hno : ∃ (k0 : Nat) (r0 : Int32) (sC2 : dd_S) (bb : Int32) (sM2 : dd_S), f_X5_swap_16 a b c sC = some (k0, r0, sC2) ∧ (k0 = 0 ∨ k0 = 1 ∨ k0 = 2 ∨ k0 = 3) ∧ f_X6_swap_21 a b c (st2 sM 0 0 0) = some (bb, sM2) ∧ sM2 0 0 = (if k0 = 0 then 0 else if k0 = 1 then 1 else if k0 = 2 then 2 else 3) ∧ (k0 = 0 → r0 = bb) ∧ Inv sC2 sM2 := ⟨1, 0, sC, 0, st2 (st2 sM 0 0 0) 0 0 1, rfl, Or.inr (Or.inl rfl), rfl, st2_s _ _ _ _, (fun h => absurd h (by decide)), Inv.mk2 hC hM0.thrown⟩
  have hthree : ∀ s1 s2 : dd_S, FrS sC s1 → FrM (st2 sM 0 0 0) s2 → ∃ (k0 : Nat) (r0 : Int32) (sC2 : dd_S) (bb : Int32) (sM2 : dd_S), f_X5_swap_67 a b c s1 = some (k0, r0, sC2) ∧ (k0 = 0 ∨ k0 = 1 ∨ k0 = 2 ∨ k0 = 3) ∧ bd2 (f_X6_no s2 (3 : Int32)) (fun (r18 : Int32) (sg17 : dd_S) => some (r18, sg17)) = some (bb, sM2) ∧ sM2 0 0 = (if k0 = 0 then 0 else if k0 = 1 then 1 else if k0 = 2 then 2 else 3) ∧ (k0 = 0 → r0 = bb) ∧ Inv sC2 sM2 := fun s1 s2 h1 h2 => ⟨3, 0, s1, 0, st2 s2 0 0 3, rfl, Or.inr (Or.inr (Or.inr rfl)), rfl, st2_s _ _ _ _, (fun h => absurd h (by decide)), Inv.mk2 (hC.fr h1) ((hM0.fr h2).frC h1).thrown⟩
  unfold f_X5_swap f_X6_swap
  rw [lt_e, cDuty hC.2.1.2.1, bd_s, mDuty hM0.2.1.2.1 (by omega), bd_s]
  rcases rng_d a D (by omega) with ⟨h1, -, -⟩ | ⟨h1, -, -, d, hd, rfl⟩
  · rw [h1, if_pos rfl, if_pos rfl]; exact hno
  · rw [h1, if_neg (show ¬ (1 : Int32) = 0 by decide), if_neg (show ¬ (1 : Int32) = 0 by decide), cDuty hC.2.1.2.1, bd_s, mDuty hM0.2.1.2.1 (by omega), bd_s]
    rcases rng_d b D (by omega) with ⟨g1, -, -⟩ | ⟨g1, -, -, e, he, rfl⟩
    · rw [g1, if_pos rfl, if_pos rfl]; exact hno
    · rw [g1, if_neg (show ¬ (1 : Int32) = 0 by decide), if_neg (show ¬ (1 : Int32) = 0 by decide)]
      by_cases hde : d = e
      · rw [if_pos (by rw [hde]), if_pos (by rw [hde]), no_ev, bd2_s]
        exact ⟨2, 0, sC, 0, st2 (st2 sM 0 0 0) 0 0 2, rfl, Or.inr (Or.inr (Or.inl rfl)), rfl, st2_s _ _ _ _, (fun h => absurd h (by decide)), Inv.mk2 hC hM0.thrown⟩
      · have hne : ¬ nI d = nI e := fun h => hde (nI_inj (by omega) (by omega) h)
        rw [if_neg hne, if_neg hne]
        rcases canEx_ev hC hM0 (show d < 12 by omega) (show e < 12 by omega) hde c with ⟨hF, m1⟩ | ⟨⟨f1, f2⟩, m2, m3, m4, m5⟩
        · rw [m1, bd2_s, if_pos rfl]
          rcases fix_both (nI d) hC hM0 with ⟨q1, -, -⟩ | ⟨q1, -, q3⟩
          · rw [q1, bd_s, if_neg (show ¬ (1 : Int32) = 0 by decide)]
            exact hthree sC _ FrS.refl FrM.refl
          · rcases fix_both (nI e) hC hM0 with ⟨p1, -, -⟩ | ⟨-, -, p3⟩
            · rw [q1, bd_s, if_pos rfl, p1, bd_s, if_neg (show ¬ (1 : Int32) = 0 by decide)]
              exact hthree sC _ FrS.refl FrM.refl
            · rcases hF with hF | hF
              · exact absurd hF q3
              · exact absurd hF p3
        · have q1 : f_X5_isFixed sC (nI d) = some 0 := by
            rcases fix_both (nI d) hC hM0 with ⟨-, -, q⟩ | ⟨q, -, -⟩
            · exact absurd q f1
            · exact q
          have q2 : f_X5_isFixed sC (nI e) = some 0 := by
            rcases fix_both (nI e) hC hM0 with ⟨-, -, q⟩ | ⟨q, -, -⟩
            · exact absurd q f2
            · exact q
          obtain ⟨s1, t1, t2, t3, t4, t5, t6⟩ := tryEx_ev hC (show d < 12 by omega) (show e < 12 by omega) hde c
          rw [q1, bd_s, if_pos rfl, q2, bd_s, if_pos rfl, t1, bd2_s, m3, bd2_s]
          generalize hv : (if ftS sC (hdR (sC 43) c (L d) (L e)) 8 = 0 then (0 : Int32) else if ftS sC (hdR (sC 43) c (L e) (L d)) 8 = 0 then 0 else 1) = v
          by_cases c0 : v = 0
          · rw [if_pos c0, if_pos c0]
            exact hthree s1 m2 t2 m4
          · rw [if_neg c0, if_neg c0]
            obtain ⟨s3, m6, L2, k1, -, k3, k4, k5, k6⟩ := doEx_both hC (hM0.fr m4) hd he hde t2 t3 t4 t5 t6
            have hch : f_X5_changeOfPay s1 (nI d) (nI e) = some (m2 0 24) := by
              unfold f_X5_changeOfPay
              rw [dat_ev (by omega), bd_s, dat_ev (by omega), bd_s, t4 5 (by decide) (by decide), t6 5 (by decide) (by decide), t2 d (by unfold Scr; omega), t2 e (by unfold Scr; omega), m5]
            rw [hch, bd_s, k1, bd_s, k3, bd_s, k4 0 (by decide)]
            exact ⟨0, _, s3, _, m6, rfl, Or.inl rfl, rfl, by rw [k4 0 (by decide), m4.2 0 (Or.inl rfl)]; exact e00, fun _ => rfl, Inv.mk2 k5 k6⟩
