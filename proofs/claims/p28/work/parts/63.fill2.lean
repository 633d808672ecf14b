/-! P28: the roster -/
def RO (E : dd_S) (V : Nat) : Prop :=
  (∀ u v k, u < 8 → v < 8 → u ≠ v → k < 7 → E (45 + u) k = E (45 + v) k → E (45 + u) k = -1) ∧
  (∀ v, v < 8 → ∀ j, j < 2 → ∃ i, i < 6 ∧ E (45 + v) (j + i) = -1) ∧
  (∀ v k d1 d2, v < 8 → k + 1 < 7 → d1 < 12 → d2 < 12 → E (45 + v) k = nI d1 → E (45 + v) (k + 1) = nI d2 → (660 : Int32) ≤ (E d2 2 + 1440) - E d1 3) ∧
  (∀ v, v < 8 → wkS E v 7 ≤ 2880) ∧
  (∀ v k, V ≤ v → v < 8 → k < 7 → E (45 + v) k = -1)
/-- the roster's rows and what is measured of the duties in them stay -/
theorem RO.same {E E2 : dd_S} {T D V : Nat} {L : Nat → List Nat} (hC : CI E T D V L) (hr : ∀ v, v < 8 → E2 (45 + v) = E (45 + v)) (hd : ∀ d, d < 12 → Fxd E V (nI d) → E2 d = E d) (h : RO E V) : RO E2 V := by
  have hD := hC.1.2.1
  obtain ⟨h1, h2, h3, h4, h5⟩ := h
  have hfx : ∀ v k d, v < 8 → k < 7 → d < 12 → E (45 + v) k = nI d → E2 d = E d := fun v k d hv hk hd12 e => hd d hd12 (by
    refine ⟨k, hk, v, ?_, e⟩
    rcases Nat.lt_or_ge v V with q | q
    · exact q
    · have := h5 v k q hv hk
      rw [e] at this
      exact absurd this (nI_m1 (by omega)))
  refine ⟨fun u v k hu hv huv hk => by rw [hr u hu, hr v hv]; exact h1 u v k hu hv huv hk, fun v hv j hj => by rw [hr v hv]; exact h2 v hv j hj, fun v k d1 d2 hv hk q1 q2 e1 e2 => ?_, fun v hv => ?_, fun v k q hv hk => by rw [hr v hv]; exact h5 v k q hv hk⟩
  · rw [hr v hv] at e1 e2
    rw [hfx v k d1 hv (by omega) q1 e1, hfx v (k + 1) d2 hv hk q2 e2]
    exact h3 v k d1 d2 hv hk q1 q2 e1 e2
  · have : wkS E2 v 7 = wkS E v 7 := sN_congr 7 (fun k hk => by
      rw [hr v hv]
      rcases hC.2.2.2.1 v k hv hk with e | ⟨d, hd2, e⟩
      · rw [e]; rfl
      · rw [e, pyA_d _ (by omega), pyA_d _ (by omega), hfx v k d hv hk (by omega) e])
    rw [this]; exact h4 v hv
theorem win_dec : ∀ b0 b1 b2 b3 b4 b5 b6 : Bool, ∀ k, k < 7 → ∀ j, j < 2 → (decide (upF (bitF b0 b1 b2 b3 b4 b5 b6) (6 - k) k - dnF (bitF b0 b1 b2 b3 b4 b5 b6) k + 1 < 6) && decide (j ≤ k) && decide (k < j + 6)) = true → (List.range 6).any (fun i => decide (j + i ≠ k) && !(bitF b0 b1 b2 b3 b4 b5 b6 (j + i))) = true := by decide +kernel
/-- the days in a row: where they are less than six, each six days that hold this day have another free one -/
theorem day_ev {E : dd_S} {v k : Nat} (hv : v < 8) (hk : k < 7) : ∃ x, f_X5_daysInARow E (nI v) (nI k) = some x ∧ (x < 6 → ∀ j, j < 2 → j ≤ k → k < j + 6 → ∃ i, i < 6 ∧ j + i ≠ k ∧ E (45 + v) (j + i) = -1) := by
  have hp : ∀ j, j < 7 → bitF (decide (E (45 + v) 0 ≠ -1)) (decide (E (45 + v) 1 ≠ -1)) (decide (E (45 + v) 2 ≠ -1)) (decide (E (45 + v) 3 ≠ -1)) (decide (E (45 + v) 4 ≠ -1)) (decide (E (45 + v) 5 ≠ -1)) (decide (E (45 + v) 6 ≠ -1)) j = decide (E (45 + v) j ≠ -1) := fun j hj => by
    rcases (show j = 0 ∨ j = 1 ∨ j = 2 ∨ j = 3 ∨ j = 4 ∨ j = 5 ∨ j = 6 by omega) with rfl | rfl | rfl | rfl | rfl | rfl | rfl <;> rfl
  have hd := win_dec (decide (E (45 + v) 0 ≠ -1)) (decide (E (45 + v) 1 ≠ -1)) (decide (E (45 + v) 2 ≠ -1)) (decide (E (45 + v) 3 ≠ -1)) (decide (E (45 + v) 4 ≠ -1)) (decide (E (45 + v) 5 ≠ -1)) (decide (E (45 + v) 6 ≠ -1)) k hk
  generalize hb : bitF (decide (E (45 + v) 0 ≠ -1)) (decide (E (45 + v) 1 ≠ -1)) (decide (E (45 + v) 2 ≠ -1)) (decide (E (45 + v) 3 ≠ -1)) (decide (E (45 + v) 4 ≠ -1)) (decide (E (45 + v) 5 ≠ -1)) (decide (E (45 + v) 6 ≠ -1)) = p at hp hd
  have h1 := cd_loop hv hk hp k 64 (Nat.le_refl _) (by omega)
  have b1 := dnF_le p k
  have b2 := upF_ge p (6 - k) k
  refine ⟨_, h1, fun hx j hj hjk hkj => ?_⟩
  have e1 : nI (upF p (6 - k) k) - nI (dnF p k) = nI (upF p (6 - k) k - dnF p k) := by
    apply Int32.toInt_inj.mp
    rw [i32_sub (by rw [nI_toInt (by omega), nI_toInt (by omega)]; omega) (by rw [nI_toInt (by omega), nI_toInt (by omega)]; omega), nI_toInt (by omega), nI_toInt (by omega), nI_toInt (by omega)]
    omega
  rw [e1, nI_inc, show (6 : Int32) = nI 6 from rfl, nI_lt_iff (by omega) (by omega)] at hx
  have h3 := hd j hj (by simp [hx, hjk, hkj])
  obtain ⟨i, hi, h4⟩ := List.any_eq_true.mp h3
  have hi6 := List.mem_range.mp hi
  rw [Bool.and_eq_true, Bool.not_eq_true'] at h4
  refine ⟨i, hi6, of_decide_eq_true h4.1, ?_⟩
  have h5 := hp (j + i) (by omega)
  rw [h4.2] at h5
  have h6 := of_decide_eq_false h5.symm
  exact Decidable.not_not.mp h6
/-- the rest on both sides -/
def RsOk (E : dd_S) (v k d : Nat) : Prop := (∀ d1, d1 < 12 → 0 < k → E (45 + v) (k - 1) = nI d1 → E 32 3 ≤ (E d 2 + 1440) - E d1 3) ∧ ∀ d2, d2 < 12 → k + 1 < 7 → E (45 + v) (k + 1) = nI d2 → E 32 3 ≤ (E d2 2 + 1440) - E d 3
theorem rst_ev {E : dd_S} {T D V v k d : Nat} {L : Nat → List Nat} (hC : CI E T D V L) (hv : v < 8) (hd : d < 12) (hk : k < 7) : ∃ r, f_X5_hasRest E (nI v) (nI k) (nI d) = some r ∧ (r ≠ 0 → RsOk E v k d) := by
  have hD := hC.1.2.1
  have h35 : (∀ d1, d1 < 12 → 0 < k → E (45 + v) (k - 1) = nI d1 → E 32 3 ≤ (E d 2 + 1440) - E d1 3) → ∃ r, f_X5_hasRest_35 E (nI v) (nI k) (nI d) = some r ∧ (r ≠ 0 → RsOk E v k d) := fun hb => by
    unfold f_X5_hasRest_35
    rw [nI_inc]
    by_cases c6 : k + 1 < 7
    · rw [don_ev hv c6, bd_s]
      rcases hC.2.2.2.1 v (k + 1) hv c6 with e | ⟨d2, hd2, e⟩
      · rw [e, if_pos rfl]
        exact ⟨1, rfl, fun _ => ⟨hb, fun q _ _ h => by rw [e] at h; exact absurd h.symm (nI_m1 (by omega))⟩⟩
      · rw [e, if_neg (nI_m1 (by omega)), cbetw hd (by omega), bd_s]
        by_cases c : (E d2 2 + 1440) - E d 3 < E 32 3
        · rw [if_pos c]
          exact ⟨0, rfl, fun h => absurd rfl h⟩
        · rw [if_neg c]
          refine ⟨1, rfl, fun _ => ⟨hb, fun q hq _ h => ?_⟩⟩
          rw [e] at h
          have := nI_inj (by omega) (by omega) h
          subst this
          exact i32_nlt.mp c
    · have e7 : k + 1 = 7 := by omega
      rw [e7, don_out (show rng (nI 7) 7 = 0 by decide), bd_s, if_pos rfl]
      exact ⟨1, rfl, fun _ => ⟨hb, fun q _ h => absurd h c6⟩⟩
  unfold f_X5_hasRest
  cases k with
  | zero =>
    rw [show nI 0 - 1 = (-1 : Int32) by decide, don_out (show rng (-1) 7 = 0 by decide), bd_s, if_pos rfl]
    exact h35 (fun q _ h => absurd h (by omega))
  | succ k =>
    rw [nI_sub1 (by omega), Nat.add_sub_cancel, don_ev hv (by omega), bd_s]
    rcases hC.2.2.2.1 v k hv (by omega) with e | ⟨d2, hd2, e⟩
    · rw [e, if_pos rfl]
      exact h35 (fun q _ _ h => by rw [Nat.add_sub_cancel, e] at h; exact absurd h.symm (nI_m1 (by omega)))
    · rw [e, if_neg (nI_m1 (by omega)), cbetw (by omega) hd, bd_s]
      by_cases c : E 32 3 ≤ (E d 2 + 1440) - E d2 3
      · rw [if_pos c]
        exact h35 (fun q hq _ h => by
          rw [Nat.add_sub_cancel, e] at h
          have := nI_inj (by omega) (by omega) h
          subst this
          exact c)
      · rw [if_neg c]
        exact ⟨0, rfl, fun h => absurd rfl h⟩
/-- what holds where a duty may be given -/
def MayG (E : dd_S) (V v k d : Nat) : Prop := ¬ HdOn E V (nI d) k ∧ E (45 + v) k = -1 ∧ (∀ j, j < 2 → j ≤ k → k < j + 6 → ∃ i, i < 6 ∧ j + i ≠ k ∧ E (45 + v) (j + i) = -1) ∧ wkS E v 7 + E d 5 ≤ 2880 ∧ RsOk E v k d
theorem why_ev {E : dd_S} {T D V v k d : Nat} {L : Nat → List Nat} (hC : CI E T D V L) (hv : v < 8) (hd : d < 12) (hk : k < 7) : ∃ r, f_X5_reasonAgainst E (nI v) (nI k) (nI d) = some r ∧ (r = 0 → MayG E V v k d) := by
  have hV := hC.1.2.2
  unfold f_X5_reasonAgainst
  rw [dat_ev hd, bd_s]
  by_cases c1 : E d 1 = 0
  · rw [if_pos c1]; exact ⟨1, rfl, fun h => absurd h (by decide)⟩
  · rw [if_neg c1]
    by_cases c2 : E d 8 = 0
    · rw [if_pos c2]; exact ⟨2, rfl, fun h => absurd h (by decide)⟩
    · rw [if_neg c2]
      rcases cHad (E := E) (nI d) hV hC.2.1.2.2 hk with ⟨g1, -⟩ | ⟨g1, g2⟩
      · rw [g1, bd_s, if_neg (show ¬ (1 : Int32) = 0 by decide)]
        exact ⟨3, rfl, fun h => absurd h (by decide)⟩
      · rw [g1, bd_s, if_pos rfl, don_ev hv hk, bd_s]
        by_cases c3 : E (45 + v) k = -1
        · obtain ⟨x, x1, x2⟩ := day_ev (E := E) hv hk
          rw [if_pos c3, x1, bd_s]
          by_cases c4 : x < 6
          · rw [if_pos c4, wk_ev hC hv, bd_s]
            by_cases c5 : wkS E v 7 + E d 5 ≤ 2880
            · obtain ⟨r, r1, r2⟩ := rst_ev hC hv hd hk
              rw [if_pos c5, r1, bd_s]
              by_cases c6 : r = 0
              · rw [if_pos c6]; exact ⟨7, rfl, fun h => absurd h (by decide)⟩
              · rw [if_neg c6]; exact ⟨0, rfl, fun _ => ⟨g2, c3, x2 c4, c5, r2 c6⟩⟩
            · rw [if_neg c5]; exact ⟨6, rfl, fun h => absurd h (by decide)⟩
          · rw [if_neg c4]; exact ⟨5, rfl, fun h => absurd h (by decide)⟩
        · rw [if_neg c3]; exact ⟨4, rfl, fun h => absurd h (by decide)⟩
theorem cdr_loop {E : dd_S} {T D V d k : Nat} {L : Nat → List Nat} (hC : CI E T D V L) (hd : d < 12) (hk : k < 7) : ∀ (q v n1 : Nat) (b p : Int32), v + q = V → q < n1 → (b = -1 ∨ ∃ u, u < V ∧ b = nI u ∧ MayG E V u k d) →
    ∃ r, f_X5_cheapestDriver_8 E (nI k) (nI d) n1 b p (nI v) = some r ∧ (r = -1 ∨ ∃ u, u < V ∧ r = nI u ∧ MayG E V u k d) := by
  have hV := hC.1.2.2
  intro q
  induction q with
  | zero =>
    intro v n1 b p hv h1 hb
    obtain ⟨n1, rfl⟩ : ∃ m, n1 = m + 1 := ⟨n1 - 1, by omega⟩
    have : v = V := by omega
    subst this
    refine ⟨b, ?_, hb⟩
    unfold f_X5_cheapestDriver_8
    rw [hC.2.1.2.2, if_pos ((nI_le_iff (by omega) (by omega)).mpr (Nat.le_refl _))]
  | succ q ih =>
    intro v n1 b p hv h1 hb
    obtain ⟨n1, rfl⟩ : ∃ m, n1 = m + 1 := ⟨n1 - 1, by omega⟩
    obtain ⟨r, r1, r2⟩ := why_ev hC (show v < 8 by omega) hd hk
    have skip : ∃ r, f_X5_cheapestDriver_55 E (nI k) (nI d) (fun z0 z1 z2 => f_X5_cheapestDriver_8 E (nI k) (nI d) n1 z0 z1 z2) b p (nI v) = some r ∧ (r = -1 ∨ ∃ u, u < V ∧ r = nI u ∧ MayG E V u k d) := by
      unfold f_X5_cheapestDriver_55
      rw [lt_e, nI_inc]
      exact ih (v + 1) n1 b p (by omega) (by omega) hb
    have take : ∀ w : Int32, MayG E V v k d → ∃ r, f_X5_cheapestDriver_48 E (nI k) (nI d) (fun z0 z1 z2 => f_X5_cheapestDriver_8 E (nI k) (nI d) n1 z0 z1 z2) (nI v) w = some r ∧ (r = -1 ∨ ∃ u, u < V ∧ r = nI u ∧ MayG E V u k d) := fun w hm => by
      unfold f_X5_cheapestDriver_48 f_X5_cheapestDriver_55
      rw [lt_e, nI_inc]
      exact ih (v + 1) n1 (nI v) w (by omega) (by omega) (Or.inr ⟨v, by omega, rfl, hm⟩)
    unfold f_X5_cheapestDriver_8
    rw [hC.2.1.2.2, if_neg (nI_ge (by omega) (by omega)), r1, bd_s]
    by_cases c1 : r = 0
    · rw [if_pos c1, wk_ev hC (by omega), bd_s]
      by_cases c2 : b = -1
      · rw [if_pos c2]; exact take _ (r2 c1)
      · rw [if_neg c2]
        by_cases c3 : p ≤ wkS E v 7
        · rw [if_pos c3]; exact skip
        · rw [if_neg c3]; exact take _ (r2 c1)
    · rw [if_neg c1]; exact skip
/-- an entry keeps the roster's facts -/
theorem RO.ent {E : dd_S} {T D V u k d : Nat} {L : Nat → List Nat} (hC : CI E T D V L) (hu : u < V) (hd : d < D) (hk : k < 7) (h32 : E 32 3 = 660) (hm : MayG E V u k d) (h : RO E V) : RO (st2 E (45 + u) k (nI d)) V := by
  have hV := hC.1.2.2
  have hD := hC.1.2.1
  obtain ⟨h1, h2, h3, h4, h5⟩ := h
  obtain ⟨m1, m2, m3, m4, m5, m6⟩ := hm
  have ho : ∀ v, v ≠ u → st2 E (45 + u) k (nI d) (45 + v) = E (45 + v) := fun v hv => st2_k _ _ _ _ (by omega)
  have hdu : ∀ e, e < 12 → st2 E (45 + u) k (nI d) e = E e := fun e he => st2_k _ _ _ _ (by omega)
  have hat : ∀ j, st2 E (45 + u) k (nI d) (45 + u) j = if j = k then nI d else E (45 + u) j := fun j => by rw [st2_at, if_pos rfl]
  have hno : ∀ v, v < 8 → v ≠ u → E (45 + v) k ≠ nI d := fun v hv hne e => by
    rcases Nat.lt_or_ge v V with q | q
    · exact m1 ⟨v, q, e⟩
    · rw [h5 v k q hv hk] at e
      exact nI_m1 (by omega) e.symm
  have hw : ∀ v, v < 8 → wkS (st2 E (45 + u) k (nI d)) v 7 = if v = u then wkS E v 7 + E d 5 else wkS E v 7 := fun v hv => by
    by_cases c : v = u
    · subst c
      rw [if_pos rfl]
      have := sN_upd (f := fun j => pyA (st2 E (45 + v) k (nI d)) (st2 E (45 + v) k (nI d) (45 + v) j)) (g := fun j => pyA E (E (45 + v) j)) (d := k) 7 hk (fun j hj hne => by
        show pyA _ (st2 E (45 + v) k (nI d) (45 + v) j) = pyA E (E (45 + v) j)
        rw [hat, if_neg hne]
        rcases hC.2.2.2.1 v j hv hj with e | ⟨d2, hd2, e⟩
        · rw [e]; rfl
        · rw [e, pyA_d _ (by omega), pyA_d _ (by omega), hdu d2 (by omega)])
      have e1 : pyA E (E (45 + v) k) = 0 := by rw [m2]; rfl
      have e2 : pyA (st2 E (45 + v) k (nI d)) (st2 E (45 + v) k (nI d) (45 + v) k) = E d 5 := by rw [hat, if_pos rfl, pyA_d _ (by omega), hdu d (by omega)]
      simp only [e1, e2, Int32.add_zero] at this
      exact this
    · rw [if_neg c]
      refine sN_congr 7 (fun j hj => ?_)
      rw [ho v c]
      rcases hC.2.2.2.1 v j hv hj with e | ⟨d2, hd2, e⟩
      · rw [e]; rfl
      · rw [e, pyA_d _ (by omega), pyA_d _ (by omega), hdu d2 (by omega)]
  refine ⟨fun a b j ha hb hab hj e => ?_, fun v hv j hj => ?_, fun v j d1 d2 hv hj q1 q2 e1 e2 => ?_, fun v hv => ?_, fun v j q hv hj => by rw [ho v (by omega)]; exact h5 v j q hv hj⟩
  · by_cases ca : a = u
    · subst ca
      rw [ho b (fun h => hab h.symm), hat] at e
      rw [hat]
      by_cases cj : j = k
      · rw [if_pos cj] at e
        rw [cj] at e
        exact absurd e.symm (hno b hb (fun h => hab h.symm))
      · rw [if_neg cj] at e ⊢
        exact h1 a b j ha hb hab hj e
    · by_cases cb : b = u
      · subst cb
        rw [ho a ca, hat] at e
        rw [ho a ca]
        by_cases cj : j = k
        · rw [if_pos cj] at e
          rw [cj] at e
          exact absurd e (hno a ha ca)
        · rw [if_neg cj] at e
          exact h1 a b j ha hb hab hj e
      · rw [ho a ca, ho b cb] at e
        rw [ho a ca]
        exact h1 a b j ha hb hab hj e
  · by_cases c : v = u
    · subst c
      by_cases cw : j ≤ k ∧ k < j + 6
      · obtain ⟨i, i1, i2, i3⟩ := m3 j hj cw.1 cw.2
        exact ⟨i, i1, by rw [hat, if_neg i2]; exact i3⟩
      · obtain ⟨i, i1, i2⟩ := h2 v hv j hj
        exact ⟨i, i1, by rw [hat, if_neg (by omega)]; exact i2⟩
    · rw [ho v c]; exact h2 v hv j hj
  · rw [hdu d1 q1, hdu d2 q2]
    by_cases c : v = u
    · subst c
      rw [hat] at e1 e2
      by_cases cj : j = k
      · subst cj
        rw [if_pos rfl] at e1
        rw [if_neg (by omega)] at e2
        have := nI_inj (by omega) (by omega) e1
        subst this
        rw [← h32]
        exact m6 d2 q2 hj e2
      · rw [if_neg cj] at e1
        by_cases cj2 : j + 1 = k
        · subst cj2
          rw [if_pos rfl] at e2
          have := nI_inj (by omega) (by omega) e2
          subst this
          rw [← h32]
          exact m5 d1 q1 (by omega) (by rw [Nat.add_sub_cancel]; exact e1)
        · rw [if_neg cj2] at e2
          exact h3 v j d1 d2 hv hj q1 q2 e1 e2
    · rw [ho v c] at e1 e2
      exact h3 v j d1 d2 hv hj q1 q2 e1 e2
  · rw [hw v hv]
    by_cases c : v = u
    · rw [if_pos c, c]; exact m4
    · rw [if_neg c]; exact h4 v hv
/-- what filling leaves: all but the roster -/
def FI (E E2 : dd_S) : Prop := ∀ k, k < 27 ∨ (29 ≤ k ∧ k < 36) ∨ (39 < k ∧ k < 45) ∨ 53 ≤ k → E2 k = E k
theorem FI.refl {E : dd_S} : FI E E := fun _ _ => rfl
theorem FI.trans {a b c : dd_S} (h1 : FI a b) (h2 : FI b c) : FI a c := fun k h => (h2 k h).trans (h1 k h)
theorem FrQ.fi {a b : dd_S} (h : FrQ a b) : FI a b := fun k hk => h k (by omega) (by omega) (by omega)
theorem fll_loop {T D V k : Nat} {L : Nat → List Nat} {key : Nat → Int32} (hk : k < 7) : ∀ (Q pre : List Nat) (n1 : Nat) (E : dd_S), Q.length < n1 → CI E T D V L → E 32 3 = 660 → RO E V → QAt E key (pre ++ Q) → (pre ++ Q).length ≤ 40 → (∀ x ∈ Q, x < D) →
    ∃ r E2, f_X5_fill_68 (nI k) n1 E (nI pre.length) = some (r, E2) ∧ CI E2 T D V L ∧ RO E2 V ∧ FI E E2 := by
  intro Q
  induction Q with
  | nil =>
    intro pre n1 E h1 hC h32 hR hA hlen hQ
    obtain ⟨n1, rfl⟩ : ∃ m, n1 = m + 1 := ⟨n1 - 1, by simp at h1; omega⟩
    have hD := hC.1.2.1
    rw [List.append_nil] at hA hlen
    unfold f_X5_fill_68
    have ho : f_X5_openDuties E (nI k) = some (sN (opn E (nI k)) D) := cod_loop hC hk D 0 64 (by omega) (by omega)
    rw [hA.1, if_pos ((nI_le_iff (by omega) (by omega)).mpr (Nat.le_refl _)), ho, bd_s]
    exact ⟨_, E, rfl, hC, hR, FI.refl⟩
  | cons x Q ih =>
    intro pre n1 E h1 hC h32 hR hA hlen hQ
    obtain ⟨n1, rfl⟩ : ∃ m, n1 = m + 1 := ⟨n1 - 1, by simp at h1; omega⟩
    have hD := hC.1.2.1
    have hV := hC.1.2.2
    have hx := hQ x (by simp)
    have hle : pre.length < (pre ++ x :: Q).length := by simp
    have hnum : E 38 pre.length = nI x := by
      rw [hA.2.2 pre.length hle]
      simp
    have hpre : (pre ++ [x]) ++ Q = pre ++ x :: Q := by rw [List.append_assoc, List.singleton_append]
    have hcl : ∀ E2 : dd_S, f_X5_fillWith E (nI x) (nI k) = some E2 → f_X5_fill_68 (nI k) (n1 + 1) E (nI pre.length) = f_X5_fill_68 (nI k) n1 E2 (nI (pre ++ [x]).length) := fun E2 h => by
      conv => lhs; unfold f_X5_fill_68
      rw [hA.1, if_neg (nI_ge (by omega) (by omega)), num_ev (by omega), bd_s, hnum, h, bd_s, lt_e, nI_inc, List.length_append, List.length_singleton]
    obtain ⟨r, r1, r2⟩ := cdr_loop hC (show x < 12 by omega) hk V 0 64 (-1) 0 (by omega) (by omega) (Or.inl rfl)
    have r1' : f_X5_cheapestDriver E (nI k) (nI x) = some r := r1
    rcases r2 with er | ⟨u, hu, er, hm⟩
    · subst er
      have hfw : f_X5_fillWith E (nI x) (nI k) = some E := by
        unfold f_X5_fillWith
        rw [r1', bd_s, if_pos rfl]; rfl
      obtain ⟨r4, E3, q1, q2, q3, q4⟩ := ih (pre ++ [x]) n1 E (by simp at h1; omega) hC h32 hR (by rw [hpre]; exact hA) (by rw [hpre]; exact hlen) (fun y hy => hQ y (List.mem_cons_of_mem _ hy))
      exact ⟨r4, E3, (hcl E hfw).trans q1, q2, q3, q4⟩
    · subst er
      have hC2 := hC.roster (v := u) (k := k) (x := nI x) (by omega) hk (Or.inr ⟨x, hx, rfl⟩)
      have hR2 := RO.ent hC hu hx hk h32 hm hR
      have hfw : f_X5_fillWith E (nI x) (nI k) = some (st2 E (45 + u) k (nI x)) := by
        unfold f_X5_fillWith
        rw [r1', bd_s, if_neg (nI_m1 (by omega)), ent_ev (by omega) hk, bd_s]; rfl
      have hA2 : QAt (st2 E (45 + u) k (nI x)) key ((pre ++ [x]) ++ Q) := by
        rw [hpre]
        exact ⟨by rw [st2_k _ _ _ _ (show 36 ≠ 45 + u by omega)]; exact hA.1, fun j hj => by rw [st2_k _ _ _ _ (show 37 ≠ 45 + u by omega)]; exact hA.2.1 j hj, by rw [st2_k _ _ _ _ (show 38 ≠ 45 + u by omega)]; exact hA.2.2⟩
      have hFI : FI E (st2 E (45 + u) k (nI x)) := fun q hq => st2_k _ _ _ _ (by omega)
      obtain ⟨r4, E3, q1, q2, q3, q4⟩ := ih (pre ++ [x]) n1 (st2 E (45 + u) k (nI x)) (by simp at h1; omega) hC2 (by rw [st2_k _ _ _ _ (show 32 ≠ 45 + u by omega)]; exact h32) hR2 hA2 (by rw [hpre]; exact hlen) (fun y hy => hQ y (List.mem_cons_of_mem _ hy))
      exact ⟨r4, E3, (hcl _ hfw).trans q1, q2, q3, hFI.trans q4⟩
theorem fll_ev {E : dd_S} {T D V k : Nat} {L : Nat → List Nat} (hC : CI E T D V L) (h32 : E 32 3 = 660) (hR : RO E V) (hk : k < 7) : ∃ r E2, f_X5_fill E (nI k) = some (r, E2) ∧ CI E2 T D V L ∧ RO E2 V ∧ FI E E2 := by
  have hD := hC.1.2.1
  obtain ⟨s1, a1, a2, a3⟩ := qc_ev (s := E) (key := fun d => E d 2)
  have hC1 := hC.frw a2.w
  have hk1 : ∀ d, d < 12 → s1 d 2 = E d 2 := fun d hd => by rw [a2 d (by omega) (by omega) (by omega)]
  obtain ⟨E2, Q, b1, b2, b3, b4, b5⟩ := fq_loop (key := fun d => E d 2) (op := opn s1 (nI k)) hk D 0 64 s1 [] (by omega) (by omega) hC1 hk1 (fun _ _ => rfl) a3 List.Pairwise.nil (fun x => ⟨fun h => absurd h List.not_mem_nil, fun h => absurd h.1 (Nat.not_lt_zero _)⟩)
  have hC2 := hC1.frw b2.w
  have hF : FrQ E E2 := a2.trans b2
  have hlen := nodup_len D Q b4.nodup (fun x hx => ((b5 x).mp hx).1)
  have hR2 : RO E2 V := RO.same hC (fun v hv => hF (45 + v) (by omega) (by omega) (by omega)) (fun d hd _ => hF d (by omega) (by omega) (by omega)) hR
  obtain ⟨r, E3, c1, c2, c3, c4⟩ := fll_loop (T := T) (D := D) (V := V) (L := L) (key := fun d => E d 2) hk Q [] 64 E2 (by omega) hC2 (by rw [hF 32 (by decide) (by decide) (by decide)]; exact h32) hR2 b3 (by rw [List.nil_append]; omega) (fun x hx => ((b5 x).mp hx).1)
  have b1' : f_X5_fill_27 (nI k) 64 s1 (0 : Int32) = f_X5_fill_68 (nI k) 64 E2 0 := b1
  have c1' : f_X5_fill_68 (nI k) 64 E2 (0 : Int32) = some (r, E3) := c1
  refine ⟨r, E3, ?_, c2, c3, hF.fi.trans c4⟩
  unfold f_X5_fill
  rw [cDay, bd_s, rng_1 hk (by omega), if_neg (by decide), a1, bd_s, b1', c1']
