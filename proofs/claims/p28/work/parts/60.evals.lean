/-! P28: what the class's calls answer, in sums -/
theorem i32_0a (x : Int32) : (0 : Int32) + x = x := Int32.zero_add x
/-- how many trips are in no duty -/
def frS (E : dd_S) (T : Nat) : Int32 := sN (fun t => if E 34 t = -1 then 1 else 0) T
theorem fr_loop {E : dd_S} {T D V : Nat} {L : Nat → List Nat} (hC : CI E T D V L) : ∀ (q v n : Nat), v + q = T → q < n → f_X5_freeTrips_4 E n (frS E v) (nI v) = some (frS E T) := by
  have hT := hC.1.1
  intro q
  induction q with
  | zero =>
    intro v n hv hn
    obtain ⟨n, rfl⟩ : ∃ m, n = m + 1 := ⟨n - 1, by omega⟩
    have : v = T := by omega
    subst this
    unfold f_X5_freeTrips_4
    rw [hC.2.1.1, if_pos ((nI_le_iff (by omega) (by omega)).mpr (Nat.le_refl _))]
  | succ q ih =>
    intro v n hv hn
    obtain ⟨n, rfl⟩ : ∃ m, n = m + 1 := ⟨n - 1, by omega⟩
    have r := ih (v + 1) n (by omega) (by omega)
    unfold f_X5_freeTrips_4
    rw [hC.2.1.1, if_neg (nI_ge (by omega) (by omega)), dof_ev (by omega), bd_s]
    by_cases e : E 34 v = -1
    · have e2 : frS E (v + 1) = frS E v + 1 := by
        unfold frS
        conv => lhs; unfold sN
        rw [if_pos e]
      rw [if_pos e]
      unfold f_X5_freeTrips_27
      rw [lt_e, lt_e, nI_inc, ← e2]
      exact r
    · have e2 : frS E (v + 1) = frS E v := by
        unfold frS
        conv => lhs; unfold sN
        rw [if_neg e, Int32.add_zero]
      rw [if_neg e]
      unfold f_X5_freeTrips_27
      rw [lt_e, nI_inc, ← e2]
      exact r
theorem fr_ev {E : dd_S} {T D V : Nat} {L : Nat → List Nat} (hC : CI E T D V L) : f_X5_freeTrips E = some (frS E T) := fr_loop hC T 0 64 (by omega) (by have := hC.1.1; omega)
theorem pay_loop {E : dd_S} {T D V : Nat} {L : Nat → List Nat} (hC : CI E T D V L) : ∀ (q d n : Nat), d + q = D → q < n → f_X5_pay_4 E n (sN (fun e => E e 5) d) (nI d) = some (sN (fun e => E e 5) D) := by
  have hD := hC.1.2.1
  intro q
  induction q with
  | zero =>
    intro d n hd hn
    obtain ⟨n, rfl⟩ : ∃ m, n = m + 1 := ⟨n - 1, by omega⟩
    have : d = D := by omega
    subst this
    unfold f_X5_pay_4
    rw [hC.2.1.2.1, if_pos ((nI_le_iff (by omega) (by omega)).mpr (Nat.le_refl _))]
  | succ q ih =>
    intro d n hd hn
    obtain ⟨n, rfl⟩ : ∃ m, n = m + 1 := ⟨n - 1, by omega⟩
    unfold f_X5_pay_4
    rw [hC.2.1.2.1, if_neg (nI_ge (by omega) (by omega)), dat_ev (by omega), bd_s, lt_e, lt_e, nI_inc]
    exact ih (d + 1) n (by omega) (by omega)
theorem pay_all {E : dd_S} {T D V : Nat} {L : Nat → List Nat} (hC : CI E T D V L) : f_X5_pay E = some (sN (fun e => E e 5) D) := pay_loop hC D 0 64 (by omega) (by have := hC.1.2.1; omega)
/-- the pay of what stands in the roster -/
def pyA (E : dd_S) (x : Int32) : Int32 := if x = -1 then 0 else E x.toNatClampNeg 5
def wkS (E : dd_S) (v n : Nat) : Int32 := sN (fun k => pyA E (E (45 + v) k)) n
theorem pyA_m1 (E : dd_S) : pyA E (-1) = 0 := rfl
theorem pyA_d (E : dd_S) {d : Nat} (h : d < 12) : pyA E (nI d) = E d 5 := by
  unfold pyA
  rw [if_neg (nI_m1 (by omega)), nI_clamp (by omega)]
theorem wk_loop {E : dd_S} {T D V v : Nat} {L : Nat → List Nat} (hC : CI E T D V L) (hv : v < 8) : ∀ (q k n : Nat), k + q = 7 → q < n → f_X5_weekPay_4 E (nI v) n (wkS E v k) (nI k) = some (wkS E v 7) := by
  have hD := hC.1.2.1
  intro q
  induction q with
  | zero =>
    intro k n hk hn
    obtain ⟨n, rfl⟩ : ∃ m, n = m + 1 := ⟨n - 1, by omega⟩
    have : k = 7 := by omega
    subst this
    unfold f_X5_weekPay_4
    rw [if_pos (show (7 : Int32) ≤ nI 7 by decide)]
  | succ q ih =>
    intro k n hk hn
    obtain ⟨n, rfl⟩ : ∃ m, n = m + 1 := ⟨n - 1, by omega⟩
    have e2 : wkS E v (k + 1) = wkS E v k + pyA E (E (45 + v) k) := rfl
    have r := ih (k + 1) n (by omega) (by omega)
    rw [e2] at r
    unfold f_X5_weekPay_4
    rw [if_neg (show ¬ (7 : Int32) ≤ nI k from nI_ge (b := 7) (by omega) (by omega)), don_ev hv (by omega), bd_s]
    rcases hC.2.2.2.1 v k hv (by omega) with e | ⟨d, hd, e⟩
    · rw [e, pyA_m1] at r
      rw [e, dat_m1, bd_s, lt_e, lt_e, nI_inc, hC.2.2.2.2.2.2.2 5 (by decide) (by decide), show ftS E [] 5 = 0 from rfl]
      exact r
    · rw [e, pyA_d E (by omega)] at r
      rw [e, dat_ev (by omega), bd_s, lt_e, lt_e, nI_inc]
      exact r
theorem wk_ev {E : dd_S} {T D V v : Nat} {L : Nat → List Nat} (hC : CI E T D V L) (hv : v < 8) : f_X5_weekPay E (nI v) = some (wkS E v 7) := wk_loop hC hv 7 0 64 (by omega) (by omega)
/-- sums in two orders -/
theorem sN_swap (f : Nat → Nat → Int32) (T : Nat) : ∀ D, sN (fun d => sN (fun t => f d t) T) D = sN (fun t => sN (fun d => f d t) D) T := by
  intro D
  induction D with
  | zero => exact (sN_0 T).symm
  | succ D ih =>
    show sN (fun d => sN (fun t => f d t) T) D + sN (fun t => f D t) T = sN (fun t => sN (fun d => f d t) D + f D t) T
    rw [ih, sN_add]
theorem sN_ones : ∀ n, sN (fun _ => 1) n = nI n := by
  intro n
  induction n with
  | zero => rfl
  | succ n ih =>
    show sN (fun _ => 1) n + 1 = _
    rw [ih, nI_inc]
/-- the trips of all duties and those of none are all trips -/
theorem size_sum {E : dd_S} {T D V : Nat} {L : Nat → List Nat} (hC : CI E T D V L) : sN (fun d => E d 1) D + frS E T = nI T := by
  have hD := hC.1.2.1
  have hT := hC.1.1
  have e1 : sN (fun d => E d 1) D = sN (fun d => sN (fun t => if E 34 t = nI d then 1 else 0) T) D := sN_congr D (fun d hd => by
    have hL := hC.2.2.2.2.2.1 d (by omega)
    rw [hL.2.1.1, ← one_sum, row_sum hL.1])
  rw [e1, sN_swap]
  unfold frS
  rw [← sN_add, ← sN_ones T]
  refine sN_congr T (fun t ht => ?_)
  rcases hC.2.2.2.2.1 t (by omega) with e | ⟨-, d, hd, e⟩
  · rw [if_pos e, (sN_congr (g := fun _ => 0) D (fun d hd => by rw [e, if_neg (fun h => nI_m1 (by omega) h.symm)])).trans (sN_0 D), Int32.zero_add]
  · rw [if_neg (by rw [e]; exact nI_m1 (by omega)), sN_one (d := d) D (fun e2 he2 hne => by rw [e, if_neg (fun h => hne (nI_inj (by omega) (by omega) h).symm)]), if_pos hd, if_pos e, Int32.add_zero]
theorem size_sub {E : dd_S} {T D V : Nat} {L : Nat → List Nat} (hC : CI E T D V L) : sN (fun d => E d 1) D = nI T - frS E T := by
  rw [← size_sum hC, Int32.add_sub_cancel]
/-! the questions that the law asks -/
theorem q_count1 {E : dd_S} {T D V : Nat} {L : Nat → List Nat} (hC : CI E T D V L) : f_X5_count E 1 = some (nI D) := by
  unfold f_X5_count
  rw [if_neg (by decide), if_pos rfl, hC.2.1.2.1]
theorem q_count3 {E : dd_S} {T D V : Nat} {L : Nat → List Nat} (hC : CI E T D V L) : f_X5_count E 3 = some (frS E T) := by
  unfold f_X5_count
  rw [if_neg (by decide), if_neg (by decide), if_neg (by decide), if_pos rfl, fr_ev hC, bd_s]
theorem q_duty {E : dd_S} {T D V d : Nat} {L : Nat → List Nat} (hC : CI E T D V L) (hd : d < D) {a : Int32} (h0 : ¬ a < 0) (h9 : a < 9) : f_X5_duty E (nI d) a = f_X5_dutyFact E (nI d) a := by
  have hD := hC.1.2.1
  unfold f_X5_duty
  rw [cDuty hC.2.1.2.1, bd_s, rng_1 hd (by omega), if_neg (by decide), if_neg h0, if_pos h9]
  cases f_X5_dutyFact E (nI d) a <;> rfl
theorem q_d0 {E : dd_S} {T D V d : Nat} {L : Nat → List Nat} (hC : CI E T D V L) (hd : d < D) : f_X5_duty E (nI d) 0 = some (E d 1) := by
  have hD := hC.1.2.1
  rw [q_duty hC hd (by decide) (by decide)]
  unfold f_X5_dutyFact
  rw [dat_ev (by omega), bd_s, if_pos rfl]
theorem q_d1 {E : dd_S} {T D V d : Nat} {L : Nat → List Nat} (hC : CI E T D V L) (hd : d < D) : f_X5_duty E (nI d) 1 = some (E d 2) := by
  have hD := hC.1.2.1
  rw [q_duty hC hd (by decide) (by decide)]
  unfold f_X5_dutyFact
  rw [dat_ev (by omega), bd_s, if_neg (by decide), if_pos rfl]
theorem q_d2 {E : dd_S} {T D V d : Nat} {L : Nat → List Nat} (hC : CI E T D V L) (hd : d < D) : f_X5_duty E (nI d) 2 = some (E d 3) := by
  have hD := hC.1.2.1
  rw [q_duty hC hd (by decide) (by decide)]
  unfold f_X5_dutyFact
  rw [dat_ev (by omega), bd_s, if_neg (by decide), if_neg (by decide), if_pos rfl]
theorem q_d3 {E : dd_S} {T D V d : Nat} {L : Nat → List Nat} (hC : CI E T D V L) (hd : d < D) : f_X5_duty E (nI d) 3 = some (E d 4) := by
  have hD := hC.1.2.1
  rw [q_duty hC hd (by decide) (by decide)]
  unfold f_X5_dutyFact
  rw [dat_ev (by omega), bd_s, if_neg (by decide), if_neg (by decide), if_neg (by decide), if_pos rfl]
theorem q_d4 {E : dd_S} {T D V d : Nat} {L : Nat → List Nat} (hC : CI E T D V L) (hd : d < D) : f_X5_duty E (nI d) 4 = some (E d 5) := by
  have hD := hC.1.2.1
  rw [q_duty hC hd (by decide) (by decide)]
  unfold f_X5_dutyFact
  rw [dat_ev (by omega), bd_s, if_neg (by decide), if_neg (by decide), if_neg (by decide), if_neg (by decide), if_pos rfl]
theorem q_d6 {E : dd_S} {T D V d : Nat} {L : Nat → List Nat} (hC : CI E T D V L) (hd : d < D) : f_X5_duty E (nI d) 6 = some (E d 7) := by
  have hD := hC.1.2.1
  rw [q_duty hC hd (by decide) (by decide)]
  unfold f_X5_dutyFact
  rw [dat_ev (by omega), bd_s, if_neg (by decide), if_neg (by decide), if_neg (by decide), if_neg (by decide), if_neg (by decide), if_neg (by decide), if_pos rfl]
theorem q_d7 {E : dd_S} {T D V d : Nat} {L : Nat → List Nat} (hC : CI E T D V L) (hd : d < D) (h8 : E d 8 = 1) : f_X5_duty E (nI d) 7 = some 1 := by
  have hD := hC.1.2.1
  rw [q_duty hC hd (by decide) (by decide)]
  unfold f_X5_dutyFact
  rw [dat_ev (by omega), bd_s, if_neg (by decide), if_neg (by decide), if_neg (by decide), if_neg (by decide), if_neg (by decide), if_neg (by decide), if_neg (by decide), if_pos rfl, h8, if_neg (by decide)]
  rfl
theorem q_d8 {E : dd_S} {T D V d : Nat} {L : Nat → List Nat} (hC : CI E T D V L) (hd : d < D) (hF : Fxd E V (nI d)) : f_X5_duty E (nI d) 8 = some 1 := by
  have hD := hC.1.2.1
  rw [q_duty hC hd (by decide) (by decide)]
  unfold f_X5_dutyFact
  rw [dat_ev (by omega), bd_s, if_neg (by decide), if_neg (by decide), if_neg (by decide), if_neg (by decide), if_neg (by decide), if_neg (by decide), if_neg (by decide), if_neg (by decide)]
  rcases cFix (E := E) (nI d) hC.1.2.2 hC.2.1.2.2 with ⟨g, -⟩ | ⟨-, g⟩
  · rw [g, bd_s, if_neg (by decide)]; rfl
  · exact absurd hF g
theorem q_trip {E : dd_S} {T D V t m : Nat} {L : Nat → List Nat} (hC : CI E T D V L) (ht : t < T) (hm : m < 5) : f_X5_trip E (nI t) (nI m) = some (if m = 0 then E 41 t else if m = 1 then E 42 t else if m = 2 then E 43 t else if m = 3 then E 44 t else E 34 t) := by
  have hT := hC.1.1
  unfold f_X5_trip
  rw [cTrip hC.2.1.1, bd_s, rng_1 ht (by omega), if_neg (by decide), if_neg (nI_pos (by omega)), if_pos (show nI m < (5 : Int32) from (nI_lt_iff (b := 5) (by omega) (by omega)).mpr hm), tf_ev (by omega) hm, bd_s]
theorem q_tripAt {E : dd_S} {T D V d i : Nat} {L : Nat → List Nat} (hC : CI E T D V L) (hd : d < D) (hi : i < (L d).length) : f_X5_tripAt E (nI d) (nI i) = some (nI (L d)[i]) := by
  have hD := hC.1.2.1
  have hT := hC.1.1
  have hL := hC.2.2.2.2.2.1 d (by omega)
  have hlen := hL.1.len
  unfold f_X5_tripAt
  rw [cDuty hC.2.1.2.1, bd_s, rng_1 hd (by omega), if_neg (by decide), if_neg (nI_pos (by omega)), dat_ev (by omega), bd_s, hL.2.1.1, if_pos ((nI_lt_iff (by omega) (by omega)).mpr hi), bd_s, tin_duty hL.2.1 hi (by omega), bd_s]
theorem q_given {E : dd_S} {T D V v k : Nat} {L : Nat → List Nat} (hC : CI E T D V L) (hv : v < V) (hk : k < 7) : f_X5_given E (nI v) (nI k) = some (E (45 + v) k) := by
  have hV := hC.1.2.2
  unfold f_X5_given
  rw [cDriver hC.2.1.2.2, bd_s, rng_1 hv (by omega), if_neg (by decide), cDay, bd_s, rng_1 hk (by omega), if_neg (by decide), don_ev (by omega) hk, bd_s]
theorem q_week {E : dd_S} {T D V v : Nat} {L : Nat → List Nat} (hC : CI E T D V L) (hv : v < V) : f_X5_week E (nI v) = some (wkS E v 7) := by
  have hV := hC.1.2.2
  unfold f_X5_week
  rw [cDriver hC.2.1.2.2, bd_s, rng_1 hv (by omega), if_neg (by decide), wk_ev hC (by omega), bd_s]
theorem q_rest {E : dd_S} {T D V v k d1 d2 : Nat} {L : Nat → List Nat} (hC : CI E T D V L) (hv : v < V) (hk : k + 1 < 7) (e1 : E (45 + v) k = nI d1) (e2 : E (45 + v) (k + 1) = nI d2) (h1 : d1 < 12) (h2 : d2 < 12) : f_X5_rest E (nI v) (nI (k + 1)) = some ((E d2 2 + 1440) - E d1 3) := by
  have hV := hC.1.2.2
  unfold f_X5_rest
  rw [cDriver hC.2.1.2.2, bd_s, rng_1 hv (by omega), if_neg (by decide), cDay, bd_s, rng_1 hk (by omega), if_neg (by decide), if_neg (fun h => by have := nI_inj (b := 0) (by omega) (by omega) h; omega), nI_sub1 (by omega), Nat.add_sub_cancel, don_ev (by omega) (by omega), bd_s, don_ev (by omega) hk, bd_s, e1, e2, if_neg (nI_m1 (by omega)), if_neg (nI_m1 (by omega)), cbetw h1 h2, bd_s]
  rfl
