/-! WHY A DUTY CANNOT BE GIVEN -/
def dnF (p : Nat → Bool) : Nat → Nat
  | 0 => 0
  | k + 1 => if p k then dnF p k else k + 1
def upF (p : Nat → Bool) : Nat → Nat → Nat
  | 0, k => k
  | n + 1, k => if p (k + 1) then upF p n (k + 1) else k
def lgF (p : Nat → Bool) (k : Nat) : Nat → Nat → Nat → Nat → Nat
  | 0, _, lo, _ => lo
  | q + 1, j, lo, le => if j = k ∨ p j = true then lgF p k q (j + 1) (if lo < le + 1 then le + 1 else lo) (le + 1) else lgF p k q (j + 1) (if lo < 0 then 0 else lo) 0
def bitF (b0 b1 b2 b3 b4 b5 b6 : Bool) (j : Nat) : Bool := [b0, b1, b2, b3, b4, b5, b6].getD j false
theorem row_dec : ∀ b0 b1 b2 b3 b4 b5 b6 : Bool, ∀ k, k < 7 → decide (upF (bitF b0 b1 b2 b3 b4 b5 b6) (6 - k) k - dnF (bitF b0 b1 b2 b3 b4 b5 b6) k + 1 < 6) = decide (lgF (bitF b0 b1 b2 b3 b4 b5 b6) k 7 0 0 0 ≤ 5) := by decide +kernel
theorem dnF_le (p : Nat → Bool) : ∀ k, dnF p k ≤ k := by
  intro k
  induction k with
  | zero => exact Nat.le_refl _
  | succ k ih => unfold dnF; split <;> omega
theorem upF_ge (p : Nat → Bool) : ∀ n k, k ≤ upF p n k ∧ upF p n k ≤ k + n := by
  intro n
  induction n with
  | zero => intro k; exact ⟨Nat.le_refl _, Nat.le_refl _⟩
  | succ n ih => intro k; unfold upF; have := ih (k + 1); split <;> omega
theorem lgF_le (p : Nat → Bool) (k : Nat) : ∀ q j lo le, le ≤ j → lo ≤ j → lgF p k q j lo le ≤ j + q := by
  intro q
  induction q with
  | zero => intro j lo le h1 h2; unfold lgF; omega
  | succ q ih =>
    intro j lo le h1 h2
    unfold lgF
    split
    · have := ih (j + 1) (if lo < le + 1 then le + 1 else lo) (le + 1) (by omega) (by split <;> omega)
      omega
    · have := ih (j + 1) (if lo < 0 then 0 else lo) 0 (by omega) (by split <;> omega)
      omega
theorem cu_loop {E : dd_S} {v : Nat} {p : Nat → Bool} {a : Int32} {f : Nat} (hv : v < 8) (hp : ∀ j, j < 7 → p j = decide (E (45 + v) j ≠ -1)) : ∀ (q k n : Nat), k + q = 6 → q < n → f_X5_daysInARow_27 E (nI v) a n (nI f) (nI k) = some (nI (upF p q k) - nI f + 1) := by
  intro q
  induction q with
  | zero =>
    intro k n hk hn
    obtain ⟨n, rfl⟩ : ∃ m, n = m + 1 := ⟨n - 1, by omega⟩
    have : k = 6 := by omega
    subst this
    rfl
  | succ q ih =>
    intro k n hk hn
    obtain ⟨n, rfl⟩ : ∃ m, n = m + 1 := ⟨n - 1, by omega⟩
    unfold f_X5_daysInARow_27
    rw [if_neg (show ¬ (6 : Int32) ≤ nI k from nI_ge (b := 6) (by omega) (by omega)), nI_inc, don_ev hv (by omega), bd_s]
    unfold upF
    have hpk := hp (k + 1) (by omega)
    by_cases e : E (45 + v) (k + 1) = -1
    · rw [if_pos e, if_neg (by rw [hpk]; simp [e])]; rfl
    · rw [if_neg e, lt_e, if_pos (by rw [hpk]; simp [e])]
      exact ih (k + 1) n (by omega) (by omega)
theorem cd_loop {E : dd_S} {v k : Nat} {p : Nat → Bool} (hv : v < 8) (hk : k < 7) (hp : ∀ j, j < 7 → p j = decide (E (45 + v) j ≠ -1)) : ∀ (f n : Nat), f ≤ k → f < n → f_X5_daysInARow_2 E (nI v) (nI k) n (nI f) = some (nI (upF p (6 - k) k) - nI (dnF p f) + 1) := by
  intro f
  induction f with
  | zero =>
    intro n hf hn
    obtain ⟨n, rfl⟩ : ∃ m, n = m + 1 := ⟨n - 1, by omega⟩
    unfold f_X5_daysInARow_2
    rw [if_pos (show nI 0 ≤ (0 : Int32) by decide)]
    exact cu_loop hv hp (6 - k) k 64 (by omega) (by omega)
  | succ f ih =>
    intro n hf hn
    obtain ⟨n, rfl⟩ : ∃ m, n = m + 1 := ⟨n - 1, by omega⟩
    have hpos : ¬ nI (f + 1) ≤ (0 : Int32) := nI_nle (by omega) (by omega)
    unfold f_X5_daysInARow_2
    rw [if_neg hpos, nI_sub1 (by omega), Nat.add_sub_cancel, don_ev hv (by omega), bd_s]
    unfold dnF
    have hpk := hp f (by omega)
    by_cases e : E (45 + v) f = -1
    · rw [if_pos e, if_neg (by rw [hpk]; simp [e])]
      exact cu_loop hv hp (6 - k) k 64 (by omega) (by omega)
    · rw [if_neg e, lt_e, if_pos (by rw [hpk]; simp [e]), nI_dec (by omega), Nat.add_sub_cancel]
      exact ih n (by omega) (by omega)
theorem ml_loop {E s : dd_S} {T D V v k : Nat} {p : Nat → Bool} (hM : MI E s T D V) (hv : v < 8) (hk : k < 7) (hp : ∀ j, j < 7 → p j = decide (E (45 + v) j ≠ -1)) : ∀ (q j n lo le : Nat), j + q = 7 → q < n → lo ≤ 7 → le ≤ 7 → le ≤ j → lo ≤ j → f_X6_longest_8 s (nI v) (nI k) n (nI lo) (nI le) (nI j) = some (nI (lgF p k q j lo le)) := by
  intro q
  induction q with
  | zero =>
    intro j n lo le hj hn h1 h2 h3 h4
    obtain ⟨n, rfl⟩ : ∃ m, n = m + 1 := ⟨n - 1, by omega⟩
    have : j = 7 := by omega
    subst this
    rfl
  | succ q ih =>
    intro j n lo le hj hn h1 h2 h3 h4
    obtain ⟨n, rfl⟩ : ∃ m, n = m + 1 := ⟨n - 1, by omega⟩
    have h40 : ∀ t0 : Nat, t0 ≤ 7 → f_X6_longest_40 s (nI v) (nI k) (fun z0 z1 z2 => f_X6_longest_8 s (nI v) (nI k) n z0 z1 z2) (nI lo) (nI j) (nI t0) = f_X6_longest_8 s (nI v) (nI k) n (nI (if lo < t0 then t0 else lo)) (nI t0) (nI (j + 1)) := fun t0 ht => by
      unfold f_X6_longest_40
      rw [lt_e, lt_e, nI_inc]
      congr 1
      by_cases c : lo < t0
      · rw [if_pos ((nI_lt_iff (by omega) (by omega)).mpr c), if_pos c]
      · rw [if_neg (fun h => c ((nI_lt_iff (by omega) (by omega)).mp h)), if_neg c]
    have h1' : f_X6_longest_32 s (nI v) (nI k) (fun z0 z1 z2 => f_X6_longest_8 s (nI v) (nI k) n z0 z1 z2) (nI lo) (nI le) (nI j) = some (nI (lgF p k q (j + 1) (if lo < le + 1 then le + 1 else lo) (le + 1))) := by
      unfold f_X6_longest_32
      rw [nI_inc, h40 (le + 1) (by omega)]
      exact ih (j + 1) n _ _ (by omega) (by omega) (by split <;> omega) (by omega) (by omega) (by split <;> omega)
    unfold f_X6_longest_8 lgF
    rw [if_neg (show ¬ (7 : Int32) ≤ nI j from nI_ge (b := 7) (by omega) (by omega))]
    by_cases e : j = k
    · subst e
      rw [if_pos rfl, if_pos (Or.inl rfl)]
      exact h1'
    · rw [if_neg (fun h => e (nI_inj (by omega) (by omega) h)), mAt hM hv (by omega), bd_s]
      have hpk := hp j (by omega)
      by_cases e2 : E (45 + v) j = -1
      · rw [if_pos e2, if_neg (by rw [hpk]; simp [e2, e])]
        have := h40 0 (by omega)
        rw [show nI 0 = (0 : Int32) from rfl] at this
        rw [this]
        exact ih (j + 1) n _ 0 (by omega) (by omega) (by split <;> omega) (by omega) (by omega) (by split <;> omega)
      · rw [if_neg e2, if_pos (by rw [hpk]; simp [e2])]
        exact h1'
/-- six days one behind the other: both say it of the same rosters -/
theorem row_both {E s : dd_S} {T D V v k : Nat} (hM : MI E s T D V) (hv : v < 8) (hk : k < 7) : ∃ x y, f_X5_daysInARow E (nI v) (nI k) = some x ∧ f_X6_longest s (nI v) (nI k) = some y ∧ (x < 6 ↔ y ≤ 5) := by
  have hp : ∀ j, j < 7 → bitF (decide (E (45 + v) 0 ≠ -1)) (decide (E (45 + v) 1 ≠ -1)) (decide (E (45 + v) 2 ≠ -1)) (decide (E (45 + v) 3 ≠ -1)) (decide (E (45 + v) 4 ≠ -1)) (decide (E (45 + v) 5 ≠ -1)) (decide (E (45 + v) 6 ≠ -1)) j = decide (E (45 + v) j ≠ -1) := fun j hj => by
    rcases (show j = 0 ∨ j = 1 ∨ j = 2 ∨ j = 3 ∨ j = 4 ∨ j = 5 ∨ j = 6 by omega) with rfl | rfl | rfl | rfl | rfl | rfl | rfl <;> rfl
  have hd := row_dec (decide (E (45 + v) 0 ≠ -1)) (decide (E (45 + v) 1 ≠ -1)) (decide (E (45 + v) 2 ≠ -1)) (decide (E (45 + v) 3 ≠ -1)) (decide (E (45 + v) 4 ≠ -1)) (decide (E (45 + v) 5 ≠ -1)) (decide (E (45 + v) 6 ≠ -1)) k hk
  generalize hb : bitF (decide (E (45 + v) 0 ≠ -1)) (decide (E (45 + v) 1 ≠ -1)) (decide (E (45 + v) 2 ≠ -1)) (decide (E (45 + v) 3 ≠ -1)) (decide (E (45 + v) 4 ≠ -1)) (decide (E (45 + v) 5 ≠ -1)) (decide (E (45 + v) 6 ≠ -1)) = p at hp hd
  have h1 := cd_loop hv hk hp k 64 (Nat.le_refl _) (by omega)
  have h2 := ml_loop hM hv hk hp 7 0 64 0 0 rfl (by decide) (by decide) (by decide) (by decide) (by decide)
  have b1 := dnF_le p k
  have b2 := upF_ge p (6 - k) k
  have b3 := lgF_le p k 7 0 0 0 (by decide) (by decide)
  refine ⟨_, _, h1, h2, ?_⟩
  have e1 : nI (upF p (6 - k) k) - nI (dnF p k) = nI (upF p (6 - k) k - dnF p k) := by
    apply Int32.toInt_inj.mp
    rw [i32_sub (by rw [nI_toInt (by omega), nI_toInt (by omega)]; omega) (by rw [nI_toInt (by omega), nI_toInt (by omega)]; omega), nI_toInt (by omega), nI_toInt (by omega), nI_toInt (by omega)]
    omega
  rw [e1, nI_inc, show (6 : Int32) = nI 6 from rfl, show (5 : Int32) = nI 5 from rfl, nI_lt_iff (by omega) (by omega), nI_le_iff (by omega) (by omega)]
  exact decide_eq_decide.mp hd
theorem mt_loop {E s : dd_S} {T D V k : Nat} {d : Int32} (hM : MI E s T D V) (hV : V ≤ 8) (hk : k < 7) : ∀ (q v n : Nat) (b : Int32), v + q = V → q < n → ((b = 1 ∧ HdOn E V d k) ∨ (b = 0 ∧ ∀ u, u < v → E (45 + u) k ≠ d)) →
    (f_X6_isTaken_5 s (nI k) d n b (nI v) = some 1 ∧ HdOn E V d k) ∨ (f_X6_isTaken_5 s (nI k) d n b (nI v) = some 0 ∧ ¬ HdOn E V d k) := by
  intro q
  induction q with
  | zero =>
    intro v n b hv hn hb
    obtain ⟨n, rfl⟩ : ∃ m, n = m + 1 := ⟨n - 1, by omega⟩
    unfold f_X6_isTaken_5
    rw [hM.2.1.2.2, if_pos ((nI_le_iff (by omega) (by omega)).mpr (by omega))]
    rcases hb with ⟨e, h⟩ | ⟨e, h⟩
    · subst e; exact Or.inl ⟨rfl, h⟩
    · subst e; exact Or.inr ⟨rfl, fun ⟨u, hu, e⟩ => h u (by omega) e⟩
  | succ q ih =>
    intro v n b hv hn hb
    obtain ⟨n, rfl⟩ : ∃ m, n = m + 1 := ⟨n - 1, by omega⟩
    unfold f_X6_isTaken_5
    rw [hM.2.1.2.2, if_neg (nI_ge (by omega) (by omega))]
    rcases hb with ⟨e, h⟩ | ⟨e, h⟩
    · subst e
      rw [if_neg (by decide)]
      unfold f_X6_isTaken_29 f_X6_isTaken_34
      rw [lt_e, nI_inc]
      exact ih (v + 1) n 1 (by omega) (by omega) (Or.inl ⟨rfl, h⟩)
    · subst e
      rw [if_pos rfl, mAt hM (by omega) hk, bd_s]
      by_cases e : E (45 + v) k = d
      · rw [if_pos e]
        unfold f_X6_isTaken_29 f_X6_isTaken_34
        rw [lt_e, nI_inc]
        exact ih (v + 1) n 1 (by omega) (by omega) (Or.inl ⟨rfl, v, by omega, e⟩)
      · rw [if_neg e]
        unfold f_X6_isTaken_34
        rw [lt_e, nI_inc]
        exact ih (v + 1) n 0 (by omega) (by omega) (Or.inr ⟨rfl, fun u hu => by
          by_cases e2 : u = v
          · subst e2; exact e
          · exact h u (by omega)⟩)
theorem mTaken {E s : dd_S} {T D V k : Nat} (d : Int32) (hM : MI E s T D V) (hV : V ≤ 8) (hk : k < 7) : (f_X6_isTaken s (nI k) d = some 1 ∧ HdOn E V d k) ∨ (f_X6_isTaken s (nI k) d = some 0 ∧ ¬ HdOn E V d k) := mt_loop hM hV hk V 0 64 0 (by omega) (by omega) (Or.inr ⟨rfl, fun u h => absurd h (Nat.not_lt_zero u)⟩)
theorem had_both {E s : dd_S} {T D V k : Nat} {L : Nat → List Nat} (d : Int32) (hC : CI E T D V L) (hM : MI E s T D V) (hk : k < 7) : (f_X5_isHadOn E d (nI k) = some 1 ∧ f_X6_isTaken s (nI k) d = some 1 ∧ HdOn E V d k) ∨ (f_X5_isHadOn E d (nI k) = some 0 ∧ f_X6_isTaken s (nI k) d = some 0 ∧ ¬ HdOn E V d k) := by
  have hV := hC.1.2.2
  rcases cHad d hV hC.2.1.2.2 hk with ⟨a1, a2⟩ | ⟨a1, a2⟩ <;> rcases mTaken d hM hV hk with ⟨b1, b2⟩ | ⟨b1, b2⟩
  · exact Or.inl ⟨a1, b1, a2⟩
  · exact absurd a2 b2
  · exact absurd b2 a2
  · exact Or.inr ⟨a1, b1, a2⟩
theorem fix_both {E s : dd_S} {T D V : Nat} {L : Nat → List Nat} (d : Int32) (hC : CI E T D V L) (hM : MI E s T D V) : (f_X5_isFixed E d = some 1 ∧ f_X6_isFixed s d = some 1 ∧ Fxd E V d) ∨ (f_X5_isFixed E d = some 0 ∧ f_X6_isFixed s d = some 0 ∧ ¬ Fxd E V d) := by
  have hV := hC.1.2.2
  rcases cFix d hV hC.2.1.2.2 with ⟨a1, a2⟩ | ⟨a1, a2⟩ <;> rcases mFix d hV hM with ⟨b1, b2⟩ | ⟨b1, b2⟩
  · exact Or.inl ⟨a1, b1, a2⟩
  · exact absurd a2 b2
  · exact absurd b2 a2
  · exact Or.inr ⟨a1, b1, a2⟩
theorem on_both {E s : dd_S} {T D V v : Nat} {L : Nat → List Nat} (hC : CI E T D V L) (hM : MI E s T D V) (hv : v < 8) (b : Int32) : ∃ x, f_X5_dutyOn E (nI v) b = some x ∧ f_X6_at s (nI v) b = some x ∧ (x = -1 ∨ ∃ d, d < D ∧ x = nI d) := by
  rcases rng_d b 7 (by decide) with ⟨h, -, -⟩ | ⟨-, -, -, k, hk, rfl⟩
  · exact ⟨-1, don_out h, mAt_out h, Or.inl rfl⟩
  · exact ⟨_, don_ev hv hk, mAt hM hv hk, hC.2.2.2.1 v k hv hk⟩
theorem cbetw {E : dd_S} {d1 d2 : Nat} (h1 : d1 < 12) (h2 : d2 < 12) : f_X5_restBetween E (nI d1) (nI d2) = some ((E d2 2 + 1440) - E d1 3) := by
  unfold f_X5_restBetween
  rw [dat_ev h2, bd_s, dat_ev h1, bd_s]
theorem mbetw {E s : dd_S} {T D V d1 d2 : Nat} {L : Nat → List Nat} (hC : CI E T D V L) (hM : MI E s T D V) (h1 : d1 < 12) (h2 : d2 < 12) : ∃ s2, f_X6_between s (nI d1) (nI d2) = some ((E d2 2 + 1440) - E d1 3, s2) ∧ FrM s s2 := by
  obtain ⟨s1, a1, a2⟩ := mlook hC hM h1
  obtain ⟨s2, b1, b2⟩ := mlook hC (hM.fr a2.fr) h2
  refine ⟨s2, ?_, a2.fr.trans b2.fr⟩
  unfold f_X6_between
  rw [a1, bd2_s, b1, bd2_s, show s2 0 17 = ftS E (L d2) 2 from b2.2.2.2.1 2 (by decide) (by decide), show s1 0 18 = ftS E (L d1) 3 from a2.2.2.2.1 3 (by decide) (by decide), (hC.2.2.2.2.2.1 d2 h2).2.2 2 (by decide) (by decide), (hC.2.2.2.2.2.1 d1 h1).2.2 3 (by decide) (by decide)]
theorem rest_both {E s : dd_S} {T D V v d : Nat} {L : Nat → List Nat} (hC : CI E T D V L) (hM : MI E s T D V) (hv : v < 8) (hd : d < 12) (b : Int32) : ∃ r s2, f_X5_hasRest E (nI v) b (nI d) = some r ∧ f_X6_hasRest s (nI v) b (nI d) = some (r, s2) ∧ FrM s s2 := by
  have hD := hC.1.2.1
  obtain ⟨x, x1, x2, x3⟩ := on_both hC hM hv (b - 1)
  obtain ⟨y, y1, y2, y3⟩ := on_both hC hM hv (b + 1)
  have h35 : ∀ s1, FrM s s1 → ∃ r s2, f_X5_hasRest_35 E (nI v) b (nI d) = some r ∧ f_X6_hasRest_40 (nI v) b (nI d) s1 y = some (r, s2) ∧ FrM s s2 := fun s1 hf => by
    unfold f_X5_hasRest_35 f_X6_hasRest_40
    rw [y1, bd_s]
    rcases y3 with e | ⟨d2, hd2, e⟩
    · rw [e, if_pos rfl, if_pos rfl]
      exact ⟨1, s1, rfl, rfl, hf⟩
    · obtain ⟨s2, b1, b2⟩ := mbetw hC (hM.fr hf) hd (show d2 < 12 by omega)
      have h14 : s2 0 14 = E 32 3 := by rw [b2.2 14 (by omega)]; exact (hM.fr hf).1.2.2.2.2.2.2.2.2
      rw [e, if_neg (nI_m1 (by omega)), if_neg (nI_m1 (by omega)), cbetw hd (by omega), bd_s, b1, bd2_s, h14]
      by_cases c : (E d2 2 + 1440) - E d 3 < E 32 3
      · rw [if_pos c, if_pos c]; exact ⟨0, s2, rfl, rfl, hf.trans b2⟩
      · rw [if_neg c, if_neg c]; exact ⟨1, s2, rfl, rfl, hf.trans b2⟩
  unfold f_X5_hasRest f_X6_hasRest
  rw [x1, bd_s, x2, bd_s, y2, bd_s]
  rcases x3 with e | ⟨d2, hd2, e⟩
  · rw [e, if_pos rfl, if_pos rfl]
    exact h35 s FrM.refl
  · obtain ⟨s2, b1, b2⟩ := mbetw hC hM (show d2 < 12 by omega) hd
    have h14 : s2 0 14 = E 32 3 := by rw [b2.2 14 (by omega)]; exact hM.1.2.2.2.2.2.2.2.2
    rw [e, if_neg (nI_m1 (by omega)), if_neg (nI_m1 (by omega)), cbetw (by omega) hd, bd_s, b1, bd2_s, h14]
    by_cases c : E 32 3 ≤ (E d 2 + 1440) - E d2 3
    · rw [if_pos c, if_neg (i32_nlt.mpr c)]; exact h35 s2 b2
    · rw [if_neg c, if_pos (i32_nle.mp c)]; exact ⟨0, s2, rfl, rfl, b2⟩
