/-! THE EASY CALLS -/
theorem rng_d (a : Int32) (n : Nat) (hn : n < 2 ^ 31) : (rng a n = 0 ∧ (a < 0 ∨ (¬ a < 0 ∧ nI n ≤ a)) ∧ ∀ m, m < n → a ≠ nI m) ∨ (rng a n = 1 ∧ ¬ a < 0 ∧ ¬ nI n ≤ a ∧ ∃ m, m < n ∧ a = nI m) := by
  rcases rng_c a n hn with ⟨h1, h2⟩ | ⟨h1, m, hm, h2⟩
  · refine Or.inl ⟨h1, ?_, h2⟩
    by_cases h : a < 0
    · exact Or.inl h
    · refine Or.inr ⟨h, ?_⟩
      by_cases h3 : nI n ≤ a
      · exact h3
      · unfold rng at h1
        rw [if_neg h, if_neg h3] at h1
        exact absurd h1 (by decide)
  · exact Or.inr ⟨h1, by rw [h2]; exact nI_pos (by omega), by rw [h2]; exact nI_ge hm hn, m, hm, h2⟩
theorem nlit : nI 0 = (0 : Int32) ∧ nI 1 = (1 : Int32) ∧ nI 2 = (2 : Int32) ∧ nI 3 = (3 : Int32) ∧ nI 4 = (4 : Int32) := ⟨rfl, rfl, rfl, rfl, rfl⟩
/-- the desk's two counts may grow -/
theorem CI.desk {a b : dd_S} {T D V D2 V2 : Nat} {L : Nat → List Nat} (hf : ∀ k, k ≠ 30 → ¬ Scr k → b k = a k) (h5 : b 30 5 = nI D2) (h6 : b 30 6 = nI V2) (hD : D ≤ D2) (hD2 : D2 ≤ 12) (hV2 : V2 ≤ 8) (h : CI a T D V L) : CI b T D2 V2 L := by
  obtain ⟨h1, h2, h3, h4, h5', h6', h7⟩ := h
  have hE : EnvEq a b := fun k hk => hf k (by omega) (by unfold Scr; omega)
  refine ⟨⟨h1.1, hD2, hV2⟩, ⟨by rw [hf 31 (by decide) (by unfold Scr; omega)]; exact h2.1, h5, h6⟩, h3.env hE, fun v k hv hk => ?_, fun t ht => ?_, fun d hd => ?_, ?_, fun j h2 h8 => ?_⟩
  · rw [hf (45 + v) (by omega) (by unfold Scr; omega)]
    rcases h4 v k hv hk with e | ⟨d, hd, e⟩
    · exact Or.inl e
    · exact Or.inr ⟨d, by omega, e⟩
  · rw [hf 34 (by omega) (by unfold Scr; omega)]
    rcases h5' t ht with e | ⟨q, d, hd, e⟩
    · exact Or.inl e
    · exact Or.inr ⟨q, d, by omega, e⟩
  · obtain ⟨a1, a2, a3⟩ := h6' d hd
    have hk : b d = a d := hf d (by omega) (by unfold Scr; omega)
    refine ⟨by rw [hE.p.2.2.1, hf 34 (by omega) (by unfold Scr; omega)]; exact a1, ⟨by rw [hk]; exact a2.1, by rw [hf (15 + d) (by omega) (by unfold Scr; omega)]; exact a2.2⟩, fun j h2 h8 => by rw [hk, hE.ft]; exact a3 j h2 h8⟩
  · rw [hf 14 (by omega) (by unfold Scr; omega)]; exact h7.1
  · rw [hf 14 (by omega) (by unfold Scr; omega), hE.ft]; exact h7.2 j h2 h8
theorem rng_1 {n m : Nat} (h : m < n) (hn : n < 2 ^ 31) : rng (nI m) n = 1 := by
  unfold rng; rw [if_neg (nI_pos (by omega)), if_neg (nI_ge h hn)]
theorem don_out {sM : dd_S} {a b : Int32} (h : rng b 7 = 0) : f_X5_dutyOn sM a b = some (-1) := by
  unfold f_X5_dutyOn
  split
  · rfl
  · split
    · rfl
    · rcases rng_d b 7 (by decide) with ⟨-, g | ⟨g, g2⟩, -⟩ | ⟨g, -⟩
      · rw [if_pos g]; rfl
      · rw [if_neg g, if_pos (show (7 : Int32) ≤ b from g2)]; rfl
      · rw [h] at g; exact absurd g (by decide)
/-- one entry of the roster -/
theorem CI.roster {a : dd_S} {T D V v k : Nat} {x : Int32} {L : Nat → List Nat} (hv : v < 8) (hk : k < 7) (hx : x = -1 ∨ ∃ d, d < D ∧ x = nI d) (h : CI a T D V L) : CI (st2 a (45 + v) k x) T D V L := by
  obtain ⟨h1, h2, h3, h4, h5, h6, h7⟩ := h
  have hf : ∀ q, q ≠ 45 + v → st2 a (45 + v) k x q = a q := fun q hq => st2_k _ _ _ _ hq
  have hE : EnvEq a (st2 a (45 + v) k x) := fun q hq => hf q (by omega)
  refine ⟨h1, ⟨by rw [hf 31 (by omega)]; exact h2.1, by rw [hf 30 (by omega)]; exact h2.2.1, by rw [hf 30 (by omega)]; exact h2.2.2⟩, h3.env hE, fun v2 k2 hv2 hk2 => ?_, fun t ht => by rw [hf 34 (by omega)]; exact h5 t ht, fun d hd => ?_, by rw [hf 14 (by omega)]; exact h7.1, fun j h2 h8 => by rw [hf 14 (by omega), hE.ft]; exact h7.2 j h2 h8⟩
  · rw [st2_at]
    by_cases e : 45 + v2 = 45 + v
    · rw [if_pos e]
      by_cases e2 : k2 = k
      · rw [if_pos e2]; exact hx
      · rw [if_neg e2, ← e]; exact h4 v2 k2 hv2 hk2
    · rw [if_neg e]; exact h4 v2 k2 hv2 hk2
  · obtain ⟨a1, a2, a3⟩ := h6 d hd
    have hkd : st2 a (45 + v) k x d = a d := hf d (by omega)
    exact ⟨by rw [hE.p.2.2.1, hf 34 (by omega)]; exact a1, ⟨by rw [hkd]; exact a2.1, by rw [hf (15 + d) (by omega)]; exact a2.2⟩, fun j h2 h8 => by rw [hkd, hE.ft]; exact a3 j h2 h8⟩
/-! WHY A DUTY CANNOT BE GIVEN -/
def dnF (p : Nat → Bool) : Nat → Nat
  | 0 => 0
  | k + 1 => if p k then dnF p k else k + 1
def upF (p : Nat → Bool) : Nat → Nat → Nat
  | 0, k => k
  | n + 1, k => if p (k + 1) then upF p n (k + 1) else k
def lgF (p : Nat → Bool) (k : Nat) : Nat → Nat → Nat → Nat → Nat
  | 0, _, lo, _ => lo
  | q + 1, j, lo, le => if j = k ∨ p j = true then lgF p k q (j + 1) (if lo < le + 1 then le + 1 else lo) (le + 1) else lgF p k q (j + 1) (if lo < 0 then 0 else lo) 0
def bitF (b0 b1 b2 b3 b4 b5 b6 : Bool) (j : Nat) : Bool := [b0, b1, b2, b3, b4, b5, b6].getD j false
theorem row_dec : ∀ b0 b1 b2 b3 b4 b5 b6 : Bool, ∀ k, k < 7 → decide (upF (bitF b0 b1 b2 b3 b4 b5 b6) (6 - k) k - dnF (bitF b0 b1 b2 b3 b4 b5 b6) k + 1 < 6) = decide (lgF (bitF b0 b1 b2 b3 b4 b5 b6) k 7 0 0 0 ≤ 5) := by decide +kernel
theorem dnF_le (p : Nat → Bool) : ∀ k, dnF p k ≤ k := by
  intro k
  induction k with
  | zero => exact Nat.le_refl _
  | succ k ih => unfold dnF; split <;> omega
theorem upF_ge (p : Nat → Bool) : ∀ n k, k ≤ upF p n k ∧ upF p n k ≤ k + n := by
  intro n
  induction n with
  | zero => intro k; exact ⟨Nat.le_refl _, Nat.le_refl _⟩
  | succ n ih => intro k; unfold upF; have := ih (k + 1); split <;> omega
theorem lgF_le (p : Nat → Bool) (k : Nat) : ∀ q j lo le, le ≤ j → lo ≤ j → lgF p k q j lo le ≤ j + q := by
  intro q
  induction q with
  | zero => intro j lo le h1 h2; unfold lgF; omega
  | succ q ih =>
    intro j lo le h1 h2
    unfold lgF
    split
    · have := ih (j + 1) (if lo < le + 1 then le + 1 else lo) (le + 1) (by omega) (by split <;> omega)
      omega
    · have := ih (j + 1) (if lo < 0 then 0 else lo) 0 (by omega) (by split <;> omega)
      omega
theorem cu_loop {E : dd_S} {v : Nat} {p : Nat → Bool} {a : Int32} {f : Nat} (hv : v < 8) (hp : ∀ j, j < 7 → p j = decide (E (45 + v) j ≠ -1)) : ∀ (q k n : Nat), k + q = 6 → q < n → f_X5_daysInARow_27 E (nI v) a n (nI f) (nI k) = some (nI (upF p q k) - nI f + 1) := by
  intro q
  induction q with
  | zero =>
    intro k n hk hn
    obtain ⟨n, rfl⟩ : ∃ m, n = m + 1 := ⟨n - 1, by omega⟩
    have : k = 6 := by omega
    subst this
    rfl
  | succ q ih =>
    intro k n hk hn
    obtain ⟨n, rfl⟩ : ∃ m, n = m + 1 := ⟨n - 1, by omega⟩
    unfold f_X5_daysInARow_27
    rw [if_neg (show ¬ (6 : Int32) ≤ nI k from nI_ge (b := 6) (by omega) (by omega)), nI_inc, don_ev hv (by omega), bd_s]
    unfold upF
    have hpk := hp (k + 1) (by omega)
    by_cases e : E (45 + v) (k + 1) = -1
    · rw [if_pos e, if_neg (by rw [hpk]; simp [e])]; rfl
    · rw [if_neg e, lt_e, if_pos (by rw [hpk]; simp [e])]
      exact ih (k + 1) n (by omega) (by omega)
theorem cd_loop {E : dd_S} {v k : Nat} {p : Nat → Bool} (hv : v < 8) (hk : k < 7) (hp : ∀ j, j < 7 → p j = decide (E (45 + v) j ≠ -1)) : ∀ (f n : Nat), f ≤ k → f < n → f_X5_daysInARow_2 E (nI v) (nI k) n (nI f) = some (nI (upF p (6 - k) k) - nI (dnF p f) + 1) := by
  intro f
  induction f with
  | zero =>
    intro n hf hn
    obtain ⟨n, rfl⟩ : ∃ m, n = m + 1 := ⟨n - 1, by omega⟩
    unfold f_X5_daysInARow_2
    rw [if_pos (show nI 0 ≤ (0 : Int32) by decide)]
    exact cu_loop hv hp (6 - k) k 64 (by omega) (by omega)
  | succ f ih =>
    intro n hf hn
    obtain ⟨n, rfl⟩ : ∃ m, n = m + 1 := ⟨n - 1, by omega⟩
    have hpos : ¬ nI (f + 1) ≤ (0 : Int32) := nI_nle (by omega) (by omega)
    unfold f_X5_daysInARow_2
    rw [if_neg hpos, nI_sub1 (by omega), Nat.add_sub_cancel, don_ev hv (by omega), bd_s]
    unfold dnF
    have hpk := hp f (by omega)
    by_cases e : E (45 + v) f = -1
    · rw [if_pos e, if_neg (by rw [hpk]; simp [e])]
      exact cu_loop hv hp (6 - k) k 64 (by omega) (by omega)
    · rw [if_neg e, lt_e, if_pos (by rw [hpk]; simp [e]), nI_dec (by omega), Nat.add_sub_cancel]
      exact ih n (by omega) (by omega)
theorem cbetw {E : dd_S} {d1 d2 : Nat} (h1 : d1 < 12) (h2 : d2 < 12) : f_X5_restBetween E (nI d1) (nI d2) = some ((E d2 2 + 1440) - E d1 3) := by
  unfold f_X5_restBetween
  rw [dat_ev h2, bd_s, dat_ev h1, bd_s]
/-- a row of a duty that isn't there is empty -/
theorem CI.none {E : dd_S} {T D V d : Nat} {L : Nat → List Nat} (hC : CI E T D V L) (h1 : D ≤ d) (h2 : d < 12) : L d = [] := by
  have hT := hC.1.1
  have hD := hC.1.2.1
  cases hl : L d with
  | nil => rfl
  | cons x r =>
    have hx := ((hC.2.2.2.2.2.1 d h2).1.2 x).mp (by rw [hl]; simp)
    rcases hC.2.2.2.2.1 x (by omega) with e | ⟨-, d2, hd2, e⟩
    · rw [hx.2] at e; exact absurd e (nI_m1 (by omega))
    · rw [hx.2] at e
      have := nI_inj (by omega) (by omega) e
      omega
/-! addTrip: what is measured depends on the row's own trips alone -/
def EnvOn (l : List Nat) (s1 s2 : dd_S) : Prop := s2 32 = s1 32 ∧ (∀ k, 53 ≤ k → s2 k = s1 k) ∧ ∀ t ∈ l, s2 41 t = s1 41 t ∧ s2 42 t = s1 42 t ∧ s2 43 t = s1 43 t ∧ s2 44 t = s1 44 t
theorem EnvOn.wyE {l : List Nat} {s1 s2 : dd_S} (h : EnvOn l s1 s2) (a b : Int32) : wy s2 a b = wy s1 a b := by
  unfold wy; rw [h.2.1 _ (by omega)]
theorem EnvOn.tail {x : Nat} {l : List Nat} {s1 s2 : dd_S} (h : EnvOn (x :: l) s1 s2) : EnvOn l s1 s2 := ⟨h.1, h.2.1, fun t ht => h.2.2 t (List.mem_cons_of_mem _ ht)⟩
theorem EnvOn.mstE {s1 s2 : dd_S} : ∀ (r : List Nat) (e : Nat) (dr br wk mo rt : Int32), EnvOn (e :: r) s1 s2 → mst s2 e r dr br wk mo rt = mst s1 e r dr br wk mo rt := by
  intro r
  induction r with
  | nil =>
    intro e dr br wk mo rt h
    have he := h.2.2 e (by simp)
    unfold mst; rw [h.wyE, he.2.1]
  | cons x r ih =>
    intro e dr br wk mo rt h
    have he := h.2.2 e (by simp)
    have hx := h.2.2 x (by simp)
    unfold mst
    rw [h.wyE, he.2.1, he.2.2.2, hx.1, hx.2.2.1, hx.2.2.2, h.1, ih _ _ _ _ _ _ h.tail, ih _ _ _ _ _ _ h.tail]
theorem EnvOn.ft {l : List Nat} {s1 s2 : dd_S} (h : EnvOn l s1 s2) (j : Nat) : ftS s2 l j = ftS s1 l j := by
  cases l with
  | nil => rfl
  | cons x r =>
    have hx := h.2.2 x (by simp)
    have hy := h.2.2 ((x :: r).getLast (by simp)) (List.getLast_mem _)
    have eb : bgS s2 x = bgS s1 x := by unfold bgS; rw [h.wyE, hx.1, hx.2.2.1]
    have ee : enS s2 ((x :: r).getLast (by simp)) = enS s1 ((x :: r).getLast (by simp)) := by unfold enS; rw [h.wyE, hy.2.1, hy.2.2.2]
    have em : mstS s2 x r = mstS s1 x r := by
      unfold mstS
      rw [EnvOn.mstE r x _ _ _ _ _ h, h.wyE, hx.1, hx.2.2.1, hx.2.2.2, eb, ee]
    simp only [ftS, em, eb, ee, h.1]
/-! digest -/
def gF (E : dd_S) : Nat → Nat → Int64 → Int64
  | 0, _, v => v
  | q + 1, i, v => gF E q (i + 1) (v * 31 + (E (45 + i / 7) (i % 7)).toInt64)
theorem gF_add (E : dd_S) : ∀ (a b i : Nat) (v : Int64), gF E (a + b) i v = gF E b (i + a) (gF E a i v) := by
  intro a
  induction a with
  | zero => intro b i v; simp [gF]
  | succ a ih =>
    intro b i v
    rw [show a + 1 + b = (a + b) + 1 by omega]
    show gF E (a + b) (i + 1) _ = gF E b (i + (a + 1)) (gF E a (i + 1) _)
    rw [ih, show i + 1 + a = i + (a + 1) by omega]
theorem tf_ev {E : dd_S} {t m : Nat} (ht : t < 40) (hm : m < 5) : f_X5_tripFact E (nI t) (nI m) = some (if m = 0 then E 41 t else if m = 1 then E 42 t else if m = 2 then E 43 t else if m = 3 then E 44 t else E 34 t) := by
  unfold f_X5_tripFact
  rw [fro_ev ht, to_ev ht, dep_ev ht, arr_ev ht, dof_ev ht]
  rcases (show m = 0 ∨ m = 1 ∨ m = 2 ∨ m = 3 ∨ m = 4 by omega) with rfl | rfl | rfl | rfl | rfl <;> rfl
