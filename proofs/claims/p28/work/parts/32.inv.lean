/-! WHAT HOLDS BETWEEN THE CALLS -/
def CI (E : dd_S) (T D V : Nat) (L : Nat → List Nat) : Prop := (T ≤ 40 ∧ D ≤ 12 ∧ V ≤ 8) ∧ (E 31 5 = nI T ∧ E 30 5 = nI D ∧ E 30 6 = nI V) ∧ EnvB E T ∧ (∀ v k : Nat, v < 8 → k < 7 → E (45 + v) k = -1 ∨ ∃ d, d < D ∧ E (45 + v) k = nI d) ∧ (∀ t, t < 40 → E 34 t = -1 ∨ (t < T ∧ ∃ d, d < D ∧ E 34 t = nI d)) ∧ (∀ d, d < 12 → IsRow (E 43) (E 34) T (nI d) (L d) ∧ DutyAt E d (L d) ∧ ∀ j, 2 ≤ j → j ≤ 8 → E d j = ftS E (L d) j) ∧ (E 14 1 = 0 ∧ ∀ j, 2 ≤ j → j ≤ 8 → E 14 j = ftS E [] j)
/-! scratch -/
def Scr (k : Nat) : Prop := k = 12 ∨ k = 13 ∨ k = 27 ∨ k = 28
/-- and the queue and the exchange with them -/
def Scw (k : Nat) : Prop := k = 12 ∨ k = 13 ∨ k = 27 ∨ k = 28 ∨ (36 ≤ k ∧ k ≤ 39)
def FrS (s1 s2 : dd_S) : Prop := ∀ k, ¬ Scr k → s2 k = s1 k
def FrW (s1 s2 : dd_S) : Prop := ∀ k, ¬ Scw k → s2 k = s1 k
theorem FrS.w {s1 s2 : dd_S} (h : FrS s1 s2) : FrW s1 s2 := fun k hk => h k (fun q => hk (by unfold Scr at q; unfold Scw; omega))
theorem FrW.refl {s : dd_S} : FrW s s := fun _ _ => rfl
theorem FrW.trans {a b c : dd_S} (h1 : FrW a b) (h2 : FrW b c) : FrW a c := fun k h => (h2 k h).trans (h1 k h)
theorem FrW.env {a b : dd_S} (h : FrW a b) : EnvEq a b := fun k hk => h k (by unfold Scw; omega)
theorem FrS.refl {s : dd_S} : FrS s s := fun _ _ => rfl
theorem FrS.trans {a b c : dd_S} (h1 : FrS a b) (h2 : FrS b c) : FrS a c := fun k h => (h2 k h).trans (h1 k h)
theorem FrS.env {a b : dd_S} (h : FrS a b) : EnvEq a b := fun k hk => h k (by unfold Scr; omega)
theorem FrD.s12 {a b : dd_S} (h : FrD 12 a b) : FrS a b := fun k hk => h k (by unfold Scr at hk; omega) (by unfold Scr at hk; omega)
theorem FrD.s13 {a b : dd_S} (h : FrD 13 a b) : FrS a b := fun k hk => h k (by unfold Scr at hk; omega) (by unfold Scr at hk; omega)
theorem one12 {a b : dd_S} (h : ∀ k, k ≠ 12 → b k = a k) : FrS a b := fun k hk => h k (by unfold Scr at hk; omega)
theorem one13 {a b : dd_S} (h : ∀ k, k ≠ 13 → b k = a k) : FrS a b := fun k hk => h k (by unfold Scr at hk; omega)
theorem EnvB.env {a b : dd_S} {T : Nat} (h : EnvEq a b) (hB : EnvB a T) : EnvB b T := by
  obtain ⟨e1, e2, e3, e4, e5⟩ := h.p
  refine ⟨fun t ht => ?_, fun x y hx hy => ?_, ?_⟩
  · have := hB.1 t ht
    exact ⟨this.1.env h, by rw [e3]; exact this.2.1, by rw [e3, e4]; exact this.2.2.1, by rw [e4]; exact this.2.2.2⟩
  · rw [h (53 + x) (by omega)]; exact hB.2.1 x y hx hy
  · rw [e5]; exact hB.2.2
theorem CI.frw {a b : dd_S} {T D V : Nat} {L : Nat → List Nat} (hf : FrW a b) (h : CI a T D V L) : CI b T D V L := by
  obtain ⟨h1, h2, h3, h4, h5, h6, h7⟩ := h
  have hE := hf.env
  refine ⟨h1, ⟨by rw [hf 31 (by unfold Scw; omega)]; exact h2.1, by rw [hf 30 (by unfold Scw; omega)]; exact h2.2.1, by rw [hf 30 (by unfold Scw; omega)]; exact h2.2.2⟩, h3.env hE, fun v k hv hk => ?_, fun t ht => ?_, fun d hd => ?_, ?_, fun j h2 h8 => ?_⟩
  · rw [hf (45 + v) (by unfold Scw; omega)]; exact h4 v k hv hk
  · rw [hf 34 (by unfold Scw; omega)]; exact h5 t ht
  · obtain ⟨a1, a2, a3⟩ := h6 d hd
    have hk : b d = a d := hf d (by unfold Scw; omega)
    refine ⟨by rw [hE.p.2.2.1, hf 34 (by unfold Scw; omega)]; exact a1, ⟨by rw [hk]; exact a2.1, by rw [hf (15 + d) (by unfold Scw; omega)]; exact a2.2⟩, fun j h2 h8 => by rw [hk, hE.ft]; exact a3 j h2 h8⟩
  · rw [hf 14 (by unfold Scw; omega)]; exact h7.1
  · rw [hf 14 (by unfold Scw; omega), hE.ft]; exact h7.2 j h2 h8
theorem CI.fr {a b : dd_S} {T D V : Nat} {L : Nat → List Nat} (hf : FrS a b) (h : CI a T D V L) : CI b T D V L := h.frw hf.w
theorem IsRow.congr {dep du du2 : Nat → Int32} {T : Nat} {d : Int32} {l : List Nat} (h : IsRow dep du T d l) (e : ∀ t, t < T → du2 t = du t) : IsRow dep du2 T d l := ⟨h.1, fun t => (h.2 t).trans ⟨fun q => ⟨q.1, (e t q.1).trans q.2⟩, fun q => ⟨q.1, (e t q.1).symm.trans q.2⟩⟩⟩
/-! ranges -/
def rng (a : Int32) (n : Nat) : Int32 := if a < 0 then 0 else if nI n ≤ a then 0 else 1
theorem rng_c (a : Int32) (n : Nat) (hn : n < 2 ^ 31) : (rng a n = 0 ∧ ∀ m, m < n → a ≠ nI m) ∨ (rng a n = 1 ∧ ∃ m, m < n ∧ a = nI m) := by
  unfold rng
  by_cases h : a < 0
  · rw [if_pos h]
    exact Or.inl ⟨rfl, fun m hm e => by subst e; exact nI_pos (by omega) h⟩
  · rw [if_neg h]
    by_cases h2 : nI n ≤ a
    · rw [if_pos h2]
      exact Or.inl ⟨rfl, fun m hm e => by subst e; exact nI_ge hm hn h2⟩
    · rw [if_neg h2]
      exact Or.inr ⟨rfl, nI_upto h (i32_nle.mp h2) hn⟩
theorem rng_bz (a : Int32) (n : Nat) : bz (rng a n) = true := by unfold rng; exact bz_if bz_0 (bz_if bz_0 bz_1)
theorem crng {a : Int32} {n : Nat} {f : Int32 → Option Int32} (h0 : f 0 = some 0) (h1 : f 1 = some 1) : (if a < (0 : Int32) then f 0 else if nI n ≤ a then f 0 else f 1) = some (rng a n) := by
  unfold rng
  split
  · exact h0
  · split
    · exact h0
    · exact h1
theorem cTrip {sg : dd_S} {n : Nat} (h : sg 31 5 = nI n) (a : Int32) : f_X5_isTrip sg a = some (rng a n) := by
  unfold f_X5_isTrip; rw [h]; exact crng (f := f_X5_isTrip_20 sg a) rfl rfl
theorem cDuty {sg : dd_S} {n : Nat} (h : sg 30 5 = nI n) (a : Int32) : f_X5_isDuty sg a = some (rng a n) := by
  unfold f_X5_isDuty; rw [h]; exact crng (f := f_X5_isDuty_17 sg a) rfl rfl
theorem cDriver {sg : dd_S} {n : Nat} (h : sg 30 6 = nI n) (a : Int32) : f_X5_isDriver sg a = some (rng a n) := by
  unfold f_X5_isDriver; rw [h]; exact crng (f := f_X5_isDriver_17 sg a) rfl rfl
theorem cDay (sg : dd_S) (a : Int32) : f_X5_isDay sg a = some (rng a 7) := by
  unfold f_X5_isDay; exact crng (n := 7) (f := f_X5_isDay_15 sg a) rfl rfl
theorem cPoint (sg : dd_S) (a : Int32) : f_X5_isPoint sg a = some (rng a 6) := by
  unfold f_X5_isPoint; exact crng (n := 6) (f := f_X5_isPoint_15 sg a) rfl rfl
theorem below {n : Nat} {a b : Int32} (hn : n < 2 ^ 31) (hb : b.toInt = (n : Int) - 1) : (b < a) ↔ nI n ≤ a := by
  rw [Int32.lt_iff_toInt_lt, Int32.le_iff_toInt_le, hb]
  rw [nI_toInt hn]
  omega
theorem pred_toInt {n : Nat} (h : n < 1000) : (nI n - 1).toInt = (n : Int) - 1 := by
  have e1 : (1 : Int32).toInt = 1 := by decide
  rw [i32_sub (by rw [nI_toInt (by omega)]; omega) (by rw [nI_toInt (by omega)]; omega), nI_toInt (by omega), e1]
theorem dof_ev {sg : dd_S} {t : Nat} (h : t < 40) : f_X5_dutyOf sg (nI t) = some (sg 34 t) := by
  unfold f_X5_dutyOf
  rw [if_neg (nI_pos (by omega)), if_neg (show ¬ (40 : Int32) ≤ _ from nI_ge (b := 40) h (by decide)), gd_p (ix_ok h (by decide)), nI_clamp (by omega)]; rfl
theorem dat_ev {sg : dd_S} {d : Nat} (h : d < 12) : f_X5_dutyAt sg (nI d) = some d := by
  unfold f_X5_dutyAt
  rw [if_neg (nI_pos (by omega)), if_neg (show ¬ (12 : Int32) ≤ _ from nI_ge (b := 12) h (by decide)), gd_p (ix_ok h (by decide)), nI_clamp (by omega)]; rfl
theorem dat_m1 {sg : dd_S} : f_X5_dutyAt sg (-1) = some 14 := by
  unfold f_X5_dutyAt
  rw [if_pos (by decide)]; rfl
theorem asg_ev {sg : dd_S} {t : Nat} {v : Int32} (h : t < 40) : f_X5_assign sg (nI t) v = some (st2 sg 34 t v) := by
  unfold f_X5_assign
  rw [if_neg (nI_pos (by omega)), if_neg (show ¬ (40 : Int32) ≤ _ from nI_ge (b := 40) h (by decide)), gd_p (ix_ok h (by decide)), nI_clamp (by omega)]; rfl
theorem don_ev {sg : dd_S} {v k : Nat} (h : v < 8) (hk : k < 7) : f_X5_dutyOn sg (nI v) (nI k) = some (sg (45 + v) k) := by
  unfold f_X5_dutyOn
  rw [if_neg (nI_pos (by omega)), if_neg (show ¬ (8 : Int32) ≤ _ from nI_ge (b := 8) h (by decide)), if_neg (nI_pos (by omega)), if_neg (show ¬ (7 : Int32) ≤ _ from nI_ge (b := 7) hk (by decide)), gd_p (ix_ok h (by decide)), gd_p (ix_ok hk (by decide)), nI_clamp (by omega), nI_clamp (by omega)]; rfl
theorem ent_ev {sg : dd_S} {v k : Nat} {x : Int32} (h : v < 8) (hk : k < 7) : f_X5_enter sg (nI v) (nI k) x = some (st2 sg (45 + v) k x) := by
  unfold f_X5_enter
  rw [if_neg (nI_pos (by omega)), if_neg (show ¬ (8 : Int32) ≤ _ from nI_ge (b := 8) h (by decide)), if_neg (nI_pos (by omega)), if_neg (show ¬ (7 : Int32) ≤ _ from nI_ge (b := 7) hk (by decide)), gd_p (ix_ok h (by decide)), gd_p (ix_ok hk (by decide)), nI_clamp (by omega), nI_clamp (by omega)]; rfl
/-! who has a duty -/
def HdOn (E : dd_S) (V : Nat) (d : Int32) (k : Nat) : Prop := ∃ v, v < V ∧ E (45 + v) k = d
def Fxd (E : dd_S) (V : Nat) (d : Int32) : Prop := ∃ k, k < 7 ∧ HdOn E V d k
theorem ch_loop {E : dd_S} {V : Nat} {d : Int32} {k : Nat} (hV : V ≤ 8) (h6 : E 30 6 = nI V) (hk : k < 7) : ∀ (q v n : Nat), v + q = V → q < n → (∀ u, u < v → E (45 + u) k ≠ d) →
    (f_X5_isHadOn_2 E d (nI k) n (nI v) = some 1 ∧ HdOn E V d k) ∨ (f_X5_isHadOn_2 E d (nI k) n (nI v) = some 0 ∧ ¬ HdOn E V d k) := by
  intro q
  induction q with
  | zero =>
    intro v n hv hn hu
    obtain ⟨n, rfl⟩ : ∃ m, n = m + 1 := ⟨n - 1, by omega⟩
    have e : v = V := by omega
    subst e
    unfold f_X5_isHadOn_2
    rw [h6, if_pos ((nI_le_iff (by omega) (by omega)).mpr (Nat.le_refl _))]
    exact Or.inr ⟨rfl, fun ⟨u, h1, h2⟩ => hu u h1 h2⟩
  | succ q ih =>
    intro v n hv hn hu
    obtain ⟨n, rfl⟩ : ∃ m, n = m + 1 := ⟨n - 1, by omega⟩
    unfold f_X5_isHadOn_2
    rw [h6, if_neg (nI_ge (by omega) (by omega)), don_ev (by omega) hk, bd_s]
    by_cases e : E (45 + v) k = d
    · rw [if_pos e]
      exact Or.inl ⟨rfl, v, by omega, e⟩
    · rw [if_neg e, lt_e, nI_inc]
      exact ih (v + 1) n (by omega) (by omega) (fun u hu1 => by
        by_cases e2 : u = v
        · subst e2; exact e
        · exact hu u (by omega))
theorem cHad {E : dd_S} {V : Nat} (d : Int32) {k : Nat} (hV : V ≤ 8) (h6 : E 30 6 = nI V) (hk : k < 7) : (f_X5_isHadOn E d (nI k) = some 1 ∧ HdOn E V d k) ∨ (f_X5_isHadOn E d (nI k) = some 0 ∧ ¬ HdOn E V d k) := ch_loop hV h6 hk V 0 64 (by omega) (by omega) (fun u h => absurd h (Nat.not_lt_zero u))
theorem cf_loop {E : dd_S} {V : Nat} {d : Int32} (hV : V ≤ 8) (h6 : E 30 6 = nI V) : ∀ (q k n : Nat), k + q = 7 → q < n → (∀ u, u < k → ¬ HdOn E V d u) →
    (f_X5_isFixed_2 E d n (nI k) = some 1 ∧ Fxd E V d) ∨ (f_X5_isFixed_2 E d n (nI k) = some 0 ∧ ¬ Fxd E V d) := by
  intro q
  induction q with
  | zero =>
    intro k n hk hn hu
    obtain ⟨n, rfl⟩ : ∃ m, n = m + 1 := ⟨n - 1, by omega⟩
    have e : k = 7 := by omega
    subst e
    unfold f_X5_isFixed_2
    rw [if_pos (show (7 : Int32) ≤ nI 7 by decide)]
    exact Or.inr ⟨rfl, fun ⟨u, h1, h2⟩ => hu u h1 h2⟩
  | succ q ih =>
    intro k n hk hn hu
    obtain ⟨n, rfl⟩ : ∃ m, n = m + 1 := ⟨n - 1, by omega⟩
    unfold f_X5_isFixed_2
    rw [if_neg (show ¬ (7 : Int32) ≤ nI k from nI_ge (b := 7) (by omega) (by omega))]
    rcases cHad (E := E) d hV h6 (show k < 7 by omega) with ⟨e, h⟩ | ⟨e, h⟩
    · rw [e, bd_s, if_neg (by decide)]
      exact Or.inl ⟨rfl, k, by omega, h⟩
    · rw [e, bd_s, if_pos rfl, lt_e, nI_inc]
      exact ih (k + 1) n (by omega) (by omega) (fun u hu1 => by
        by_cases e2 : u = k
        · subst e2; exact h
        · exact hu u (by omega))
theorem cFix {E : dd_S} {V : Nat} (d : Int32) (hV : V ≤ 8) (h6 : E 30 6 = nI V) : (f_X5_isFixed E d = some 1 ∧ Fxd E V d) ∨ (f_X5_isFixed E d = some 0 ∧ ¬ Fxd E V d) := cf_loop hV h6 7 0 64 (by omega) (by omega) (fun u h => absurd h (Nat.not_lt_zero u))
