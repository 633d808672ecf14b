/-! THE QUEUE: numbers in ascending order of their keys, those of the same key in the order they came; and the search for the least -/
def LexK (key : Nat → Int32) (a b : Nat) : Prop := key a < key b ∨ (key a = key b ∧ a < b)
theorem LexK.irr {key : Nat → Int32} {a : Nat} (h : LexK key a a) : False := by
  rcases h with h | h
  · exact i32_irr _ h
  · exact absurd h.2 (Nat.lt_irrefl _)
theorem LexK.asym {key : Nat → Int32} {a b : Nat} (h : LexK key a b) (h2 : LexK key b a) : False := by
  rcases h with h | ⟨h, h'⟩ <;> rcases h2 with g | ⟨g, g'⟩
  · exact i32_asym h g
  · rw [g] at h; exact i32_irr _ h
  · rw [h] at g; exact i32_irr _ g
  · omega
def QS (key : Nat → Int32) (Q : List Nat) : Prop := Q.Pairwise (LexK key)
theorem QS.nodup {key : Nat → Int32} {Q : List Nat} (h : QS key Q) : Q.Nodup := List.Pairwise.imp (fun {a b} hab e => by subst e; exact hab.irr) h
def QAt (s : dd_S) (key : Nat → Int32) (Q : List Nat) : Prop := s 36 2 = nI Q.length ∧ (∀ (i : Nat) (h : i < Q.length), s 37 i = key Q[i]) ∧ RowAt (s 38) Q
def FrQ (s1 s2 : dd_S) : Prop := ∀ k, k ≠ 36 → k ≠ 37 → k ≠ 38 → s2 k = s1 k
theorem FrQ.refl {s : dd_S} : FrQ s s := fun _ _ _ _ => rfl
theorem FrQ.trans {a b c : dd_S} (h1 : FrQ a b) (h2 : FrQ b c) : FrQ a c := fun k h3 h4 h5 => (h2 k h3 h4 h5).trans (h1 k h3 h4 h5)
theorem FrQ.w {a b : dd_S} (h : FrQ a b) : FrW a b := fun k hk => h k (by unfold Scw at hk; omega) (by unfold Scw at hk; omega) (by unfold Scw at hk; omega)
def GShift (c f : Nat → Int32) (l : List Nat) (m : Nat) : Prop := ∀ (j : Nat) (h : j < l.length), (j < m → f j = c l[j]) ∧ (m ≤ j → f (j + 1) = c l[j])
theorem GShift.step {c f : Nat → Int32} {l : List Nat} {m : Nat} (h : GShift c f l m) (h0 : 0 < m) (hm : m ≤ l.length) : GShift c (upd f m (f (m - 1))) l (m - 1) := by
  intro j hj
  constructor
  · intro h2
    simp only [upd, if_neg (show j ≠ m by omega)]
    exact (h j hj).1 (by omega)
  · intro h2
    by_cases e : j + 1 = m
    · simp only [upd, if_pos e]
      have e2 : m - 1 = j := by omega
      rw [e2]
      exact (h j hj).1 (by omega)
    · simp only [upd, if_neg e]
      exact (h j hj).2 (by omega)
theorem GShift.fill {c f : Nat → Int32} {l : List Nat} {m t : Nat} (h : GShift c f l m) (hm : m ≤ l.length) : ∀ (k : Nat) (hk : k < (l.take m ++ t :: l.drop m).length), upd f m (c t) k = c ((l.take m ++ t :: l.drop m)[k]) := by
  intro k hk
  rw [ins_len] at hk
  have hl : (l.take m).length = m := by rw [List.length_take]; omega
  rcases Nat.lt_trichotomy k m with h1 | h1 | h1
  · rw [List.getElem_append_left (by omega), List.getElem_take]
    simp only [upd, if_neg (show k ≠ m by omega)]
    exact (h k (by omega)).1 h1
  · subst h1
    rw [List.getElem_append_right (by omega)]
    simp [upd, hl]
  · obtain ⟨j, rfl⟩ : ∃ j, k = j + 1 := ⟨k - 1, by omega⟩
    rw [List.getElem_append_right (by omega)]
    simp only [upd, if_neg (show j + 1 ≠ m by omega)]
    rw [(h j (by omega)).2 (by omega)]
    have e : j + 1 - (l.take m).length = (j - m) + 1 := by omega
    have e2 : (t :: l.drop m)[j + 1 - (l.take m).length]'(by rw [List.length_cons, List.length_drop]; omega) = (t :: l.drop m)[(j - m) + 1]'(by rw [List.length_cons, List.length_drop]; omega) := by congr 1
    have e3 : l[j]'(by omega) = l[m + (j - m)]'(by omega) := by congr 1; omega
    rw [e2, List.getElem_cons_succ, List.getElem_drop, e3]
theorem ins_pw {R : Nat → Nat → Prop} {l : List Nat} {i t : Nat} (hp : l.Pairwise R) (h1 : ∀ (j : Nat) (h : j < l.length), j < i → R l[j] t) (h2 : ∀ (j : Nat) (h : j < l.length), i ≤ j → R t l[j]) : (l.take i ++ t :: l.drop i).Pairwise R := by
  have ha : ∀ x ∈ l.take i, R x t := fun x hx => by
    obtain ⟨j, hj, rfl⟩ := List.mem_iff_getElem.mp hx
    rw [List.getElem_take]
    rw [List.length_take] at hj
    exact h1 j (by omega) (by omega)
  have hb : ∀ x ∈ l.drop i, R t x := fun x hx => by
    obtain ⟨j, hj, rfl⟩ := List.mem_iff_getElem.mp hx
    rw [List.getElem_drop]
    rw [List.length_drop] at hj
    exact h2 (i + j) (by omega) (by omega)
  have hp2 : (l.take i ++ l.drop i).Pairwise R := by rw [List.take_append_drop]; exact hp
  obtain ⟨p1, p2, p3⟩ := List.pairwise_append.mp hp2
  refine List.pairwise_append.mpr ⟨p1, List.pairwise_cons.mpr ⟨hb, p2⟩, fun x hx y hy => ?_⟩
  rcases List.mem_cons.mp hy with e | e
  · subst e; exact ha x hx
  · exact p3 x hx y e
theorem qi_68 {s : dd_S} {key : Nat → Int32} {Q : List Nat} {v m : Nat} (hQ : Q.length < 40) (hm : m ≤ Q.length) (h36 : s 36 2 = nI Q.length) (h37 : GShift key (s 37) Q m) (h38 : GShift nI (s 38) Q m) : ∃ s2, f_X2_insert_68 (key v) (nI v) s (nI m) = some s2 ∧ FrQ s s2 ∧ QAt s2 key (Q.take m ++ v :: Q.drop m) := by
  unfold f_X2_insert_68
  rw [gd_p (ix_ok (by omega) (by decide)), lt_e, gd_p (ix_ok (by omega) (by decide)), nI_clamp (by omega)]
  simp only [lt_e]
  refine ⟨_, rfl, fun k h1 h2 h3 => by rw [st2_k _ _ _ _ h1, st2_k _ _ _ _ h3, st2_k _ _ _ _ h2], ?_, ?_, ?_⟩
  · rw [st2_s, st2_k _ _ _ _ (show 36 ≠ 38 by decide), st2_k _ _ _ _ (show 36 ≠ 37 by decide), h36, nI_inc, ins_len]
  · intro i hi
    rw [st2_k _ _ _ _ (show 37 ≠ 36 by decide), st2_k _ _ _ _ (show 37 ≠ 38 by decide)]
    have : st2 s 37 m (key v) 37 = upd (s 37) m (key v) := by simp [st2, dd_up]
    rw [this]
    exact h37.fill hm i hi
  · intro i hi
    rw [st2_k _ _ _ _ (show 38 ≠ 36 by decide)]
    have : st2 (st2 s 37 m (key v)) 38 m (nI v) 38 = upd (s 38) m (nI v) := by simp [st2, dd_up]
    rw [this]
    exact h38.fill hm i hi
theorem qi_loop {key : Nat → Int32} {Q : List Nat} {v : Nat} (hQ : Q.length < 40) (hS : QS key Q) (hlt : ∀ x ∈ Q, x < v) : ∀ (m n : Nat) (s : dd_S), m ≤ Q.length → m < n → s 36 2 = nI Q.length → GShift key (s 37) Q m → GShift nI (s 38) Q m → (∀ (j : Nat) (h : j < Q.length), m ≤ j → key v < key Q[j]) →
    ∃ i s2, f_X2_insert_18 (key v) (nI v) n s (nI m) = some s2 ∧ FrQ s s2 ∧ QAt s2 key (Q.take i ++ v :: Q.drop i) ∧ QS key (Q.take i ++ v :: Q.drop i) := by
  intro m
  induction m with
  | zero =>
    intro n s hm hn h36 h37 h38 hgt
    obtain ⟨n, rfl⟩ : ∃ q, n = q + 1 := ⟨n - 1, by omega⟩
    obtain ⟨s2, b1, b2, b3⟩ := qi_68 (v := v) hQ hm h36 h37 h38
    unfold f_X2_insert_18
    rw [if_pos (show nI 0 ≤ (0 : Int32) by decide)]
    exact ⟨0, s2, b1, b2, b3, ins_pw hS (fun j _ h => absurd h (Nat.not_lt_zero _)) (fun j hj h => Or.inl (hgt j hj h))⟩
  | succ m ih =>
    intro n s hm hn h36 h37 h38 hgt
    obtain ⟨n, rfl⟩ : ∃ q, n = q + 1 := ⟨n - 1, by omega⟩
    have hml : m < Q.length := by omega
    have hk : s 37 m = key Q[m] := (h37 m hml).1 (by omega)
    have hpos : ¬ nI (m + 1) ≤ (0 : Int32) := nI_nle (by omega) (by omega)
    unfold f_X2_insert_18
    rw [if_neg hpos, nI_sub1 (by omega), Nat.add_sub_cancel, gd_p (ix_ok (by omega) (by decide)), nI_clamp (by omega), hk]
    by_cases e : key Q[m] ≤ key v
    · rw [if_pos e]
      obtain ⟨s2, b1, b2, b3⟩ := qi_68 (v := v) hQ hm h36 h37 h38
      refine ⟨m + 1, s2, b1, b2, b3, ins_pw hS (fun j hj h => ?_) (fun j hj h => Or.inl (hgt j hj h))⟩
      have hv : Q[j] < v := hlt _ (List.getElem_mem _)
      have hle : key Q[j] ≤ key v := by
        rcases Nat.lt_or_ge j m with q | q
        · rcases (List.pairwise_iff_getElem.mp hS j m (by omega) hml q) with g | ⟨g, -⟩
          · have := i32_lel g e
            exact Int32.le_iff_toInt_le.mpr (by have := Int32.lt_iff_toInt_lt.mp this; omega)
          · rw [g]; exact e
        · have : j = m := by omega
          subst this
          exact e
      by_cases c : key Q[j] = key v
      · exact Or.inr ⟨c, hv⟩
      · exact Or.inl (i32_le_of hle c)
    · rw [if_neg e, gd_p (ix_ok (by omega) (by decide)), gd_p (ix_ok (by omega) (by decide)), nI_clamp (show m + 1 < 2 ^ 31 by omega), lt_e, gd_p (ix_ok (by omega) (by decide)), gd_p (ix_ok (by omega) (by decide)), lt_e, lt_e, nI_dec (by omega), Nat.add_sub_cancel]
      have hn8 : st2 s 37 (m + 1) (key Q[m]) 38 m = nI Q[m] := by rw [st2_k _ _ _ _ (show 38 ≠ 37 by decide)]; exact (h38 m hml).1 (by omega)
      rw [hn8]
      have e37 : st2 (st2 s 37 (m + 1) (key Q[m])) 38 (m + 1) (nI Q[m]) 37 = upd (s 37) (m + 1) (s 37 (m + 1 - 1)) := by rw [st2_k _ _ _ _ (show 37 ≠ 38 by decide)]; simp [st2, dd_up, hk]
      have e38 : st2 (st2 s 37 (m + 1) (key Q[m])) 38 (m + 1) (nI Q[m]) 38 = upd (s 38) (m + 1) (s 38 (m + 1 - 1)) := by
        have := (h38 m hml).1 (by omega)
        simp [st2, dd_up, this]
      obtain ⟨i, s2, b1, b2, b3, b4⟩ := ih n (st2 (st2 s 37 (m + 1) (key Q[m])) 38 (m + 1) (nI Q[m])) (by omega) (by omega) (by rw [st2_k _ _ _ _ (show 36 ≠ 38 by decide), st2_k _ _ _ _ (show 36 ≠ 37 by decide)]; exact h36) (by rw [e37]; exact h37.step (by omega) hm) (by rw [e38]; exact h38.step (by omega) hm) (fun j hj h => by
        rcases Nat.lt_or_ge m j with q | q
        · exact hgt j hj (by omega)
        · have : j = m := by omega
          subst this
          exact i32_nle.mp e)
      exact ⟨i, s2, b1, FrQ.trans (fun k h1 h2 h3 => by rw [st2_k _ _ _ _ h3, st2_k _ _ _ _ h2]) b2, b3, b4⟩
theorem qi_ev {s : dd_S} {key : Nat → Int32} {Q : List Nat} {v : Nat} (hQ : Q.length < 40) (hA : QAt s key Q) (hS : QS key Q) (hlt : ∀ x ∈ Q, x < v) : ∃ Q2 s2, f_X2_insert s (key v) (nI v) = some s2 ∧ FrQ s s2 ∧ QAt s2 key Q2 ∧ QS key Q2 ∧ ∀ x, x ∈ Q2 ↔ x = v ∨ x ∈ Q := by
  obtain ⟨i, s2, b1, b2, b3, b4⟩ := qi_loop hQ hS hlt Q.length 64 s (Nat.le_refl _) (by omega) hA.1 (fun j hj => ⟨fun _ => hA.2.1 j hj, fun h => absurd hj (by omega)⟩) (fun j hj => ⟨fun _ => hA.2.2 j hj, fun h => absurd hj (by omega)⟩) (fun j hj h => absurd hj (by omega))
  refine ⟨_, s2, ?_, b2, b3, b4, fun x => ins_mem⟩
  unfold f_X2_insert
  rw [hA.1, if_pos (show nI Q.length < (40 : Int32) from (nI_lt_iff (b := 40) (by omega) (by omega)).mpr hQ)]
  exact b1
theorem qc_ev {s : dd_S} {key : Nat → Int32} : ∃ s2, f_X2_clear s = some s2 ∧ FrQ s s2 ∧ QAt s2 key [] := ⟨st2 s 36 2 0, rfl, fun k h1 _ _ => st2_k _ _ _ _ h1, st2_s _ _ _ _, fun i hi => absurd hi (Nat.not_lt_zero _), fun i hi => absurd hi (Nat.not_lt_zero _)⟩
theorem num_ev {s : dd_S} {i : Nat} (h : i < 40) : f_X2_numberIn s (nI i) = some (s 38 i) := by
  unfold f_X2_numberIn
  rw [if_neg (nI_pos (by omega)), if_neg (show ¬ (40 : Int32) ≤ _ from nI_ge (b := 40) h (by decide)), gd_p (ix_ok h (by decide)), nI_clamp (by omega)]; rfl
/-- the search for the least -/
def bo (c : Nat → Bool) (key : Nat → Int32) : Nat → Option Nat
  | 0 => none
  | n + 1 => if c n = true then (match bo c key n with
    | none => some n
    | some x => if key n < key x then some n else some x) else bo c key n
def enc : Option Nat → Int32
  | none => -1
  | some x => nI x
theorem bo_spec (c : Nat → Bool) (key : Nat → Int32) : ∀ n, (bo c key n = none ∧ ∀ y, y < n → c y = false) ∨ ∃ x, bo c key n = some x ∧ x < n ∧ c x = true ∧ ∀ y, y < n → c y = true → y ≠ x → LexK key x y := by
  intro n
  induction n with
  | zero => exact Or.inl ⟨rfl, fun y hy => absurd hy (Nat.not_lt_zero _)⟩
  | succ n ih =>
    unfold bo
    by_cases hc : c n = true
    · rw [if_pos hc]
      rcases ih with ⟨h1, h2⟩ | ⟨x, h1, h2, h3, h4⟩
      · rw [h1]
        refine Or.inr ⟨n, rfl, by omega, hc, fun y hy hcy hne => ?_⟩
        have := h2 y (by omega)
        rw [hcy] at this
        cases this
      · rw [h1]
        show _ ∨ ∃ x_1, (if key n < key x then some n else some x) = some x_1 ∧ _
        by_cases hk : key n < key x
        · rw [if_pos hk]
          refine Or.inr ⟨n, rfl, by omega, hc, fun y hy hcy hne => ?_⟩
          by_cases e : y = x
          · subst e; exact Or.inl hk
          · rcases h4 y (by omega) hcy e with g | ⟨g, -⟩
            · exact Or.inl (i32_trans hk g)
            · exact Or.inl (by rw [← g]; exact hk)
        · rw [if_neg hk]
          refine Or.inr ⟨x, rfl, by omega, h3, fun y hy hcy hne => ?_⟩
          by_cases e : y = n
          · subst e
            by_cases c2 : key x = key y
            · exact Or.inr ⟨c2, h2⟩
            · exact Or.inl (i32_le_of (i32_nlt.mp hk) c2)
          · exact h4 y (by omega) hcy hne
    · rw [if_neg hc]
      have hcf : c n = false := by
        cases h : c n with
        | false => rfl
        | true => exact absurd h hc
      rcases ih with ⟨h1, h2⟩ | ⟨x, h1, h2, h3, h4⟩
      · refine Or.inl ⟨h1, fun y hy => ?_⟩
        by_cases e : y = n
        · subst e; exact hcf
        · exact h2 y (by omega)
      · refine Or.inr ⟨x, h1, by omega, h3, fun y hy hcy hne => ?_⟩
        by_cases e : y = n
        · subst e; rw [hcf] at hcy; cases hcy
        · exact h4 y (by omega) hcy hne
theorem bo_head {c : Nat → Bool} {key : Nat → Int32} {n : Nat} {Q : List Nat} (hS : QS key Q) (hm : ∀ x, x ∈ Q ↔ x < n ∧ c x = true) : bo c key n = Q.head? := by
  rcases bo_spec c key n with ⟨h1, h2⟩ | ⟨x, h1, h2, h3, h4⟩
  · cases Q with
    | nil => exact h1
    | cons q r =>
      have := (hm q).mp (by simp)
      rw [h2 q this.1] at this
      exact absurd this.2 (by decide)
  · cases Q with
    | nil => exact absurd ((hm x).mpr ⟨h2, h3⟩) List.not_mem_nil
    | cons q r =>
      rw [h1]
      have hq := (hm q).mp (by simp)
      by_cases e : q = x
      · rw [e]; rfl
      · have g1 := h4 q hq.1 hq.2 e
        rcases List.mem_cons.mp ((hm x).mpr ⟨h2, h3⟩) with g | g
        · exact absurd g.symm e
        · exact absurd g1 (fun g2 => ((List.pairwise_cons.mp hS).1 x g).asym g2)
