/-! ROWS OF TRIPS in ascending order of departures -/
def Asc (dep : Nat → Int32) (l : List Nat) : Prop := l.Pairwise (fun a b => dep a < dep b)
theorem i32_irr (x : Int32) : ¬ x < x := by rw [Int32.lt_iff_toInt_lt]; omega
theorem i32_asym {x y : Int32} (h : x < y) : ¬ y < x := by rw [Int32.lt_iff_toInt_lt] at *; omega
theorem i32_trans {x y z : Int32} (h : x < y) (h2 : y < z) : x < z := by rw [Int32.lt_iff_toInt_lt] at *; omega
theorem i32_nlt {x y : Int32} : ¬ x < y ↔ y ≤ x := by rw [Int32.lt_iff_toInt_lt, Int32.le_iff_toInt_le]; omega
theorem i32_nle {x y : Int32} : ¬ x ≤ y ↔ y < x := by rw [Int32.lt_iff_toInt_lt, Int32.le_iff_toInt_le]; omega
theorem i32_le_of {x y : Int32} (h : x ≤ y) (hn : x ≠ y) : x < y := by
  rw [Int32.lt_iff_toInt_lt]
  have h1 := Int32.le_iff_toInt_le.mp h
  have h2 : x.toInt ≠ y.toInt := fun e => hn (Int32.toInt_inj.mp e)
  omega
theorem i32_lel {x y z : Int32} (h : x < y) (h2 : y ≤ z) : x < z := by
  rw [Int32.lt_iff_toInt_lt] at *
  have := Int32.le_iff_toInt_le.mp h2
  omega
theorem i32_lle {x y z : Int32} (h : x ≤ y) (h2 : y < z) : x < z := by
  rw [Int32.lt_iff_toInt_lt] at *
  have := Int32.le_iff_toInt_le.mp h
  omega
theorem asc_uniq {dep : Nat → Int32} : ∀ {l1 l2 : List Nat}, Asc dep l1 → Asc dep l2 → (∀ x, x ∈ l1 ↔ x ∈ l2) → l1 = l2 := by
  intro l1
  induction l1 with
  | nil =>
    intro l2 _ _ h
    cases l2 with
    | nil => rfl
    | cons b r => exact absurd ((h b).mpr List.mem_cons_self) List.not_mem_nil
  | cons a r1 ih =>
    intro l2 h1 h2 h
    cases l2 with
    | nil => exact absurd ((h a).mp List.mem_cons_self) List.not_mem_nil
    | cons b r2 =>
      have h1' := List.pairwise_cons.mp h1
      have h2' := List.pairwise_cons.mp h2
      have hab : a = b := by
        rcases List.mem_cons.mp ((h a).mp List.mem_cons_self) with e | e
        · exact e
        · rcases List.mem_cons.mp ((h b).mpr List.mem_cons_self) with e2 | e2
          · exact e2.symm
          · exact absurd (h1'.1 b e2) (i32_asym (h2'.1 a e))
      subst hab
      rw [ih h1'.2 h2'.2 (fun x => ?_)]
      constructor
      · intro hx
        rcases List.mem_cons.mp ((h x).mp (List.mem_cons_of_mem _ hx)) with e | e
        · subst e; exact absurd (h1'.1 _ hx) (i32_irr _)
        · exact e
      · intro hx
        rcases List.mem_cons.mp ((h x).mpr (List.mem_cons_of_mem _ hx)) with e | e
        · subst e; exact absurd (h2'.1 _ hx) (i32_irr _)
        · exact e
theorem Asc.nodup {dep : Nat → Int32} {l : List Nat} (h : Asc dep l) : l.Nodup := List.Pairwise.imp (fun {a b} hab e => by subst e; exact i32_irr _ hab) h
theorem Asc.filter {dep : Nat → Int32} {l : List Nat} (h : Asc dep l) (p : Nat → Bool) : Asc dep (l.filter p) := List.Pairwise.sublist List.filter_sublist h
theorem nodup_len : ∀ (n : Nat) (l : List Nat), l.Nodup → (∀ x ∈ l, x < n) → l.length ≤ n := by
  intro n
  induction n with
  | zero =>
    intro l _ h
    cases l with
    | nil => exact Nat.le_refl _
    | cons a r => exact absurd (h a List.mem_cons_self) (Nat.not_lt_zero _)
  | succ n ih =>
    intro l hn h
    have h1 := ih (l.erase n) (hn.erase n) (fun x hx => by
      have h2 := (hn.mem_erase_iff).mp hx
      have := h x h2.2
      omega)
    by_cases hm : n ∈ l
    · rw [List.length_erase_of_mem hm] at h1; omega
    · rw [List.erase_of_not_mem hm] at h1; omega
theorem asc_lt {dep : Nat → Int32} {l : List Nat} (h : Asc dep l) {i j : Nat} (hj : j < l.length) (hij : i < j) : dep (l[i]'(by omega)) < dep l[j] := List.pairwise_iff_getElem.mp h i j (by omega) hj hij
theorem ins_asc {dep : Nat → Int32} {l : List Nat} {i t : Nat} (hp : Asc dep l) (h1 : ∀ (j : Nat) (h : j < l.length), j < i → dep l[j] < dep t) (h2 : ∀ (j : Nat) (h : j < l.length), i ≤ j → dep t < dep l[j]) : Asc dep (l.take i ++ t :: l.drop i) := by
  have ha : ∀ x ∈ l.take i, dep x < dep t := fun x hx => by
    obtain ⟨j, hj, rfl⟩ := List.mem_iff_getElem.mp hx
    rw [List.getElem_take]
    rw [List.length_take] at hj
    exact h1 j (by omega) (by omega)
  have hb : ∀ x ∈ l.drop i, dep t < dep x := fun x hx => by
    obtain ⟨j, hj, rfl⟩ := List.mem_iff_getElem.mp hx
    rw [List.getElem_drop]
    rw [List.length_drop] at hj
    exact h2 (i + j) (by omega) (by omega)
  refine List.pairwise_append.mpr ⟨hp.sublist (List.take_sublist _ _), List.pairwise_cons.mpr ⟨hb, hp.sublist (List.drop_sublist _ _)⟩, fun x hx y hy => ?_⟩
  rcases List.mem_cons.mp hy with e | e
  · subst e; exact ha x hx
  · exact i32_trans (ha x hx) (hb y e)
theorem ins_mem {l : List Nat} {i t x : Nat} : x ∈ l.take i ++ t :: l.drop i ↔ x = t ∨ x ∈ l := by
  have h : x ∈ l ↔ x ∈ l.take i ∨ x ∈ l.drop i := by rw [← List.mem_append, List.take_append_drop]
  rw [List.mem_append, List.mem_cons, h]
  constructor
  · rintro (h | h | h)
    · exact Or.inr (Or.inl h)
    · exact Or.inl h
    · exact Or.inr (Or.inr h)
  · rintro (h | h | h)
    · exact Or.inr (Or.inl h)
    · exact Or.inl h
    · exact Or.inr (Or.inr h)
theorem ins_len {l : List Nat} {i t : Nat} : (l.take i ++ t :: l.drop i).length = l.length + 1 := by
  simp only [List.length_append, List.length_cons, List.length_take, List.length_drop]; omega
/-- a row with a gap at m -/
def Shift (f : Nat → Int32) (l : List Nat) (m : Nat) : Prop := ∀ (j : Nat) (h : j < l.length), (j < m → f j = nI l[j]) ∧ (m ≤ j → f (j + 1) = nI l[j])
theorem RowAt.shift {f : Nat → Int32} {l : List Nat} (h : RowAt f l) : Shift f l l.length := fun j hj => ⟨fun _ => h j hj, fun h2 => absurd hj (by omega)⟩
theorem Shift.step {f : Nat → Int32} {l : List Nat} {m : Nat} (h : Shift f l m) (h0 : 0 < m) (hm : m ≤ l.length) : Shift (upd f m (f (m - 1))) l (m - 1) := by
  intro j hj
  constructor
  · intro h2
    simp only [upd, if_neg (show j ≠ m by omega)]
    exact (h j hj).1 (by omega)
  · intro h2
    by_cases e : j + 1 = m
    · simp only [upd, if_pos e]
      have e2 : m - 1 = j := by omega
      rw [e2]
      exact (h j hj).1 (by omega)
    · simp only [upd, if_neg e]
      exact (h j hj).2 (by omega)
theorem Shift.fill {f : Nat → Int32} {l : List Nat} {m t : Nat} (h : Shift f l m) (hm : m ≤ l.length) : RowAt (upd f m (nI t)) (l.take m ++ t :: l.drop m) := by
  intro k hk
  rw [ins_len] at hk
  have hl : (l.take m).length = m := by rw [List.length_take]; omega
  rcases Nat.lt_trichotomy k m with h1 | h1 | h1
  · rw [List.getElem_append_left (by omega), List.getElem_take]
    simp only [upd, if_neg (show k ≠ m by omega)]
    exact (h k (by omega)).1 h1
  · subst h1
    rw [List.getElem_append_right (by omega)]
    simp [upd, hl]
  · obtain ⟨j, rfl⟩ : ∃ j, k = j + 1 := ⟨k - 1, by omega⟩
    rw [List.getElem_append_right (by omega)]
    simp only [upd, if_neg (show j + 1 ≠ m by omega)]
    rw [(h j (by omega)).2 (by omega)]
    congr 1
    have e : j + 1 - (l.take m).length = (j - m) + 1 := by omega
    have e2 : (t :: l.drop m)[j + 1 - (l.take m).length]'(by rw [List.length_cons, List.length_drop]; omega) = (t :: l.drop m)[(j - m) + 1]'(by rw [List.length_cons, List.length_drop]; omega) := by congr 1
    rw [e2, List.getElem_cons_succ, List.getElem_drop]
    congr 1
    omega
/-! what a duty's row does -/
theorem cp_loop {d d2 : Nat} (hd : d < 15) (hd2 : d2 < 15) (hne : d ≠ d2) {l : List Nat} (h40 : l.length ≤ 40) : ∀ (rest pre : List Nat) (n : Nat) (sg : dd_S), l = pre ++ rest → rest.length < n → DutyAt sg d pre → DutyAt sg d2 l → bz (sg d2 8) = true →
    ∃ s2, f_X0_copy_7 d d2 n sg (nI pre.length) = some s2 ∧ FrD d sg s2 ∧ DutyAt s2 d l ∧ ∀ j, 2 ≤ j → j ≤ 8 → s2 d j = sg d2 j := by
  intro rest
  induction rest with
  | nil =>
    intro pre n sg hl hn hD hD2 hb
    obtain ⟨n, rfl⟩ : ∃ m, n = m + 1 := ⟨n - 1, by simp at hn; omega⟩
    rw [List.append_nil] at hl
    subst hl
    unfold f_X0_copy_7
    rw [hD2.1, if_pos ((nI_le_iff (by omega) (by omega)).mpr (Nat.le_refl _))]
    simp only [lt_e, st2_k _ _ _ _ hne.symm]
    rw [gd_p hb]
    refine ⟨_, rfl, fun k h1 h2 => ?_, ⟨?_, ?_⟩, fun j h2 h8 => ?_⟩
    · simp only [st2_k _ _ _ _ h1]
    · rw [st2_j _ _ _ _ (by decide), st2_j _ _ _ _ (by decide), st2_j _ _ _ _ (by decide), st2_j _ _ _ _ (by decide), st2_j _ _ _ _ (by decide), st2_j _ _ _ _ (by decide), st2_j _ _ _ _ (by decide)]
      exact hD.1
    · simp only [st2_k _ _ _ _ (show 15 + d ≠ d by omega)]
      exact hD.2
    · rcases (show j = 2 ∨ j = 3 ∨ j = 4 ∨ j = 5 ∨ j = 6 ∨ j = 7 ∨ j = 8 by omega) with rfl | rfl | rfl | rfl | rfl | rfl | rfl <;> simp [st2_at]
  | cons x r ih =>
    intro pre n sg hl hn hD hD2 hb
    obtain ⟨n, rfl⟩ : ∃ m, n = m + 1 := ⟨n - 1, by simp at hn; omega⟩
    have hlen : l.length = pre.length + (r.length + 1) := by rw [hl]; simp
    have hgt : l[pre.length]'(by omega) = x := by simp [hl]
    have htin : f_X0_tripIn sg d2 (nI pre.length) = some (nI x) := by rw [tin_duty hD2 (by omega) h40, hgt]
    obtain ⟨s1, a1, a2, a3, a4⟩ := app_duty (t := x) hD (by omega)
    unfold f_X0_copy_7
    rw [hD2.1, if_neg (nI_ge (by omega) (by omega)), htin, bd_s, a1, bd_s, lt_e, nI_inc]
    have hk : s1 d2 = sg d2 := a3 d2 hne.symm (by omega)
    obtain ⟨s2, b1, b2, b3, b4⟩ := ih (pre ++ [x]) n s1 (by rw [hl]; simp) (by simp at hn; omega) a2 (hD2.fr a3 hne.symm (by omega) (by omega)) (by rw [hk]; exact hb)
    rw [List.length_append, List.length_singleton] at b1
    exact ⟨s2, b1, a3.trans b2, b3, fun j h2 h8 => by rw [b4 j h2 h8, hk]⟩
theorem duty_nil {sg : dd_S} {d : Nat} : DutyAt (st2 sg d 1 0) d [] := ⟨st2_s _ _ _ _, fun i hi => absurd hi (Nat.not_lt_zero i)⟩
theorem FrD.st {sg : dd_S} {d j : Nat} {v : Int32} : FrD d sg (st2 sg d j v) := fun k h1 _ => st2_k _ _ _ _ h1
theorem copy_ev {sg : dd_S} {d d2 : Nat} (hd : d < 15) (hd2 : d2 < 15) (hne : d ≠ d2) {l : List Nat} (h40 : l.length ≤ 40) (hD : DutyAt sg d2 l) (hb : bz (sg d2 8) = true) : ∃ s2, f_X0_copy sg d d2 = some s2 ∧ FrD d sg s2 ∧ DutyAt s2 d l ∧ ∀ j, 2 ≤ j → j ≤ 8 → s2 d j = sg d2 j := by
  have hk : st2 sg d 1 0 d2 = sg d2 := st2_k _ _ _ _ hne.symm
  obtain ⟨s2, b1, b2, b3, b4⟩ := cp_loop hd hd2 hne h40 l [] 64 (st2 sg d 1 0) rfl (by omega) duty_nil (hD.fr FrD.st hne.symm (by omega) (by omega)) (by rw [hk]; exact hb)
  exact ⟨s2, b1, FrD.st.trans b2, b3, fun j h2 h8 => by rw [b4 j h2 h8, hk]⟩
theorem jt_loop {d d2 d3 : Nat} {tm : Int32} (hd : d < 15) (hd3 : d3 < 15) (hne : d ≠ d3) {l : List Nat} (h40 : l.length ≤ 40) (hl40 : ∀ x ∈ l, x < 40) {dep : Nat → Int32} : ∀ (rest pre acc : List Nat) (n : Nat) (sg : dd_S), l = pre ++ rest → rest.length < n → acc.length + rest.length ≤ 40 → sg 43 = dep → DutyAt sg d acc → DutyAt sg d3 l →
    ∃ s2, f_X0_join_51 d d2 d3 tm n sg (nI pre.length) = some s2 ∧ FrD d sg s2 ∧ DutyAt s2 d (acc ++ rest.filter (fun x => decide (¬ dep x < tm))) := by
  intro rest
  induction rest with
  | nil =>
    intro pre acc n sg hl hn ha hdep hD hD2
    obtain ⟨n, rfl⟩ : ∃ m, n = m + 1 := ⟨n - 1, by simp at hn; omega⟩
    rw [List.append_nil] at hl
    subst hl
    unfold f_X0_join_51
    rw [hD2.1, if_pos ((nI_le_iff (by omega) (by omega)).mpr (Nat.le_refl _))]
    exact ⟨_, rfl, FrD.refl, by simpa using hD⟩
  | cons x r ih =>
    intro pre acc n sg hl hn ha hdep hD hD2
    obtain ⟨n, rfl⟩ : ∃ m, n = m + 1 := ⟨n - 1, by simp at hn; omega⟩
    have hlen : l.length = pre.length + (r.length + 1) := by rw [hl]; simp
    have hx : x < 40 := hl40 x (by rw [hl]; simp)
    have hgt : l[pre.length]'(by omega) = x := by simp [hl]
    have htin : f_X0_tripIn sg d3 (nI pre.length) = some (nI x) := by rw [tin_duty hD2 (by omega) h40, hgt]
    unfold f_X0_join_51
    rw [hD2.1, if_neg (nI_ge (by omega) (by omega)), htin, bd_s, dep_ev hx, bd_s, hdep]
    by_cases e : dep x < tm
    · rw [if_pos e]
      unfold f_X0_join_85
      rw [lt_e, nI_inc]
      obtain ⟨s2, b1, b2, b3⟩ := ih (pre ++ [x]) acc n sg (by rw [hl]; simp) (by simp at hn; omega) (by simp at ha; omega) hdep hD hD2
      rw [List.length_append, List.length_singleton] at b1
      exact ⟨s2, b1, b2, by simpa [e] using b3⟩
    · rw [if_neg e, bd_s]
      obtain ⟨s1, a1, a2, a3, a4⟩ := app_duty (t := x) hD (by simp at ha; omega)
      rw [a1, bd_s]
      unfold f_X0_join_85
      rw [lt_e, nI_inc]
      obtain ⟨s2, b1, b2, b3⟩ := ih (pre ++ [x]) (acc ++ [x]) n s1 (by rw [hl]; simp) (by simp at hn; omega) (by simp at ha ⊢; omega) ((a3 43 (by omega) (by omega)).trans hdep) a2 (hD2.fr a3 hne.symm (by omega) (by omega))
      rw [List.length_append, List.length_singleton] at b1
      exact ⟨s2, b1, a3.trans b2, by simpa [e, i32_nlt.mp e] using b3⟩
theorem jh_loop {d d2 d3 : Nat} {tm : Int32} (hd : d < 15) (hd2 : d2 < 15) (hd3 : d3 < 15) (hne : d ≠ d2) (hne3 : d ≠ d3) {l lb : List Nat} (h40 : l.length ≤ 40) (hl40 : ∀ x ∈ l, x < 40) (hb40 : ∀ x ∈ lb, x < 40) (hsum : l.length + lb.length ≤ 40) {dep : Nat → Int32} : ∀ (rest pre acc : List Nat) (n : Nat) (sg : dd_S), l = pre ++ rest → rest.length < n → acc.length ≤ pre.length → sg 43 = dep → DutyAt sg d acc → DutyAt sg d2 l → DutyAt sg d3 lb →
    ∃ s2, f_X0_join_8 d d2 d3 tm n sg (nI pre.length) = some s2 ∧ FrD d sg s2 ∧ DutyAt s2 d ((acc ++ rest.filter (fun x => decide (dep x < tm))) ++ lb.filter (fun x => decide (¬ dep x < tm))) := by
  intro rest
  induction rest with
  | nil =>
    intro pre acc n sg hl hn ha hdep hD hD2 hD3
    obtain ⟨n, rfl⟩ : ∃ m, n = m + 1 := ⟨n - 1, by simp at hn; omega⟩
    rw [List.append_nil] at hl
    subst hl
    unfold f_X0_join_8
    rw [hD2.1, if_pos ((nI_le_iff (by omega) (by omega)).mpr (Nat.le_refl _))]
    obtain ⟨s2, b1, b2, b3⟩ := jt_loop (d2 := d2) (tm := tm) hd hd3 hne3 (by omega) hb40 lb [] acc 64 sg rfl (by omega) (by omega) hdep hD hD3
    exact ⟨s2, b1, b2, by simpa using b3⟩
  | cons x r ih =>
    intro pre acc n sg hl hn ha hdep hD hD2 hD3
    obtain ⟨n, rfl⟩ : ∃ m, n = m + 1 := ⟨n - 1, by simp at hn; omega⟩
    have hlen : l.length = pre.length + (r.length + 1) := by rw [hl]; simp
    have hx : x < 40 := hl40 x (by rw [hl]; simp)
    have hgt : l[pre.length]'(by omega) = x := by simp [hl]
    have htin : f_X0_tripIn sg d2 (nI pre.length) = some (nI x) := by rw [tin_duty hD2 (by omega) h40, hgt]
    unfold f_X0_join_8
    rw [hD2.1, if_neg (nI_ge (by omega) (by omega)), htin, bd_s, dep_ev hx, bd_s, hdep]
    by_cases e : dep x < tm
    · rw [if_neg (i32_nle.mpr e), bd_s]
      obtain ⟨s1, a1, a2, a3, a4⟩ := app_duty (t := x) hD (by omega)
      rw [a1, bd_s]
      unfold f_X0_join_42
      rw [lt_e, nI_inc]
      obtain ⟨s2, b1, b2, b3⟩ := ih (pre ++ [x]) (acc ++ [x]) n s1 (by rw [hl]; simp) (by simp at hn; omega) (by simp; omega) ((a3 43 (by omega) (by omega)).trans hdep) a2 (hD2.fr a3 hne.symm (by omega) (by omega)) (hD3.fr a3 hne3.symm (by omega) (by omega))
      rw [List.length_append, List.length_singleton] at b1
      exact ⟨s2, b1, a3.trans b2, by simpa [e] using b3⟩
    · rw [if_pos (i32_nlt.mp e)]
      unfold f_X0_join_42
      rw [lt_e, nI_inc]
      obtain ⟨s2, b1, b2, b3⟩ := ih (pre ++ [x]) acc n sg (by rw [hl]; simp) (by simp at hn; omega) (by simp; omega) hdep hD hD2 hD3
      rw [List.length_append, List.length_singleton] at b1
      exact ⟨s2, b1, b2, by simpa [e] using b3⟩
theorem join_ev {sg : dd_S} {d d2 d3 : Nat} (tm : Int32) (hd : d < 15) (hd2 : d2 < 15) (hd3 : d3 < 15) (hne : d ≠ d2) (hne3 : d ≠ d3) {l lb : List Nat} (hl40 : ∀ x ∈ l, x < 40) (hb40 : ∀ x ∈ lb, x < 40) (hsum : l.length + lb.length ≤ 40) (hD : DutyAt sg d2 l) (hD3 : DutyAt sg d3 lb) : ∃ s2, f_X0_join sg d d2 d3 tm = some s2 ∧ FrD d sg s2 ∧ DutyAt s2 d (l.filter (fun x => decide (sg 43 x < tm)) ++ lb.filter (fun x => decide (¬ sg 43 x < tm))) := by
  obtain ⟨s2, b1, b2, b3⟩ := jh_loop (tm := tm) (dep := sg 43) hd hd2 hd3 hne hne3 (by omega) hl40 hb40 hsum l [] [] 64 (st2 sg d 1 0) rfl (by omega) (Nat.le_refl _) (st2_k _ _ _ _ (by omega)) duty_nil (hD.fr FrD.st hne.symm (by omega) (by omega)) (hD3.fr FrD.st hne3.symm (by omega) (by omega))
  exact ⟨s2, b1, FrD.st.trans b2, by simpa using b3⟩
/-! inserting -/
theorem in_shift {d t : Nat} (hd : d < 15) {l : List Nat} (h40 : l.length < 40) {i : Nat} : ∀ (k m n : Nat) (sg : dd_S), m = i + k → m ≤ l.length → k < n → sg d 1 = nI l.length → Shift (sg (15 + d)) l m →
    ∃ s2, f_X0_insert_94 d (nI t) n sg (nI i) (nI m) = some (1, s2) ∧ FrD d sg s2 ∧ DutyAt s2 d (l.take i ++ t :: l.drop i) := by
  intro k
  induction k with
  | zero =>
    intro m n sg hm hml hn h1 hS
    obtain ⟨n, rfl⟩ : ∃ q, n = q + 1 := ⟨n - 1, by omega⟩
    have e : m = i := by omega
    subst e
    unfold f_X0_insert_94
    rw [if_pos ((nI_le_iff (by omega) (by omega)).mpr (Nat.le_refl _)), gd_p (ix_ok (by omega) (by decide)), nI_clamp (by omega), lt_e, lt_e]
    refine ⟨_, rfl, fun k h1 h2 => by rw [st2_k _ _ _ _ h1, st2_k _ _ _ _ h2], ⟨?_, ?_⟩⟩
    · rw [st2_s, st2_k _ _ _ _ (show d ≠ 15 + d by omega), h1, nI_inc, ins_len]
    · rw [st2_k _ _ _ _ (show 15 + d ≠ d by omega)]
      have : st2 sg (15 + d) m (nI t) (15 + d) = upd (sg (15 + d)) m (nI t) := by simp [st2, dd_up]
      rw [this]
      exact hS.fill hml
  | succ k ih =>
    intro m n sg hm hml hn h1 hS
    obtain ⟨n, rfl⟩ : ∃ q, n = q + 1 := ⟨n - 1, by omega⟩
    unfold f_X0_insert_94
    rw [if_neg (nI_ge (by omega) (by omega)), nI_sub1 (by omega), gd_p (ix_ok (by omega) (by decide)), gd_p (ix_ok (by omega) (by decide)), nI_clamp (by omega), nI_clamp (by omega), lt_e, lt_e, nI_dec (by omega)]
    have hs : st2 sg (15 + d) m (sg (15 + d) (m - 1)) (15 + d) = upd (sg (15 + d)) m (sg (15 + d) (m - 1)) := by simp [st2, dd_up]
    obtain ⟨s2, b1, b2, b3⟩ := ih (m - 1) n (st2 sg (15 + d) m (sg (15 + d) (m - 1))) (by omega) (by omega) (by omega) (by rw [st2_k _ _ _ _ (show d ≠ 15 + d by omega)]; exact h1) (by rw [hs]; exact hS.step (by omega) hml)
    exact ⟨s2, b1, FrD.trans (fun k h1 h2 => st2_k _ _ _ _ h2) b2, b3⟩
theorem in_66 {d t : Nat} (hd : d < 15) {l : List Nat} (h40 : l.length < 40) {sg : dd_S} (hA : Asc (sg 43) l) (hD : DutyAt sg d l) {i : Nat} (hi : i ≤ l.length) (h1 : ∀ (j : Nat) (h : j < l.length), j < i → sg 43 l[j] < sg 43 t) (h2 : ∀ (j : Nat) (h : j < l.length), i ≤ j → sg 43 t < sg 43 l[j]) :
    (∀ x ∈ l, sg 43 x ≠ sg 43 t) ∧ ∃ (m : Nat) (s2 : dd_S), f_X0_insert_66 d (nI t) sg (nI i) = some (1, s2) ∧ FrD d sg s2 ∧ DutyAt s2 d (l.take m ++ t :: l.drop m) ∧ Asc (sg 43) (l.take m ++ t :: l.drop m) := by
  refine ⟨fun x hx e => ?_, ?_⟩
  · obtain ⟨j, hj, rfl⟩ := List.mem_iff_getElem.mp hx
    rcases Nat.lt_or_ge j i with q | q
    · have := h1 j hj q
      rw [e] at this
      exact i32_irr _ this
    · have := h2 j hj q
      rw [e] at this
      exact i32_irr _ this
  · obtain ⟨s2, b1, b2, b3⟩ := in_shift (t := t) hd h40 (i := i) (l.length - i) l.length 64 sg (by omega) (Nat.le_refl _) (by omega) hD.1 hD.2.shift
    refine ⟨i, s2, ?_, b2, b3, ins_asc hA h1 h2⟩
    unfold f_X0_insert_66 f_X0_insert_67
    rw [if_pos rfl, hD.1, if_pos (show nI l.length < (40 : Int32) from (nI_lt_iff (b := 40) (by omega) (by omega)).mpr h40)]
    exact b1
theorem in_stop {d t : Nat} (hd : d < 15) {l : List Nat} (h40 : l.length < 40) (hl40 : ∀ x ∈ l, x < 40) {sg : dd_S} (hA : Asc (sg 43) l) (hD : DutyAt sg d l) {i : Nat} (hi : i ≤ l.length) (h1 : ∀ (j : Nat) (h : j < l.length), j < i → sg 43 l[j] < sg 43 t) (h2 : ∀ (j : Nat) (h : j < l.length), i ≤ j → sg 43 t ≤ sg 43 l[j]) :
    ((∃ x ∈ l, sg 43 x = sg 43 t) ∧ f_X0_insert_39 d (nI t) sg (sg 43 t) (nI i) = some (0, sg)) ∨ ((∀ x ∈ l, sg 43 x ≠ sg 43 t) ∧ ∃ (m : Nat) (s2 : dd_S), f_X0_insert_39 d (nI t) sg (sg 43 t) (nI i) = some (1, s2) ∧ FrD d sg s2 ∧ DutyAt s2 d (l.take m ++ t :: l.drop m) ∧ Asc (sg 43) (l.take m ++ t :: l.drop m)) := by
  unfold f_X0_insert_39
  by_cases e : i = l.length
  · rw [hD.1, if_pos ((nI_le_iff (by omega) (by omega)).mpr (by omega))]
    exact Or.inr (in_66 hd h40 hA hD hi h1 (fun j hj hij => absurd hj (by omega)))
  · have hil : i < l.length := by omega
    have hx : l[i] < 40 := hl40 _ (List.getElem_mem _)
    rw [hD.1, if_neg (nI_ge hil (by omega)), tin_duty hD hil (by omega), bd_s, dep_ev hx, bd_s]
    by_cases e2 : sg 43 l[i] = sg 43 t
    · rw [if_pos e2]
      refine Or.inl ⟨⟨l[i], List.getElem_mem _, e2⟩, ?_⟩
      unfold f_X0_insert_67
      rw [if_neg (by decide)]
      rfl
    · rw [if_neg e2]
      have h3 : sg 43 t < sg 43 l[i] := i32_le_of (h2 i hil (Nat.le_refl _)) (fun h => e2 h.symm)
      refine Or.inr (in_66 hd h40 hA hD hi h1 (fun j hj hij => ?_))
      rcases Nat.lt_or_ge i j with q | q
      · exact i32_trans h3 (asc_lt hA hj q)
      · have : j = i := by omega
        subst this
        exact h3
/-- inserting ends with a no (the departure is there already) or with the row, one trip more -/
theorem in_loop {d t : Nat} (hd : d < 15) {l : List Nat} (h40 : l.length < 40) (hl40 : ∀ x ∈ l, x < 40) {sg : dd_S} (hA : Asc (sg 43) l) (hD : DutyAt sg d l) : ∀ (i n : Nat), i ≤ l.length → i < n → (∀ (j : Nat) (h : j < l.length), i ≤ j → sg 43 t ≤ sg 43 l[j]) →
    ((∃ x ∈ l, sg 43 x = sg 43 t) ∧ f_X0_insert_12 d (nI t) n sg (sg 43 t) (nI i) = some (0, sg)) ∨ ((∀ x ∈ l, sg 43 x ≠ sg 43 t) ∧ ∃ (m : Nat) (s2 : dd_S), f_X0_insert_12 d (nI t) n sg (sg 43 t) (nI i) = some (1, s2) ∧ FrD d sg s2 ∧ DutyAt s2 d (l.take m ++ t :: l.drop m) ∧ Asc (sg 43) (l.take m ++ t :: l.drop m)) := by
  intro i
  induction i with
  | zero =>
    intro n hi hn hle
    obtain ⟨n, rfl⟩ : ∃ q, n = q + 1 := ⟨n - 1, by omega⟩
    have := in_stop (t := t) hd h40 hl40 hA hD (i := 0) hi (fun j _ h => absurd h (Nat.not_lt_zero _)) hle
    unfold f_X0_insert_12
    rw [if_pos (show nI 0 ≤ (0 : Int32) by decide)]
    exact this
  | succ i ih =>
    intro n hi hn hle
    obtain ⟨n, rfl⟩ : ∃ q, n = q + 1 := ⟨n - 1, by omega⟩
    have hil : i < l.length := by omega
    have hx : l[i] < 40 := hl40 _ (List.getElem_mem _)
    have hpos : ¬ nI (i + 1) ≤ (0 : Int32) := nI_nle (by omega) (by omega)
    unfold f_X0_insert_12
    rw [if_neg hpos, nI_sub1 (by omega), Nat.add_sub_cancel, tin_duty hD hil (by omega), bd_s, dep_ev hx, bd_s]
    by_cases e : sg 43 l[i] < sg 43 t
    · rw [if_pos e]
      refine in_stop hd h40 hl40 hA hD hi (fun j hj hij => ?_) hle
      rcases Nat.lt_or_ge j i with q | q
      · exact i32_trans (asc_lt hA hil q) e
      · have : j = i := by omega
        subst this
        exact e
    · rw [if_neg e, lt_e, nI_dec (by omega), Nat.add_sub_cancel]
      refine ih n (by omega) (by omega) (fun j hj hij => ?_)
      rcases Nat.lt_or_ge i j with q | q
      · exact hle j hj (by omega)
      · have : j = i := by omega
        subst this
        exact i32_nlt.mp e
theorem ins_ev {sg : dd_S} {d t : Nat} (hd : d < 15) (ht : t < 40) {l : List Nat} (h40 : l.length < 40) (hl40 : ∀ x ∈ l, x < 40) (hA : Asc (sg 43) l) (hD : DutyAt sg d l) :
    ((∃ x ∈ l, sg 43 x = sg 43 t) ∧ f_X0_insert sg d (nI t) = some (0, sg)) ∨ ((∀ x ∈ l, sg 43 x ≠ sg 43 t) ∧ ∃ (m : Nat) (s2 : dd_S), f_X0_insert sg d (nI t) = some (1, s2) ∧ FrD d sg s2 ∧ DutyAt s2 d (l.take m ++ t :: l.drop m) ∧ Asc (sg 43) (l.take m ++ t :: l.drop m)) := by
  unfold f_X0_insert
  rw [dep_ev ht, bd_s, hD.1]
  exact in_loop hd h40 hl40 hA hD l.length 64 (Nat.le_refl _) (by omega) (fun j hj h => absurd hj (by omega))
