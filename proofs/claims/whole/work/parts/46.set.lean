/-! DUTIES CHANGED: what must hold of them -/
theorem CI.new {a b : dd_S} {T D D2 V : Nat} {L L2 : Nat → List Nat} (h : CI a T D V L) (hE : EnvEq a b) (h31 : b 31 = a 31) (h14 : b 14 = a 14) (h5 : b 30 5 = nI D2) (h6 : b 30 6 = nI V) (hr : ∀ v, v < 8 → b (45 + v) = a (45 + v)) (hD : D ≤ D2) (hD2 : D2 ≤ 12) (hdu : ∀ t, t < 40 → b 34 t = -1 ∨ (t < T ∧ ∃ d, d < D2 ∧ b 34 t = nI d)) (hL : ∀ d, d < 12 → IsRow (a 43) (b 34) T (nI d) (L2 d) ∧ DutyAt b d (L2 d) ∧ ∀ j, 2 ≤ j → j ≤ 8 → b d j = ftS a (L2 d) j) : CI b T D2 V L2 := by
  obtain ⟨h1, h2, h3, h4, h5', h6', h7⟩ := h
  refine ⟨⟨h1.1, hD2, h1.2.2⟩, ⟨by rw [h31]; exact h2.1, h5, h6⟩, h3.env hE, fun v k hv hk => ?_, hdu, fun d hd => ?_, by rw [h14]; exact h7.1, fun j h2 h8 => by rw [h14, hE.ft]; exact h7.2 j h2 h8⟩
  · rw [hr v hv]
    rcases h4 v k hv hk with e | ⟨d, hd, e⟩
    · exact Or.inl e
    · exact Or.inr ⟨d, by omega, e⟩
  · obtain ⟨a1, a2, a3⟩ := hL d hd
    exact ⟨by rw [hE.p.2.2.1]; exact a1, a2, fun j h2 h8 => by rw [hE.ft]; exact a3 j h2 h8⟩
theorem MI.new {a b s s2 : dd_S} {T D D2 V : Nat} (h : MI a s T D V) (hE : EnvEq a b) (hr : ∀ v, v < 8 → b (45 + v) = a (45 + v)) (h1 : ∀ k, 1 ≤ k → k ≤ 5 → s2 k = s k) (h7 : s2 7 = s 7) (h0 : ∀ j, (j = 2 ∨ (9 ≤ j ∧ j ≤ 14)) → s2 0 j = s 0 j) (h8 : s2 0 8 = nI D2) (hdu : ∀ t, t < T → s2 6 t = b 34 t) : MI b s2 T D2 V :=
  ⟨(h.1.fr h1 (fun j a b => h0 j (by omega))).env hE, ⟨by rw [h0 2 (by omega)]; exact h.2.1.1, h8, by rw [h0 9 (by omega)]; exact h.2.1.2.2⟩, hdu, fun v k hv hk => by rw [h7, hr v hv]; exact h.2.2.2 v k hv hk⟩
theorem upd_at (f : Nat → Int32) (t u : Nat) (x : Int32) : upd f t x u = if u = t then x else f u := rfl
theorem IsRow.set1 {dep du : Nat → Int32} {T t : Nat} {d x : Int32} {l : List Nat} (h : IsRow dep du T d l) (h1 : du t ≠ d) (h2 : x ≠ d) : IsRow dep (upd du t x) T d l := by
  refine ⟨h.1, fun u => (h.2 u).trans ?_⟩
  rw [upd_at]
  by_cases e : u = t
  · subst e
    rw [if_pos rfl]
    exact ⟨fun q => absurd q.2 h1, fun q => absurd q.2 h2⟩
  · rw [if_neg e]
theorem CI.one {a b : dd_S} {T D D2 V d t : Nat} {x : Int32} {L : Nat → List Nat} {l : List Nat} (h : CI a T D V L) (hd : d < 12) (ht : t < T) (hf : ∀ k, ¬ Scr k → k ≠ d → k ≠ 15 + d → k ≠ 34 → k ≠ 30 → b k = a k) (h5 : b 30 5 = nI D2) (h6 : b 30 6 = nI V) (hD : D ≤ D2) (hD2 : D2 ≤ 12) (h34 : b 34 = upd (a 34) t x) (hx : x = -1 ∨ ∃ e, e < D2 ∧ x = nI e) (ho : ∀ e, e < 12 → e ≠ d → a 34 t ≠ nI e ∧ x ≠ nI e) (hI : IsRow (a 43) (upd (a 34) t x) T (nI d) l) (hDA : DutyAt b d l) (hft : ∀ j, 2 ≤ j → j ≤ 8 → b d j = ftS a l j) : CI b T D2 V (fun e => if e = d then l else L e) := by
  refine h.new (fun k hk => hf k (by unfold Scr; omega) (by omega) (by omega) (by omega) (by omega)) (hf 31 (by unfold Scr; omega) (by omega) (by omega) (by omega) (by omega)) (hf 14 (by unfold Scr; omega) (by omega) (by omega) (by omega) (by omega)) h5 h6 (fun v hv => hf (45 + v) (by unfold Scr; omega) (by omega) (by omega) (by omega) (by omega)) hD hD2 (fun u hu => ?_) (fun e he => ?_)
  · rw [h34, upd_at]
    by_cases e : u = t
    · rw [if_pos e]
      rcases hx with q | q
      · exact Or.inl q
      · exact Or.inr ⟨by omega, q⟩
    · rw [if_neg e]
      rcases h.2.2.2.2.1 u hu with q | ⟨q1, c, q2, q3⟩
      · exact Or.inl q
      · exact Or.inr ⟨q1, c, by omega, q3⟩
  · by_cases ed : e = d
    · subst ed
      rw [h34, if_pos rfl]
      exact ⟨hI, hDA, hft⟩
    · obtain ⟨a1, a2, a3⟩ := h.2.2.2.2.2.1 e he
      obtain ⟨o1, o2⟩ := ho e he ed
      have hk : b e = a e := hf e (by unfold Scr; omega) ed (by omega) (by omega) (by omega)
      rw [h34, if_neg ed]
      exact ⟨a1.set1 o1 o2, ⟨by rw [hk]; exact a2.1, by rw [hf (15 + e) (by unfold Scr; omega) (by omega) (by omega) (by omega) (by omega)]; exact a2.2⟩, fun j h2 h8 => by rw [hk]; exact a3 j h2 h8⟩
theorem MI.one {a b s : dd_S} {T D V d t : Nat} {x : Int32} (h : MI a s T D V) (hd : d < 12) (hf : ∀ k, ¬ Scr k → k ≠ d → k ≠ 15 + d → k ≠ 34 → k ≠ 30 → b k = a k) (h34 : b 34 = upd (a 34) t x) : MI b (st2 s 6 t x) T D V := by
  refine h.new (fun k hk => hf k (by unfold Scr; omega) (by omega) (by omega) (by omega) (by omega)) (fun v hv => hf (45 + v) (by unfold Scr; omega) (by omega) (by omega) (by omega) (by omega)) (fun k _ _ => st2_k _ _ _ _ (by omega)) (st2_k _ _ _ _ (by decide)) (fun j _ => by rw [st2_k _ _ _ _ (show 0 ≠ 6 by decide)]) (by rw [st2_k _ _ _ _ (show 0 ≠ 6 by decide)]; exact h.2.1.2.1) (fun u hu => ?_)
  rw [h34, upd_at, st2_at, if_pos rfl, h.2.2.1 u hu]
/-- the trial's row is kept as the duty's, and a trip is told where it is -/
theorem keep_ev {E s1 : dd_S} {d t : Nat} {l : List Nat} {x : Int32} (hf : FrS E s1) (hd : d < 12) (ht : t < 40) (hl : l.length ≤ 40) (hDA : DutyAt s1 12 l) (hft : ∀ j, 2 ≤ j → j ≤ 8 → s1 12 j = ftS E l j) :
    ∃ s15, f_X0_copy s1 d 12 = some s15 ∧ f_X5_assign s15 (nI t) x = some (st2 s15 34 t x) ∧ (∀ k, ¬ Scr k → k ≠ d → k ≠ 15 + d → k ≠ 34 → st2 s15 34 t x k = E k) ∧ st2 s15 34 t x 34 = upd (E 34) t x ∧ DutyAt (st2 s15 34 t x) d l ∧ ∀ j, 2 ≤ j → j ≤ 8 → st2 s15 34 t x d j = ftS E l j := by
  obtain ⟨s15, a1, a2, a3, a4⟩ := copy_ev (sg := s1) (d := d) (d2 := 12) (by omega) (by decide) (by omega) hl hDA (by rw [hft 8 (by decide) (by decide)]; exact ft8)
  refine ⟨s15, a1, asg_ev ht, fun k h1 h2 h3 h4 => by rw [st2_k _ _ _ _ h4, a2 k h2 h3, hf k h1], ?_, ⟨by rw [st2_k _ _ _ _ (show d ≠ 34 by omega)]; exact a3.1, by rw [st2_k _ _ _ _ (show 15 + d ≠ 34 by omega)]; exact a3.2⟩, fun j h2 h8 => by rw [st2_k _ _ _ _ (show d ≠ 34 by omega), a4 j h2 h8, hft j h2 h8]⟩
  have : st2 s15 34 t x 34 = upd (s15 34) t x := by simp [st2, dd_up]
  rw [this, a2 34 (by omega) (by omega), hf 34 (by unfold Scr; omega)]
theorem m56_ev {s : dd_S} {a1 : Int32} {l : List Nat} {t k : Nat} (hl : l.length ≤ 40) (hl40 : ∀ x ∈ l, x < 40) (hR : RowAt (s 8) l) (hk : k < l.length) (hkt : l[k]? = some t) (hnd : l.Nodup) : ∀ (q i n : Nat), i + q = k → q < n → f_X6_put_56 a1 (nI t) n s (nI i) = some (nI k, s) := by
  have hg : l[k] = t := by
    rw [List.getElem?_eq_getElem hk] at hkt
    exact Option.some.inj hkt
  have ht : t < 40 := hl40 t (by rw [← hg]; exact List.getElem_mem _)
  intro q
  induction q with
  | zero =>
    intro i n hi hn
    obtain ⟨n, rfl⟩ : ∃ m, n = m + 1 := ⟨n - 1, by omega⟩
    have : i = k := by omega
    subst this
    unfold f_X6_put_56
    rw [gd_p (ix_ok (by omega) (by decide)), nI_clamp (by omega), hR i hk, hg, if_pos rfl]
  | succ q ih =>
    intro i n hi hn
    obtain ⟨n, rfl⟩ : ∃ m, n = m + 1 := ⟨n - 1, by omega⟩
    have hne : l[i]'(by omega) ≠ l[k] := List.pairwise_iff_getElem.mp hnd i k (by omega) hk (by omega)
    have hi40 : l[i]'(by omega) < 40 := hl40 _ (List.getElem_mem _)
    unfold f_X6_put_56
    rw [gd_p (ix_ok (by omega) (by decide)), nI_clamp (by omega), hR i (by omega), if_neg (fun e => hne (by rw [hg]; exact nI_inj (by omega) (by omega) e)), lt_e, nI_inc]
    exact ih (i + 1) n (by omega) (by omega)
