/-! PUTTING: the reference's side -/
def HasD (dep du : Nat → Int32) (T : Nat) (d : Int32) (t : Nat) : Prop := ∃ u, u < T ∧ du u = d ∧ dep u = dep t
/-! tryPut -/
theorem tryPut_ev {E : dd_S} {T D V d t : Nat} {L : Nat → List Nat} (hC : CI E T D V L) (hd : d < 12) (ht : t < T) :
    (∃ s2, f_X5_tryPut E (nI d) (nI t) = some (0, s2) ∧ FrS E s2 ∧ (E 34 t ≠ -1 ∨ Fxd E V (nI d) ∨ ∃ u, u ∈ L d ∧ E 43 u = E 43 t)) ∨
    (E 34 t = -1 ∧ ¬ Fxd E V (nI d) ∧ (∀ u, u ∈ L d → E 43 u ≠ E 43 t) ∧ ∃ l s2, IsRow (E 43) (upd (E 34) t (nI d)) T (nI d) l ∧ f_X5_tryPut E (nI d) (nI t) = some (ftS E l 8, s2) ∧ FrS E s2 ∧ DutyAt s2 12 l ∧ ∀ j, 2 ≤ j → j ≤ 8 → s2 12 j = ftS E l j) := by
  have hT := hC.1.1
  have hV := hC.1.2.2
  have hL := hC.2.2.2.2.2.1 d hd
  unfold f_X5_tryPut
  rw [dof_ev (by omega), bd_s]
  by_cases c1 : E 34 t = -1
  · rw [if_pos c1]
    rcases cFix (E := E) (nI d) hV hC.2.1.2.2 with ⟨g2, g3⟩ | ⟨g2, g3⟩
    · rw [g2, bd_s, if_neg (by decide)]
      exact Or.inl ⟨E, rfl, FrS.refl, Or.inr (Or.inl g3)⟩
    · have htl : t ∉ L d := fun h => by
        have := ((hL.1.2 t).mp h).2
        rw [c1] at this
        exact nI_m1 (by omega) this.symm
      have hlen : (t :: L d).length ≤ T := nodup_len T (t :: L d) (List.nodup_cons.mpr ⟨htl, hL.1.1.nodup⟩) (fun x hx => by
        rcases List.mem_cons.mp hx with e | e
        · omega
        · exact hL.1.lt e)
      have hlen2 : (L d).length < 40 := by rw [List.length_cons] at hlen; omega
      rw [g2, bd_s, if_pos rfl, dat_ev hd, bd_s]
      obtain ⟨s1, a1, a2, a3, a4⟩ := copy_ev (d := 12) (d2 := d) (by decide) (by omega) (by omega) (by omega) hL.2.1 (by rw [hL.2.2 8 (by decide) (by decide)]; exact ft8)
      have hF1 := a2.s12
      have h43 : s1 43 = E 43 := a2 43 (by decide) (by decide)
      rw [a1, bd_s]
      rcases ins_ev (sg := s1) (d := 12) (t := t) (by decide) (by omega) hlen2 (fun x hx => by have := hL.1.lt hx; omega) (by rw [h43]; exact hL.1.1) a3 with ⟨⟨u, hu, e⟩, b1⟩ | ⟨hne, m, s2, b1, b2, b3, b4⟩
      · rw [b1, bd2_s, if_pos rfl]
        exact Or.inl ⟨s1, rfl, hF1, Or.inr (Or.inr ⟨u, hu, by rw [h43] at e; exact e⟩)⟩
      · have hF2 : FrS E s2 := hF1.trans b2.s12
        have hrow : IsRow (E 43) (upd (E 34) t (nI d)) T (nI d) ((L d).take m ++ t :: (L d).drop m) := by
          refine ⟨by rw [h43] at b4; exact b4, fun x => ?_⟩
          rw [ins_mem, hL.1.2 x]
          unfold upd
          by_cases e : x = t
          · subst e; simp [ht]
          · simp [e]
        obtain ⟨s3, d1, d2, d3, d4⟩ := meas_ev (sg := s2) (d := 12) (by decide) (l := (L d).take m ++ t :: (L d).drop m) (by rw [ins_len]; omega) b3 (fun x hx => ((hC.2.2.1.1 x (hrow.lt hx)).1).env hF2.env)
        have h8 : s3 12 8 = ftS E ((L d).take m ++ t :: (L d).drop m) 8 := by rw [d4 8 (by decide) (by decide), hF2.env.ft]
        rw [b1, bd2_s, if_neg (by decide), d1, bd_s, h8, gd_p ft8]
        exact Or.inr ⟨c1, g3, fun u hu => by have := hne u hu; rw [h43] at this; exact this, _, s3, hrow, rfl, hF2.trans (one12 d2), d3, fun j h2 h8 => by rw [d4 j h2 h8, hF2.env.ft]⟩
  · rw [if_neg c1]
    exact Or.inl ⟨E, rfl, FrS.refl, Or.inl c1⟩
/-- the trip may be put into the duty, and the duty stays right -/
def Good (E : dd_S) (T V t e : Nat) : Prop := E 34 t = -1 ∧ ¬ Fxd E V (nI e) ∧ ∃ l, IsRow (E 43) (upd (E 34) t (nI e)) T (nI e) l ∧ ftS E l 8 ≠ 0
theorem Good.fr {E E2 : dd_S} {T V t e : Nat} (hf : FrS E E2) (h : Good E T V t e) : Good E2 T V t e := by
  obtain ⟨h1, h2, l, h3, h4⟩ := h
  refine ⟨by rw [hf 34 (by unfold Scr; omega)]; exact h1, fun ⟨k, hk, v, hv, e⟩ => h2 ⟨k, hk, v, hv, ?_⟩, l, by rw [hf.env.p.2.2.1, hf 34 (by unfold Scr; omega)]; exact h3, by rw [hf.env.ft]; exact h4⟩
  rw [← hf (45 + v) (by unfold Scr; omega)]; exact e
/-! DUTIES CHANGED: what must hold of them -/
theorem CI.new {a b : dd_S} {T D D2 V : Nat} {L L2 : Nat → List Nat} (h : CI a T D V L) (hE : EnvEq a b) (h31 : b 31 = a 31) (h14 : b 14 = a 14) (h5 : b 30 5 = nI D2) (h6 : b 30 6 = nI V) (hr : ∀ v, v < 8 → b (45 + v) = a (45 + v)) (hD : D ≤ D2) (hD2 : D2 ≤ 12) (hdu : ∀ t, t < 40 → b 34 t = -1 ∨ (t < T ∧ ∃ d, d < D2 ∧ b 34 t = nI d)) (hL : ∀ d, d < 12 → IsRow (a 43) (b 34) T (nI d) (L2 d) ∧ DutyAt b d (L2 d) ∧ ∀ j, 2 ≤ j → j ≤ 8 → b d j = ftS a (L2 d) j) : CI b T D2 V L2 := by
  obtain ⟨h1, h2, h3, h4, h5', h6', h7⟩ := h
  refine ⟨⟨h1.1, hD2, h1.2.2⟩, ⟨by rw [h31]; exact h2.1, h5, h6⟩, h3.env hE, fun v k hv hk => ?_, hdu, fun d hd => ?_, by rw [h14]; exact h7.1, fun j h2 h8 => by rw [h14, hE.ft]; exact h7.2 j h2 h8⟩
  · rw [hr v hv]
    rcases h4 v k hv hk with e | ⟨d, hd, e⟩
    · exact Or.inl e
    · exact Or.inr ⟨d, by omega, e⟩
  · obtain ⟨a1, a2, a3⟩ := hL d hd
    exact ⟨by rw [hE.p.2.2.1]; exact a1, a2, fun j h2 h8 => by rw [hE.ft]; exact a3 j h2 h8⟩
theorem upd_at (f : Nat → Int32) (t u : Nat) (x : Int32) : upd f t x u = if u = t then x else f u := rfl
theorem IsRow.set1 {dep du : Nat → Int32} {T t : Nat} {d x : Int32} {l : List Nat} (h : IsRow dep du T d l) (h1 : du t ≠ d) (h2 : x ≠ d) : IsRow dep (upd du t x) T d l := by
  refine ⟨h.1, fun u => (h.2 u).trans ?_⟩
  rw [upd_at]
  by_cases e : u = t
  · subst e
    rw [if_pos rfl]
    exact ⟨fun q => absurd q.2 h1, fun q => absurd q.2 h2⟩
  · rw [if_neg e]
theorem CI.one {a b : dd_S} {T D D2 V d t : Nat} {x : Int32} {L : Nat → List Nat} {l : List Nat} (h : CI a T D V L) (hd : d < 12) (ht : t < T) (hf : ∀ k, ¬ Scr k → k ≠ d → k ≠ 15 + d → k ≠ 34 → k ≠ 30 → b k = a k) (h5 : b 30 5 = nI D2) (h6 : b 30 6 = nI V) (hD : D ≤ D2) (hD2 : D2 ≤ 12) (h34 : b 34 = upd (a 34) t x) (hx : x = -1 ∨ ∃ e, e < D2 ∧ x = nI e) (ho : ∀ e, e < 12 → e ≠ d → a 34 t ≠ nI e ∧ x ≠ nI e) (hI : IsRow (a 43) (upd (a 34) t x) T (nI d) l) (hDA : DutyAt b d l) (hft : ∀ j, 2 ≤ j → j ≤ 8 → b d j = ftS a l j) : CI b T D2 V (fun e => if e = d then l else L e) := by
  refine h.new (fun k hk => hf k (by unfold Scr; omega) (by omega) (by omega) (by omega) (by omega)) (hf 31 (by unfold Scr; omega) (by omega) (by omega) (by omega) (by omega)) (hf 14 (by unfold Scr; omega) (by omega) (by omega) (by omega) (by omega)) h5 h6 (fun v hv => hf (45 + v) (by unfold Scr; omega) (by omega) (by omega) (by omega) (by omega)) hD hD2 (fun u hu => ?_) (fun e he => ?_)
  · rw [h34, upd_at]
    by_cases e : u = t
    · rw [if_pos e]
      rcases hx with q | q
      · exact Or.inl q
      · exact Or.inr ⟨by omega, q⟩
    · rw [if_neg e]
      rcases h.2.2.2.2.1 u hu with q | ⟨q1, c, q2, q3⟩
      · exact Or.inl q
      · exact Or.inr ⟨q1, c, by omega, q3⟩
  · by_cases ed : e = d
    · subst ed
      rw [h34, if_pos rfl]
      exact ⟨hI, hDA, hft⟩
    · obtain ⟨a1, a2, a3⟩ := h.2.2.2.2.2.1 e he
      obtain ⟨o1, o2⟩ := ho e he ed
      have hk : b e = a e := hf e (by unfold Scr; omega) ed (by omega) (by omega) (by omega)
      rw [h34, if_neg ed]
      exact ⟨a1.set1 o1 o2, ⟨by rw [hk]; exact a2.1, by rw [hf (15 + e) (by unfold Scr; omega) (by omega) (by omega) (by omega) (by omega)]; exact a2.2⟩, fun j h2 h8 => by rw [hk]; exact a3 j h2 h8⟩
/-- the trial's row is kept as the duty's, and a trip is told where it is -/
theorem keep_ev {E s1 : dd_S} {d t : Nat} {l : List Nat} {x : Int32} (hf : FrS E s1) (hd : d < 12) (ht : t < 40) (hl : l.length ≤ 40) (hDA : DutyAt s1 12 l) (hft : ∀ j, 2 ≤ j → j ≤ 8 → s1 12 j = ftS E l j) :
    ∃ s15, f_X0_copy s1 d 12 = some s15 ∧ f_X5_assign s15 (nI t) x = some (st2 s15 34 t x) ∧ (∀ k, ¬ Scr k → k ≠ d → k ≠ 15 + d → k ≠ 34 → st2 s15 34 t x k = E k) ∧ st2 s15 34 t x 34 = upd (E 34) t x ∧ DutyAt (st2 s15 34 t x) d l ∧ ∀ j, 2 ≤ j → j ≤ 8 → st2 s15 34 t x d j = ftS E l j := by
  obtain ⟨s15, a1, a2, a3, a4⟩ := copy_ev (sg := s1) (d := d) (d2 := 12) (by omega) (by decide) (by omega) hl hDA (by rw [hft 8 (by decide) (by decide)]; exact ft8)
  refine ⟨s15, a1, asg_ev ht, fun k h1 h2 h3 h4 => by rw [st2_k _ _ _ _ h4, a2 k h2 h3, hf k h1], ?_, ⟨by rw [st2_k _ _ _ _ (show d ≠ 34 by omega)]; exact a3.1, by rw [st2_k _ _ _ _ (show 15 + d ≠ 34 by omega)]; exact a3.2⟩, fun j h2 h8 => by rw [st2_k _ _ _ _ (show d ≠ 34 by omega), a4 j h2 h8, hft j h2 h8]⟩
  have : st2 s15 34 t x 34 = upd (s15 34) t x := by simp [st2, dd_up]
  rw [this, a2 34 (by omega) (by omega), hf 34 (by unfold Scr; omega)]
