/-! tryPut -/
theorem tryPut_ev {E : dd_S} {T D V d t : Nat} {L : Nat → List Nat} (hC : CI E T D V L) (hd : d < 12) (ht : t < T) :
    (∃ s2, f_X5_tryPut E (nI d) (nI t) = some (0, s2) ∧ FrS E s2 ∧ (E 34 t ≠ -1 ∨ Fxd E V (nI d) ∨ ∃ u, u ∈ L d ∧ E 43 u = E 43 t)) ∨
    (E 34 t = -1 ∧ ¬ Fxd E V (nI d) ∧ (∀ u, u ∈ L d → E 43 u ≠ E 43 t) ∧ ∃ l s2, IsRow (E 43) (upd (E 34) t (nI d)) T (nI d) l ∧ f_X5_tryPut E (nI d) (nI t) = some (ftS E l 8, s2) ∧ FrS E s2 ∧ DutyAt s2 12 l ∧ ∀ j, 2 ≤ j → j ≤ 8 → s2 12 j = ftS E l j) := by
  have hT := hC.1.1
  have hV := hC.1.2.2
  have hL := hC.2.2.2.2.2.1 d hd
  unfold f_X5_tryPut
  rw [dof_ev (by omega), bd_s]
  by_cases c1 : E 34 t = -1
  · rw [if_pos c1]
    rcases cFix (E := E) (nI d) hV hC.2.1.2.2 with ⟨g2, g3⟩ | ⟨g2, g3⟩
    · rw [g2, bd_s, if_neg (by decide)]
      exact Or.inl ⟨E, rfl, FrS.refl, Or.inr (Or.inl g3)⟩
    · have htl : t ∉ L d := fun h => by
        have := ((hL.1.2 t).mp h).2
        rw [c1] at this
        exact nI_m1 (by omega) this.symm
      have hlen : (t :: L d).length ≤ T := nodup_len T (t :: L d) (List.nodup_cons.mpr ⟨htl, hL.1.1.nodup⟩) (fun x hx => by
        rcases List.mem_cons.mp hx with e | e
        · omega
        · exact hL.1.lt e)
      have hlen2 : (L d).length < 40 := by rw [List.length_cons] at hlen; omega
      rw [g2, bd_s, if_pos rfl, dat_ev hd, bd_s]
      obtain ⟨s1, a1, a2, a3, a4⟩ := copy_ev (d := 12) (d2 := d) (by decide) (by omega) (by omega) (by omega) hL.2.1 (by rw [hL.2.2 8 (by decide) (by decide)]; exact ft8)
      have hF1 := a2.s12
      have h43 : s1 43 = E 43 := a2 43 (by decide) (by decide)
      rw [a1, bd_s]
      rcases ins_ev (sg := s1) (d := 12) (t := t) (by decide) (by omega) hlen2 (fun x hx => by have := hL.1.lt hx; omega) (by rw [h43]; exact hL.1.1) a3 with ⟨⟨u, hu, e⟩, b1⟩ | ⟨hne, m, s2, b1, b2, b3, b4⟩
      · rw [b1, bd2_s, if_pos rfl]
        exact Or.inl ⟨s1, rfl, hF1, Or.inr (Or.inr ⟨u, hu, by rw [h43] at e; exact e⟩)⟩
      · have hF2 : FrS E s2 := hF1.trans b2.s12
        have hrow : IsRow (E 43) (upd (E 34) t (nI d)) T (nI d) ((L d).take m ++ t :: (L d).drop m) := by
          refine ⟨by rw [h43] at b4; exact b4, fun x => ?_⟩
          rw [ins_mem, hL.1.2 x]
          unfold upd
          by_cases e : x = t
          · subst e; simp [ht]
          · simp [e]
        obtain ⟨s3, d1, d2, d3, d4⟩ := meas_ev (sg := s2) (d := 12) (by decide) (l := (L d).take m ++ t :: (L d).drop m) (by rw [ins_len]; omega) b3 (fun x hx => ((hC.2.2.1.1 x (hrow.lt hx)).1).env hF2.env)
        have h8 : s3 12 8 = ftS E ((L d).take m ++ t :: (L d).drop m) 8 := by rw [d4 8 (by decide) (by decide), hF2.env.ft]
        rw [b1, bd2_s, if_neg (by decide), d1, bd_s, h8, gd_p ft8]
        exact Or.inr ⟨c1, g3, fun u hu => by have := hne u hu; rw [h43] at this; exact this, _, s3, hrow, rfl, hF2.trans (one12 d2), d3, fun j h2 h8 => by rw [d4 j h2 h8, hF2.env.ft]⟩
  · rw [if_neg c1]
    exact Or.inl ⟨E, rfl, FrS.refl, Or.inl c1⟩
