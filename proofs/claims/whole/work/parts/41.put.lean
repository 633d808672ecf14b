/-! PUTTING: the reference's side -/
def HasD (dep du : Nat → Int32) (T : Nat) (d : Int32) (t : Nat) : Prop := ∃ u, u < T ∧ du u = d ∧ dep u = dep t
theorem mh_loop {s : dd_S} {T t : Nat} {d : Int32} (hT : T ≤ 40) (h2 : s 0 2 = nI T) (ht : t < 40) : ∀ (q u n : Nat) (b : Int32), u + q = T → q < n → ((b = 1 ∧ HasD (s 4) (s 6) T d t) ∨ (b = 0 ∧ ∀ w, w < u → ¬ (s 6 w = d ∧ s 4 w = s 4 t))) →
    (f_X6_hasDeparture_5 s d (nI t) n b (nI u) = some 1 ∧ HasD (s 4) (s 6) T d t) ∨ (f_X6_hasDeparture_5 s d (nI t) n b (nI u) = some 0 ∧ ¬ HasD (s 4) (s 6) T d t) := by
  intro q
  induction q with
  | zero =>
    intro u n b hu hn hb
    obtain ⟨n, rfl⟩ : ∃ m, n = m + 1 := ⟨n - 1, by omega⟩
    unfold f_X6_hasDeparture_5
    rw [h2, if_pos ((nI_le_iff (by omega) (by omega)).mpr (by omega))]
    rcases hb with ⟨e, h⟩ | ⟨e, h⟩
    · subst e; exact Or.inl ⟨rfl, h⟩
    · subst e; exact Or.inr ⟨rfl, fun ⟨w, h1, h3, h4⟩ => h w (by omega) ⟨h3, h4⟩⟩
  | succ q ih =>
    intro u n b hu hn hb
    obtain ⟨n, rfl⟩ : ∃ m, n = m + 1 := ⟨n - 1, by omega⟩
    unfold f_X6_hasDeparture_5
    rw [h2, if_neg (nI_ge (by omega) (by omega))]
    rcases hb with ⟨e, h⟩ | ⟨e, h⟩
    · subst e
      rw [if_neg (by decide)]
      unfold f_X6_hasDeparture_45 f_X6_hasDeparture_50
      rw [lt_e, nI_inc]
      exact ih (u + 1) n 1 (by omega) (by omega) (Or.inl ⟨rfl, h⟩)
    · subst e
      have hno : ¬ (s 6 u = d ∧ s 4 u = s 4 t) → (f_X6_hasDeparture_5 s d (nI t) n 0 (nI (u + 1)) = some 1 ∧ HasD (s 4) (s 6) T d t) ∨ (f_X6_hasDeparture_5 s d (nI t) n 0 (nI (u + 1)) = some 0 ∧ ¬ HasD (s 4) (s 6) T d t) := fun hn9 => ih (u + 1) n 0 (by omega) (by omega) (Or.inr ⟨rfl, fun w hw => by
        by_cases e2 : w = u
        · subst e2; exact hn9
        · exact h w (by omega)⟩)
      rw [if_pos rfl, gd_p (ix_ok (by omega) (by decide)), nI_clamp (show u < 2 ^ 31 by omega)]
      by_cases e1 : s 6 u = d
      · rw [if_pos e1, gd_p (ix_ok (by omega) (by decide)), gd_p (ix_ok ht (by decide)), nI_clamp (show t < 2 ^ 31 by omega)]
        by_cases e2 : s 4 u = s 4 t
        · rw [if_pos e2]
          unfold f_X6_hasDeparture_45 f_X6_hasDeparture_50
          rw [lt_e, nI_inc]
          exact ih (u + 1) n 1 (by omega) (by omega) (Or.inl ⟨rfl, u, by omega, e1, e2⟩)
        · rw [if_neg e2]
          unfold f_X6_hasDeparture_49 f_X6_hasDeparture_50
          rw [lt_e, nI_inc]
          exact hno (fun h9 => e2 h9.2)
      · rw [if_neg e1]
        unfold f_X6_hasDeparture_49 f_X6_hasDeparture_50
        rw [lt_e, nI_inc]
        exact hno (fun h9 => e1 h9.1)
theorem mHas {s : dd_S} {T t : Nat} (d : Int32) (hT : T ≤ 40) (h2 : s 0 2 = nI T) (ht : t < 40) : (f_X6_hasDeparture s d (nI t) = some 1 ∧ HasD (s 4) (s 6) T d t) ∨ (f_X6_hasDeparture s d (nI t) = some 0 ∧ ¬ HasD (s 4) (s 6) T d t) := mh_loop hT h2 ht T 0 64 0 (by omega) (by omega) (Or.inr ⟨rfl, fun w h => absurd h (Nat.not_lt_zero w)⟩)
/-- the reference looks at a duty with other members for a moment -/
theorem mlook2 {E s : dd_S} {T D V t : Nat} {x d : Int32} {L : Nat → List Nat} {l : List Nat} (hC : CI E T D V L) (hM : MI E s T D V) (ht : t < T) (hI : IsRow (E 43) (upd (E 34) t x) T d l) : ∃ s2, f_X6_look (st2 s 6 t x) d = some (ftS E l 8, s2) ∧ Lk E l (st2 s 6 t x) s2 := by
  have h6 : st2 s 6 t x 6 = upd (s 6) t x := by simp [st2, dd_up]
  refine look_ev (du := upd (s 6) t x) (hM.1.fr (fun k _ _ => st2_k _ _ _ _ (by omega)) (fun j _ _ => by rw [st2_k _ _ _ _ (show 0 ≠ 6 by decide)])) hC.1.1 hC.2.2.1 (by rw [st2_k _ _ _ _ (show 0 ≠ 6 by decide)]; exact hM.2.1.1) h6 (hI.congr (fun u hu => ?_))
  unfold upd
  split
  · rfl
  · exact hM.2.2.1 u hu
/-- set back: nothing has moved but scratch -/
theorem back_fr {E s s2 : dd_S} {l : List Nat} {t : Nat} {x y : Int32} (h : Lk E l (st2 s 6 t x) s2) (hy : s 6 t = y) : FrM s (st2 s2 6 t y) := by
  refine ⟨fun k h0 h8 => ?_, fun j hj => by rw [st2_k _ _ _ _ (show 0 ≠ 6 by decide), h.2.1 j (by omega), st2_k _ _ _ _ (show 0 ≠ 6 by decide)]⟩
  by_cases e : k = 6
  · subst e
    funext u
    rw [st2_at, if_pos rfl, h.1 6 (by decide) (by decide), st2_at, if_pos rfl]
    by_cases e2 : u = t
    · rw [if_pos e2, e2, hy]
    · rw [if_neg e2, if_neg e2]
  · rw [st2_k _ _ _ _ e, h.1 k h0 h8, st2_k _ _ _ _ e]
