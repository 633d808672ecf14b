/-! the reference's look: what it leaves -/
def Lk (E : dd_S) (l : List Nat) (s1 s2 : dd_S) : Prop := (∀ k, k ≠ 0 → k ≠ 8 → s2 k = s1 k) ∧ (∀ j, (j < 16 ∨ 23 < j) → s2 0 j = s1 0 j) ∧ s2 0 16 = nI l.length ∧ (∀ j, 2 ≤ j → j ≤ 8 → s2 0 (15 + j) = ftS E l j) ∧ RowAt (s2 8) l
theorem ft8_bz {E : dd_S} {l : List Nat} (h : ∀ x r, l = x :: r → bz (mstS E x r).2.2.2 = true) : bz (ftS E l 8) = true := by
  cases l with
  | nil => rfl
  | cons x r =>
    have := h x r rfl
    simp only [ftS]
    simp
    split
    · exact bz_0
    · split
      · exact this
      · exact bz_0
theorem mst_bz {E : dd_S} : ∀ (r : List Nat) (e : Nat) (dr br wk mo rt : Int32), bz rt = true → bz (mst E e r dr br wk mo rt).2.2.2 = true := by
  intro r
  induction r with
  | nil => intro e dr br wk mo rt h; unfold mst; exact h
  | cons x r ih =>
    intro e dr br wk mo rt h
    unfold mst
    split
    · exact ih _ _ _ _ _ _ (bz_if h bz_0)
    · exact ih _ _ _ _ _ _ (bz_if h bz_0)
theorem ft8 {E : dd_S} {l : List Nat} : bz (ftS E l 8) = true := ft8_bz (fun x r _ => mst_bz _ _ _ _ _ _ _ bz_1)
theorem look_ev {E sM : dd_S} {T : Nat} {du : Nat → Int32} {d : Int32} {l : List Nat} (hL : LinkE E sM) (hT : T ≤ 40) (hB : EnvB E T) (h2 : sM 0 2 = nI T) (h6 : sM 6 = du) (hI : IsRow (E 43) du T d l) : ∃ s2, f_X6_look sM d = some (ftS E l 8, s2) ∧ Lk E l sM s2 := by
  obtain ⟨sA, a1, a2, a3, a4⟩ := sort_ev (d := d) hT h2 hL.2.2.1 h6 hI
  have hlen := hI.len
  unfold f_X6_look
  rw [a1, bd_s]
  simp only [lt_e]
  generalize hsB : st2 (st2 (st2 (st2 (st2 (st2 (st2 sA 0 17 0) 0 18 0) 0 19 0) 0 20 0) 0 21 0) 0 22 0) 0 23 1 = sB
  have hkB : ∀ k, k ≠ 0 → sB k = sA k := fun k hk => by
    rw [← hsB, st2_k _ _ _ _ hk, st2_k _ _ _ _ hk, st2_k _ _ _ _ hk, st2_k _ _ _ _ hk, st2_k _ _ _ _ hk, st2_k _ _ _ _ hk, st2_k _ _ _ _ hk]
  have hjB : ∀ j, (j < 17 ∨ 23 < j) → sB 0 j = sA 0 j := fun j hj => by
    rw [← hsB, st2_j _ _ _ _ (show j ≠ 23 by omega), st2_j _ _ _ _ (show j ≠ 22 by omega), st2_j _ _ _ _ (show j ≠ 21 by omega), st2_j _ _ _ _ (show j ≠ 20 by omega), st2_j _ _ _ _ (show j ≠ 19 by omega), st2_j _ _ _ _ (show j ≠ 18 by omega), st2_j _ _ _ _ (show j ≠ 17 by omega)]
  have hzB : ∀ j, 17 ≤ j → j ≤ 22 → sB 0 j = 0 := fun j h1 h2 => by
    rw [← hsB]
    rcases (show j = 17 ∨ j = 18 ∨ j = 19 ∨ j = 20 ∨ j = 21 ∨ j = 22 by omega) with rfl | rfl | rfl | rfl | rfl | rfl <;> simp [st2_at]
  have h23 : sB 0 23 = 1 := by rw [← hsB]; exact st2_s _ _ _ _
  have h16 : sB 0 16 = nI l.length := (hjB 16 (by omega)).trans a3
  have hRB : RowAt (sB 8) l := by rw [hkB 8 (by decide)]; exact a4
  have frB : (∀ k, k ≠ 0 → k ≠ 8 → sB k = sM k) ∧ ∀ j, (j < 16 ∨ 23 < j) → sB 0 j = sM 0 j := ⟨fun k h1 h2 => (hkB k h1).trans (a2.1 k h1 h2), fun j hj => (hjB j (by omega)).trans (a2.2 j (by omega))⟩
  have hLB : LinkE E sB := hL.fr (fun k h1 h2 => frB.1 k (by omega) (by omega)) (fun j h1 h2 => frB.2 j (by omega))
  rw [h16]
  cases l with
  | nil =>
    rw [if_pos (by rfl)]
    refine ⟨sB, rfl, frB.1, frB.2, h16, fun j h1 h2 => ?_, hRB⟩
    show _ = if j = 8 then (1 : Int32) else 0
    by_cases e : j = 8
    · subst e; exact h23
    · rw [if_neg e]; exact hzB _ (by omega) (by omega)
  | cons x r =>
    have hOk : ∀ t ∈ x :: r, TrOk E t := hB.ok (fun t ht => hI.lt ht)
    have hx := hOk x (by simp)
    have hx40 := hx.1
    have hy := hOk ((x :: r).getLast (by simp)) (List.getLast_mem _)
    have hy40 := hy.1
    have hr0 : sB 8 0 = nI x := hRB 0 (by simp)
    have hrl : sB 8 ((x :: r).length - 1) = nI ((x :: r).getLast (by simp)) := by rw [hRB _ (by simp), List.getLast_eq_getElem]
    have hlen0 : 0 < (x :: r).length := by simp
    have c0 : (0 : Int32).toNatClampNeg = 0 := by decide
    rw [if_neg (fun h => by have := nI_inj (b := 0) (by omega) (by omega) h; omega), c0, hr0, gd_p (show ix (0 : Int32) 40 = true from ix_ok (t := 0) (by decide) (by decide)), gd_p (ix_ok hx.1 (by decide)), gd_p (show ix (0 : Int32) 40 = true from ix_ok (t := 0) (by decide) (by decide)), gd_p (ix_ok hx.1 (by decide)), nI_clamp (by omega), hLB.1, mway_ev hLB pt_0 hx.2.1, bd_s, hLB.2.2.1]
    have hbg : (E 43 x - wy E 0 (E 41 x)) - 10 = bgS E x := rfl
    rw [hbg]
    have h16C : st2 sB 0 17 (bgS E x) 0 16 = nI (x :: r).length := by rw [st2_j _ _ _ _ (by decide)]; exact h16
    rw [h16C, nI_sub1 hlen0, nI_clamp (by omega), st2_k _ _ _ _ (show 8 ≠ 0 by decide), hrl, gd_p (ix_ok (by omega) (by decide)), gd_p (ix_ok hy.1 (by decide)), gd_p (ix_ok (by omega) (by decide)), gd_p (ix_ok hy.1 (by decide)), nI_clamp (by omega), st2_k _ _ _ _ (show 3 ≠ 0 by decide), st2_k _ _ _ _ (show 5 ≠ 0 by decide), hLB.2.1, hLB.2.2.2.1]
    have hLC : LinkE E (st2 sB 0 17 (bgS E x)) := hLB.fr (fun k h1 h2 => st2_k _ _ _ _ (by omega)) (fun j h1 h2 => st2_j _ _ _ _ (by omega))
    rw [mway_ev hLC hy.2.2 pt_0, bd_s]
    have hen : (E 44 ((x :: r).getLast (by simp)) + wy E (E 42 ((x :: r).getLast (by simp))) 0) + 5 = enS E ((x :: r).getLast (by simp)) := rfl
    rw [hen]
    have e18 : st2 (st2 sB 0 17 (bgS E x)) 0 18 (enS E ((x :: r).getLast (by simp))) 0 18 = enS E ((x :: r).getLast (by simp)) := st2_s _ _ _ _
    have e17 : st2 (st2 sB 0 17 (bgS E x)) 0 18 (enS E ((x :: r).getLast (by simp))) 0 17 = bgS E x := by rw [st2_j _ _ _ _ (by decide), st2_s]
    rw [e18, e17]
    generalize hsD : st2 (st2 (st2 sB 0 17 (bgS E x)) 0 18 (enS E ((x :: r).getLast (by simp)))) 0 19 (enS E ((x :: r).getLast (by simp)) - bgS E x) = sD
    have hkD : ∀ k, k ≠ 0 → sD k = sB k := fun k hk => by rw [← hsD, st2_k _ _ _ _ hk, st2_k _ _ _ _ hk, st2_k _ _ _ _ hk]
    have hjD : ∀ j, j ≠ 17 → j ≠ 18 → j ≠ 19 → sD 0 j = sB 0 j := fun j h1 h2 h3 => by rw [← hsD, st2_j _ _ _ _ h3, st2_j _ _ _ _ h2, st2_j _ _ _ _ h1]
    have d17 : sD 0 17 = bgS E x := by rw [← hsD, st2_j _ _ _ _ (by decide)]; exact e17
    have d18 : sD 0 18 = enS E ((x :: r).getLast (by simp)) := by rw [← hsD, st2_j _ _ _ _ (by decide)]; exact e18
    have d19 : sD 0 19 = enS E ((x :: r).getLast (by simp)) - bgS E x := by rw [← hsD]; exact st2_s _ _ _ _
    have hLD : LinkE E sD := hLB.fr (fun k h1 h2 => hkD k (by omega)) (fun j h1 h2 => hjD j (by omega) (by omega) (by omega))
    have hRD : RowAt (sD 8) (x :: r) := by rw [hkD 8 (by decide)]; exact hRB
    have hr0D : sD 8 0 = nI x := hRD 0 (by simp)
    rw [hr0D, gd_p (show ix (0 : Int32) 40 = true from ix_ok (t := 0) (by decide) (by decide)), gd_p (ix_ok hx.1 (by decide)), nI_clamp (by omega), hLD.1, mway_ev hLD pt_0 hx.2.1, bd_s]
    obtain ⟨n2, sF, x2, b1, b2, b3, b4, b5⟩ := lk_loop (E := E) (d := d) (l := x :: r) (by omega) hOk r [] x 64 sD (wy E 0 (E 41 x)) rfl (by simp at hlen; omega) hLD (by rw [hjD 16 (by decide) (by decide) (by decide)]; exact h16) hRD (by rw [hjD 23 (by decide) (by decide) (by decide), h23]; exact bz_1)
    have b1' : f_X6_look_160 d 64 sD (wy E 0 (E 41 x)) (0 : Int32) = f_X6_look_160 d (n2 + 1) sF x2 (nI (x :: r).length) := b1
    rw [b1']
    have hq : (sF 0 21, sF 0 19, mx (sF 0 22) x2, sF 0 23) = mstS E x r := by
      rw [b5]
      unfold mstS
      rw [hjD 21 (by decide) (by decide) (by decide), hjD 22 (by decide) (by decide) (by decide), hjD 23 (by decide) (by decide) (by decide), d19, hzB 21 (by decide) (by decide), hzB 22 (by decide) (by decide), h23]
    have q21 : sF 0 21 = (mstS E x r).1 := by rw [← hq]
    have q19 : sF 0 19 = (mstS E x r).2.1 := by rw [← hq]
    have q22 : mx (sF 0 22) x2 = (mstS E x r).2.2.1 := by rw [← hq]
    have q23 : sF 0 23 = (mstS E x r).2.2.2 := by rw [← hq]
    have f16 : sF 0 16 = nI (x :: r).length := (b3 16 (by decide) (by decide) (by decide) (by decide)).trans ((hjD 16 (by decide) (by decide) (by decide)).trans h16)
    have f17 : sF 0 17 = bgS E x := (b3 17 (by decide) (by decide) (by decide) (by decide)).trans d17
    have f18 : sF 0 18 = enS E ((x :: r).getLast (by simp)) := (b3 18 (by decide) (by decide) (by decide) (by decide)).trans d18
    have hLF : LinkE E sF := hLD.fr (fun k h1 h2 => b2 k (by omega)) (fun j h1 h2 => b3 j (by omega) (by omega) (by omega) (by omega))
    have hwb := work_b hB (fun t ht => hI.lt ht) hI.1
    unfold f_X6_look_160
    rw [f16, if_pos ((nI_le_iff (by omega) (by omega)).mpr (Nat.le_refl _))]
    simp only [lt_e]
    have g1 : (if sF 0 22 < x2 then x2 else sF 0 22) = (mstS E x r).2.2.1 := by rw [mx_lt, q22]
    rw [g1]
    have g2 : st2 sF 0 22 (mstS E x r).2.2.1 0 19 = (mstS E x r).2.1 := by rw [st2_j _ _ _ _ (by decide)]; exact q19
    rw [g2, pay_m (by omega)]
    generalize hsG : st2 (st2 sF 0 22 (mstS E x r).2.2.1) 0 20 (payS (mstS E x r).2.1) = sG
    have hkG : ∀ k, k ≠ 0 → sG k = sF k := fun k hk => by rw [← hsG, st2_k _ _ _ _ hk, st2_k _ _ _ _ hk]
    have hjG : ∀ j, j ≠ 20 → j ≠ 22 → sG 0 j = sF 0 j := fun j h1 h2 => by rw [← hsG, st2_j _ _ _ _ h1, st2_j _ _ _ _ h2]
    have g20 : sG 0 20 = payS (mstS E x r).2.1 := by rw [← hsG]; exact st2_s _ _ _ _
    have g22 : sG 0 22 = (mstS E x r).2.2.1 := by rw [← hsG, st2_j _ _ _ _ (by decide)]; exact st2_s _ _ _ _
    have hft8 : ftS E (x :: r) 8 = if E 32 0 < (mstS E x r).2.2.1 then 0 else if (enS E ((x :: r).getLast (by simp)) - bgS E x) ≤ E 32 1 then (mstS E x r).2.2.2 else 0 := by simp [ftS]
    rw [hjG 23 (by decide) (by decide), q23, hjG 11 (by decide) (by decide), hjG 12 (by decide) (by decide), hjG 18 (by decide) (by decide), hjG 17 (by decide) (by decide), hLF.2.2.2.2.2.1, hLF.2.2.2.2.2.2.1, g22, f18, f17]
    have hend : ∀ v : Int32, v = ftS E (x :: r) 8 → ∃ s2, f_X6_look_478 d sG v = some (ftS E (x :: r) 8, s2) ∧ Lk E (x :: r) sM s2 := by
      intro v hv
      have hbv : bz v = true := by rw [hv]; exact ft8
      unfold f_X6_look_478
      rw [gd_p hbv, lt_e, st2_s, gd_p hbv]
      refine ⟨_, by rw [hv], ?_, ?_, ?_, ?_, ?_⟩
      · intro k h1 h2
        rw [st2_k _ _ _ _ h1, hkG k h1, b2 k h1, hkD k h1]
        exact frB.1 k h1 h2
      · intro j hj
        rw [st2_j _ _ _ _ (by omega), hjG j (by omega) (by omega), b3 j (by omega) (by omega) (by omega) (by omega), hjD j (by omega) (by omega) (by omega)]
        exact frB.2 j hj
      · rw [st2_j _ _ _ _ (by decide), hjG 16 (by decide) (by decide)]; exact f16
      · intro j h1 h2
        rcases (show j = 2 ∨ j = 3 ∨ j = 4 ∨ j = 5 ∨ j = 6 ∨ j = 7 ∨ j = 8 by omega) with rfl | rfl | rfl | rfl | rfl | rfl | rfl
        · rw [st2_j _ _ _ _ (by decide), hjG _ (by decide) (by decide)]; simpa [ftS] using f17
        · rw [st2_j _ _ _ _ (by decide), hjG _ (by decide) (by decide)]; simpa [ftS] using f18
        · rw [st2_j _ _ _ _ (by decide), hjG _ (by decide) (by decide)]; simpa [ftS] using q19
        · rw [st2_j _ _ _ _ (by decide)]; simpa [ftS] using g20
        · rw [st2_j _ _ _ _ (by decide), hjG _ (by decide) (by decide)]; simpa [ftS] using q21
        · rw [st2_j _ _ _ _ (by decide)]; simpa [ftS] using g22
        · exact st2_s _ _ _ _
      · rw [st2_k _ _ _ _ (by decide), hkG 8 (by decide), b2 8 (by decide)]; exact hRD
    rcases nz_or (show bz (mstS E x r).2.2.2 = true from mst_bz _ _ _ _ _ _ _ bz_1) with z | z
    · rw [z, if_pos rfl]
      exact hend 0 (by rw [hft8, z]; simp)
    · rw [z, if_neg (by decide)]
      by_cases c1 : E 32 0 < (mstS E x r).2.2.1
      · rw [if_pos c1]
        exact hend 0 (by rw [hft8, if_pos c1])
      · rw [if_neg c1]
        by_cases c2 : (enS E ((x :: r).getLast (by simp)) - bgS E x) ≤ E 32 1
        · rw [if_neg (i32_nlt.mpr c2)]
          exact hend 1 (by rw [hft8, if_neg c1, if_pos c2, z])
        · rw [if_pos (i32_nle.mp c2)]
          exact hend 0 (by rw [hft8, if_neg c1, if_neg c2])
