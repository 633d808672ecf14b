/-! P28: the trips that the law makes -/
theorem up_s (f : Nat → Int32) (k : Nat) (v : Int32) : upd f k v k = v := if_pos rfl
theorem up_n (f : Nat → Int32) (k : Nat) (v : Int32) {j : Nat} (h : j ≠ k) : upd f k v j = f j := if_neg h
theorem trp_loop {N : Nat} (hN : N ≤ 260) (xs : Nat → Int32) {many : Nat} (hm : many ≤ 34) : ∀ (q t n : Nat) (E : dd_S) (tm : Nat → Int32), t + q = many → q < n → CI E t 0 0 (fun _ => []) → RU E → NoR E →
    ∃ s1 tm1, f_L_trips_3 N xs 1 (nI many) n E tm (nI t) = some (s1, tm1) ∧ CI s1 many 0 0 (fun _ => []) ∧ RU s1 ∧ NoR s1 := by
  intro q
  induction q with
  | zero =>
    intro t n E tm ht hn hC hU hR
    obtain ⟨n, rfl⟩ : ∃ m, n = m + 1 := ⟨n - 1, by omega⟩
    have : t = many := by omega
    subst this
    unfold f_L_trips_3
    rw [if_pos ((nI_le_iff (by omega) (by omega)).mpr (Nat.le_refl _))]
    exact ⟨E, tm, rfl, hC, hU, hR⟩
  | succ q ih =>
    intro t n E tm ht hn hC hU hR
    obtain ⟨n, rfl⟩ : ∃ m, n = m + 1 := ⟨n - 1, by omega⟩
    have h6a : nI t - nI t / (6 : Int32) * (6 : Int32) = nI (t % 6) := rem_ev (u := t) (n := 6) (by omega) (by decide)
    have h6 : (1 : Int32) + (nI t - nI t / (6 : Int32) * (6 : Int32)) = nI (1 + t % 6) := by
      rw [h6a]
      exact nI_add 1 (t % 6)
    obtain ⟨v, hv⟩ := cell_ev E hN xs (k := 1 + t % 6) (by omega)
    have h4 : (4 : Int32) * nI t = nI (4 * t) := nI_mul 4 t
    have h41 : nI (4 * t) + (1 : Int32) = nI (4 * t + 1) := nI_add (4 * t) 1
    have h42 : nI (4 * t) + (2 : Int32) = nI (4 * t + 2) := nI_add (4 * t) 2
    have h43 : nI (4 * t) + (3 : Int32) = nI (4 * t + 3) := nI_add (4 * t) 3
    have i0 : ix (nI (4 * t)) 160 = true := ix_ok (by omega) (by decide)
    have i1 : ix (nI (4 * t + 1)) 160 = true := ix_ok (by omega) (by decide)
    have i2 : ix (nI (4 * t + 2)) 160 = true := ix_ok (by omega) (by decide)
    have i3 : ix (nI (4 * t + 3)) 160 = true := ix_ok (by omega) (by decide)
    unfold f_L_trips_3
    rw [if_neg (nI_ge (by omega) (by omega)), h6, hv, bd_s, lt_e, h4, h41, h42, h43, nI_clamp (show 4 * t < 2 ^ 31 by omega), nI_clamp (show 4 * t + 1 < 2 ^ 31 by omega), nI_clamp (show 4 * t + 2 < 2 ^ 31 by omega), nI_clamp (show 4 * t + 3 < 2 ^ 31 by omega)]
    generalize ((v >>> (((nI t / (6 : Int32)) * (4 : Int32)) &&& 31)) ^^^ (nI t * (911 : Int32))) = x
    obtain ⟨m1, g1, b1⟩ := below_ev E x (n := 3) (by decide) (by decide)
    obtain ⟨m2, g2, b2⟩ := below_ev E (x >>> ((3 : Int32) &&& 31)) (n := 3) (by decide) (by decide)
    obtain ⟨a, ga, b3⟩ := below_ev E (x >>> ((6 : Int32) &&& 31)) (n := 30) (by decide) (by decide)
    obtain ⟨b, gb, b4⟩ := below_ev E (x >>> ((12 : Int32) &&& 31)) (n := 12) (by decide) (by decide)
    have b1' : f_L_below E x (3 : Int32) = some (nI m1) := b1
    have b2' : f_L_below E (x >>> ((3 : Int32) &&& 31)) (3 : Int32) = some (nI m2) := b2
    have b3' : f_L_below E (x >>> ((6 : Int32) &&& 31)) (30 : Int32) = some (nI a) := b3
    have b4' : f_L_below E (x >>> ((12 : Int32) &&& 31)) (12 : Int32) = some (nI b) := b4
    rw [b1', bd_s, gd_p i0, lt_e, b2', bd_s, gd_p i1, lt_e, b3', bd_s, gd_p i2, lt_e, gd_p i2, b4', bd_s, gd_p i3, lt_e, gd_p i0, gd_p i1, gd_p i2, gd_p i3]
    have e300 : (300 : Int32) + (20 : Int32) * nI a = nI (300 + 20 * a) := by
      have e : (20 : Int32) * nI a = nI (20 * a) := nI_mul 20 a
      rw [e]
      exact nI_add 300 (20 * a)
    have e10 : (nI (300 + 20 * a) + (10 : Int32)) + (10 : Int32) * nI b = nI (300 + 20 * a + 10 + 10 * b) := by
      have e : (10 : Int32) * nI b = nI (10 * b) := nI_mul 10 b
      have e2 : nI (300 + 20 * a) + (10 : Int32) = nI (300 + 20 * a + 10) := nI_add (300 + 20 * a) 10
      rw [e, e2]
      exact nI_add _ _
    obtain ⟨E2, a1, a2, a3⟩ := add_ev (c := nI (300 + 20 * a)) (d := nI (300 + 20 * a + 10 + 10 * b)) hC (show t < 40 by omega) (show m1 < 6 by omega) (show m2 < 6 by omega) (by rw [nI_toInt (by omega)]; omega) (by rw [nI_toInt (by omega), nI_toInt (by omega)]; omega) (by rw [nI_toInt (by omega)]; omega) (by rw [nI_toInt (by omega), nI_toInt (by omega)]; omega)
    have hU2 : RU E2 := by
      unfold RU
      rw [a3 32 (by decide) (by decide) (by decide) (by decide) (by decide)]
      exact hU
    have hR2 : NoR E2 := fun v k hv hk => by
      rw [a3 (45 + v) (by omega) (by omega) (by omega) (by omega) (by omega)]
      exact hR v k hv hk
    have key : ∀ (T4 : Nat → Int32), T4 (4 * t) = nI m1 → T4 (4 * t + 1) = nI m2 → T4 (4 * t + 2) = nI (300 + 20 * a) → T4 (4 * t + 3) = nI (300 + 20 * a + 10 + 10 * b) → ∃ s1 tm1, bd2 (f_X5_addTrip E (T4 (4 * t)) (T4 (4 * t + 1)) (T4 (4 * t + 2)) (T4 (4 * t + 3))) (fun (r28 : Int32) (sg27 : dd_S) => if r28 = nI t then (lt (nI t + (1 : Int32)) (fun x30 : Int32 => f_L_trips_3 N xs 1 (nI many) n sg27 T4 x30)) else none) = some (s1, tm1) ∧ CI s1 many 0 0 (fun _ => []) ∧ RU s1 ∧ NoR s1 := fun T4 k0 k1 k2 k3 => by
      rw [k0, k1, k2, k3, a1, bd2_s, if_pos rfl, lt_e, nI_inc]
      exact ih (t + 1) n E2 T4 (by omega) (by omega) a2 hU2 hR2
    refine key _ ?_ ?_ ?_ ?_
    · rw [up_n _ _ _ (by omega), up_n _ _ _ (by omega), up_n _ _ _ (by omega), up_s]
    · rw [up_n _ _ _ (by omega), up_n _ _ _ (by omega), up_s]
    · rw [up_n _ _ _ (by omega), up_s, e300]
    · rw [up_s, up_s, e300, e10]
theorem trp_ev {N : Nat} (hN : N ≤ 260) (xs : Nat → Int32) {many : Nat} (hm : many ≤ 34) {E : dd_S} (tm : Nat → Int32) (hC : CI E 0 0 0 (fun _ => [])) (hU : RU E) (hR : NoR E) : ∃ s1 tm1, f_L_trips E tm N xs 1 (nI many) = some (s1, tm1) ∧ CI s1 many 0 0 (fun _ => []) ∧ RU s1 ∧ NoR s1 :=
  trp_loop hN xs hm many 0 64 E tm (by omega) (by omega) hC hU hR
