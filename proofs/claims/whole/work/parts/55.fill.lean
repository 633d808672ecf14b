/-! FILLING A DAY -/
def opn (E : dd_S) (k : Int32) (d : Nat) : Int32 := (f_X5_isOpenOn E (nI d) k).getD 0
theorem open_ev {E : dd_S} {T D V d k : Nat} {L : Nat → List Nat} (hC : CI E T D V L) (hd : d < 12) (hk : k < 7) : f_X5_isOpenOn E (nI d) (nI k) = some (opn E (nI k) d) ∧ ((opn E (nI k) d = 1 ∧ L d ≠ [] ∧ ¬ HdOn E V (nI d) k) ∨ (opn E (nI k) d = 0 ∧ (L d = [] ∨ HdOn E V (nI d) k))) := by
  have hV := hC.1.2.2
  have hL := hC.2.2.2.2.2.1 d hd
  have hlen := hL.1.len
  have hT := hC.1.1
  have key : (f_X5_isOpenOn E (nI d) (nI k) = some 1 ∧ L d ≠ [] ∧ ¬ HdOn E V (nI d) k) ∨ (f_X5_isOpenOn E (nI d) (nI k) = some 0 ∧ (L d = [] ∨ HdOn E V (nI d) k)) := by
    unfold f_X5_isOpenOn
    rw [dat_ev hd, bd_s, hL.2.1.1]
    by_cases e : (L d).length = 0
    · rw [e, if_pos (show nI 0 ≤ (0 : Int32) by decide)]
      exact Or.inr ⟨rfl, Or.inl (List.length_eq_zero_iff.mp e)⟩
    · rw [if_neg (nI_nle (by omega) (by omega))]
      rcases cHad (E := E) (nI d) hV hC.2.1.2.2 hk with ⟨g1, g2⟩ | ⟨g1, g2⟩
      · rw [g1, bd_s, if_neg (show ¬ (1 : Int32) = 0 by decide)]
        exact Or.inr ⟨rfl, Or.inr g2⟩
      · rw [g1, bd_s, if_pos rfl]
        exact Or.inl ⟨rfl, fun q => e (by rw [q]; rfl), g2⟩
  unfold opn
  rcases key with ⟨h1, h2⟩ | ⟨h1, h2⟩
  · rw [h1]; exact ⟨rfl, Or.inl ⟨rfl, h2⟩⟩
  · rw [h1]; exact ⟨rfl, Or.inr ⟨rfl, h2⟩⟩
theorem cod_loop {E : dd_S} {T D V k : Nat} {L : Nat → List Nat} (hC : CI E T D V L) (hk : k < 7) : ∀ (q d n : Nat), d + q = D → q < n → f_X5_openDuties_4 E (nI k) n (sN (opn E (nI k)) d) (nI d) = some (sN (opn E (nI k)) D) := by
  have hD := hC.1.2.1
  intro q
  induction q with
  | zero =>
    intro d n hd hn
    obtain ⟨n, rfl⟩ : ∃ m, n = m + 1 := ⟨n - 1, by omega⟩
    have : d = D := by omega
    subst this
    unfold f_X5_openDuties_4
    rw [hC.2.1.2.1, if_pos ((nI_le_iff (by omega) (by omega)).mpr (Nat.le_refl _))]
  | succ q ih =>
    intro d n hd hn
    obtain ⟨n, rfl⟩ : ∃ m, n = m + 1 := ⟨n - 1, by omega⟩
    have r := ih (d + 1) n (by omega) (by omega)
    obtain ⟨o1, o2⟩ := open_ev hC (show d < 12 by omega) hk
    unfold f_X5_openDuties_4
    rw [hC.2.1.2.1, if_neg (nI_ge (by omega) (by omega)), o1, bd_s]
    rcases o2 with ⟨e, -⟩ | ⟨e, -⟩
    · have e2 : sN (opn E (nI k)) (d + 1) = sN (opn E (nI k)) d + 1 := by
        conv => lhs; unfold sN
        rw [e]
      rw [e, if_neg (show ¬ (1 : Int32) = 0 by decide), lt_e]
      unfold f_X5_openDuties_24
      rw [lt_e, nI_inc, ← e2]
      exact r
    · have e2 : sN (opn E (nI k)) (d + 1) = sN (opn E (nI k)) d := by
        conv => lhs; unfold sN
        rw [e, Int32.add_zero]
      rw [e, if_pos rfl]
      unfold f_X5_openDuties_24
      rw [lt_e, nI_inc, ← e2]
      exact r
theorem sN_upd {f g : Nat → Int32} {d : Nat} : ∀ n, d < n → (∀ e, e < n → e ≠ d → f e = g e) → sN f n + g d = sN g n + f d := by
  intro n
  induction n with
  | zero => intro h; exact absurd h (Nat.not_lt_zero _)
  | succ n ih =>
    intro hd h
    unfold sN
    by_cases e : d = n
    · subst e
      rw [sN_congr d (fun t ht => h t (by omega) (by omega))]
      ac_rfl
    · have := ih (by omega) (fun t ht hne => h t (by omega) hne)
      rw [h n (by omega) (fun q => e q.symm)]
      have a1 : sN f n + g n + g d = (sN f n + g d) + g n := by ac_rfl
      have a2 : sN g n + g n + f d = (sN g n + f d) + g n := by ac_rfl
      rw [a1, a2, this]
theorem rsn_free {E : dd_S} {T D V v d k : Nat} {L : Nat → List Nat} (hC : CI E T D V L) (hv : v < 8) (hd : d < 12) (hk : k < 7) (h : f_X5_reasonAgainst E (nI v) (nI k) (nI d) = some 0) : E (45 + v) k = -1 := by
  have hV := hC.1.2.2
  unfold f_X5_reasonAgainst at h
  rw [dat_ev hd, bd_s] at h
  by_cases c1 : E d 1 = 0
  · rw [if_pos c1] at h; exact absurd (Option.some.inj h) (by decide)
  · rw [if_neg c1] at h
    by_cases c2 : E d 8 = 0
    · rw [if_pos c2] at h; exact absurd (Option.some.inj h) (by decide)
    · rw [if_neg c2] at h
      rcases cHad (E := E) (nI d) hV hC.2.1.2.2 hk with ⟨g1, -⟩ | ⟨g1, -⟩
      · rw [g1, bd_s, if_neg (show ¬ (1 : Int32) = 0 by decide)] at h; exact absurd (Option.some.inj h) (by decide)
      · rw [g1, bd_s, if_pos rfl, don_ev hv hk, bd_s] at h
        by_cases c3 : E (45 + v) k = -1
        · exact c3
        · rw [if_neg c3] at h; exact absurd (Option.some.inj h) (by decide)
/-- the cheapest driver that may have the duty -/
theorem dr_loop {E : dd_S} {T D V d k : Nat} {L : Nat → List Nat} {kk : dd_S → (Nat → Int32) → Int32 → Int32 → Option (Int32 × dd_S)} {tm : Nat → Int32} {v3 v4 : Int32} (hC : CI E T D V L) (hd : d < 12) (hk : k < 7) : ∀ (q v n1 n2 : Nat) (b p : Int32) (s : dd_S), v + q = V → q < n1 → q < n2 → MI E s T D V → (b = -1 ∨ ∃ u, u < V ∧ b = nI u ∧ f_X5_weekPay E (nI u) = some p ∧ E (45 + u) k = -1) →
    ∃ r n' s2, f_X5_cheapestDriver_8 E (nI k) (nI d) n1 b p (nI v) = some r ∧ f_X6_fill_140 (nI k) kk n2 s tm v3 v4 (nI d) b (nI v) = f_X6_fill_140 (nI k) kk (n' + 1) s2 tm v3 v4 (nI d) r (nI V) ∧ FrM s s2 ∧ (r = -1 ∨ ∃ u, u < V ∧ r = nI u ∧ E (45 + u) k = -1) := by
  have hV := hC.1.2.2
  intro q
  induction q with
  | zero =>
    intro v n1 n2 b p s hv h1 h2 hM hb
    obtain ⟨n1, rfl⟩ : ∃ m, n1 = m + 1 := ⟨n1 - 1, by omega⟩
    have : v = V := by omega
    subst this
    refine ⟨b, n2 - 1, s, ?_, by rw [show n2 - 1 + 1 = n2 by omega], FrM.refl, hb.imp id (fun ⟨u, a1, a2, a3, a4⟩ => ⟨u, a1, a2, a4⟩)⟩
    unfold f_X5_cheapestDriver_8
    rw [hC.2.1.2.2, if_pos ((nI_le_iff (by omega) (by omega)).mpr (Nat.le_refl _))]
  | succ q ih =>
    intro v n1 n2 b p s hv h1 h2 hM hb
    obtain ⟨n1, rfl⟩ : ∃ m, n1 = m + 1 := ⟨n1 - 1, by omega⟩
    obtain ⟨n2, rfl⟩ : ∃ m, n2 = m + 1 := ⟨n2 - 1, by omega⟩
    obtain ⟨r, s1, r1, r2, r3⟩ := rsn_both hC hM (show v < 8 by omega) hd hk
    have hM1 := hM.fr r3
    have skip : ∀ s2, FrM s s2 → ∃ r n' s3, f_X5_cheapestDriver_55 E (nI k) (nI d) (fun z0 z1 z2 => f_X5_cheapestDriver_8 E (nI k) (nI d) n1 z0 z1 z2) b p (nI v) = some r ∧ f_X6_fill_186 (nI k) kk (fun zs zt z0 z1 z2 z3 z4 => f_X6_fill_140 (nI k) kk n2 zs zt z0 z1 z2 z3 z4) s2 tm v3 v4 (nI d) b (nI v) = f_X6_fill_140 (nI k) kk (n' + 1) s3 tm v3 v4 (nI d) r (nI V) ∧ FrM s s3 ∧ (r = -1 ∨ ∃ u, u < V ∧ r = nI u ∧ E (45 + u) k = -1) := fun s2 hf => by
      unfold f_X5_cheapestDriver_55 f_X6_fill_186
      rw [lt_e, lt_e, nI_inc]
      obtain ⟨r, n', s3, a1, a2, a3, a4⟩ := ih (v + 1) n1 n2 b p s2 (by omega) (by omega) (by omega) (hM.fr hf) hb
      exact ⟨r, n', s3, a1, a2, hf.trans a3, a4⟩
    have take : ∀ (s2 : dd_S) (w : Int32), FrM s s2 → f_X5_weekPay E (nI v) = some w → E (45 + v) k = -1 → ∃ r n' s3, f_X5_cheapestDriver_48 E (nI k) (nI d) (fun z0 z1 z2 => f_X5_cheapestDriver_8 E (nI k) (nI d) n1 z0 z1 z2) (nI v) w = some r ∧ f_X6_fill_182 (nI k) kk (fun zs zt z0 z1 z2 z3 z4 => f_X6_fill_140 (nI k) kk n2 zs zt z0 z1 z2 z3 z4) s2 tm v3 v4 (nI d) (nI v) = f_X6_fill_140 (nI k) kk (n' + 1) s3 tm v3 v4 (nI d) r (nI V) ∧ FrM s s3 ∧ (r = -1 ∨ ∃ u, u < V ∧ r = nI u ∧ E (45 + u) k = -1) := fun s2 w hf hw hfree => by
      unfold f_X5_cheapestDriver_48 f_X6_fill_182 f_X5_cheapestDriver_55 f_X6_fill_186
      rw [lt_e, lt_e, nI_inc]
      obtain ⟨r, n', s3, a1, a2, a3, a4⟩ := ih (v + 1) n1 n2 (nI v) w s2 (by omega) (by omega) (by omega) (hM.fr hf) (Or.inr ⟨v, by omega, rfl, hw, hfree⟩)
      exact ⟨r, n', s3, a1, a2, hf.trans a3, a4⟩
    unfold f_X5_cheapestDriver_8
    rw [hC.2.1.2.2, if_neg (nI_ge (by omega) (by omega)), r1, bd_s]
    have hm : ∀ n', f_X6_fill_140 (nI k) kk (n2 + 1) s tm v3 v4 (nI d) b (nI v) = n' → (if r = 0 then (if b = (-1 : Int32) then (f_X6_fill_182 (nI k) kk (fun zs zt z0 z1 z2 z3 z4 => f_X6_fill_140 (nI k) kk n2 zs zt z0 z1 z2 z3 z4) s1 tm v3 v4 (nI d) (nI v)) else (bd2 (f_X6_weekOf s1 (nI v)) (fun (r37 : Int32) (sg36 : dd_S) => bd2 (f_X6_weekOf sg36 b) (fun (r40 : Int32) (sg39 : dd_S) => if r40 ≤ r37 then (f_X6_fill_186 (nI k) kk (fun zs zt z0 z1 z2 z3 z4 => f_X6_fill_140 (nI k) kk n2 zs zt z0 z1 z2 z3 z4) sg39 tm v3 v4 (nI d) b (nI v)) else (f_X6_fill_182 (nI k) kk (fun zs zt z0 z1 z2 z3 z4 => f_X6_fill_140 (nI k) kk n2 zs zt z0 z1 z2 z3 z4) sg39 tm v3 v4 (nI d) (nI v)))))) else (f_X6_fill_186 (nI k) kk (fun zs zt z0 z1 z2 z3 z4 => f_X6_fill_140 (nI k) kk n2 zs zt z0 z1 z2 z3 z4) s1 tm v3 v4 (nI d) b (nI v))) = n' := fun n' h => by
      rw [← h]
      conv => rhs; unfold f_X6_fill_140
      rw [hM.2.1.2.2, if_neg (nI_ge (by omega) (by omega)), r2, bd2_s]
    rw [← hm _ rfl]
    by_cases c1 : r = 0
    · subst c1
      have hfree := rsn_free hC (show v < 8 by omega) hd hk r1
      obtain ⟨w, s2, w1, w2, w3⟩ := week_ev hC hM1 (show v < 8 by omega)
      rw [if_pos rfl, if_pos rfl, w1, bd_s]
      rcases hb with e | ⟨u, u1, u2, u3, u4⟩
      · rw [if_pos e, if_pos e]
        exact take s1 w r3 w1 hfree
      · have hbn : ¬ b = -1 := by rw [u2]; exact nI_m1 (by omega)
        rw [if_neg hbn, if_neg hbn, w2, bd2_s, u2]
        obtain ⟨w', s3, x1, x2, x3⟩ := week_ev hC (hM1.fr w3) (show u < 8 by omega)
        rw [u3] at x1
        have ew := Option.some.inj x1
        subst ew
        rw [x2, bd2_s]
        rw [u2] at skip
        by_cases c2 : p ≤ w
        · rw [if_pos c2, if_pos c2]
          exact skip s3 ((r3.trans w3).trans x3)
        · rw [if_neg c2, if_neg c2]
          exact take s3 w ((r3.trans w3).trans x3) w1 hfree
    · rw [if_neg c1, if_neg c1]
      exact skip s1 r3
theorem opn_q {E s2 : dd_S} {T D V d k : Nat} {L : Nat → List Nat} (hC : CI E T D V L) (hC2 : CI s2 T D V L) (b2 : FrQ E s2) (hd : d < 12) (hk : k < 7) : opn s2 (nI k) d = opn E (nI k) d := by
  have p1 := (open_ev hC hd hk).2
  have p2 := (open_ev hC2 hd hk).2
  have hHd : HdOn s2 V (nI d) k ↔ HdOn E V (nI d) k := by
    have hV := hC.1.2.2
    constructor
    · rintro ⟨u, u1, u2⟩; exact ⟨u, u1, by rw [← b2 (45 + u) (by omega) (by omega) (by omega)]; exact u2⟩
    · rintro ⟨u, u1, u2⟩; exact ⟨u, u1, by rw [b2 (45 + u) (by omega) (by omega) (by omega)]; exact u2⟩
  rcases p1 with ⟨x1, x2, x3⟩ | ⟨x1, x2⟩ <;> rcases p2 with ⟨y1, y2, y3⟩ | ⟨y1, y2⟩
  · rw [x1, y1]
  · rcases y2 with y2 | y2
    · exact absurd y2 x2
    · exact absurd (hHd.mp y2) x3
  · rcases x2 with x2 | x2
    · exact absurd x2 y2
    · exact absurd (hHd.mpr x2) y3
  · rw [x1, y1]
/-- the class's queue of the open duties -/
theorem fq_loop {T D V k : Nat} {L : Nat → List Nat} {key op : Nat → Int32} (hk : k < 7) : ∀ (q v n : Nat) (E : dd_S) (Q : List Nat), v + q = D → q < n → CI E T D V L → (∀ d, d < 12 → E d 2 = key d) → (∀ d, d < 12 → opn E (nI k) d = op d) → QAt E key Q → QS key Q → (∀ x, x ∈ Q ↔ x < v ∧ op x = 1) →
    ∃ E2 Q2, f_X5_fill_27 (nI k) n E (nI v) = f_X5_fill_68 (nI k) 64 E2 0 ∧ FrQ E E2 ∧ QAt E2 key Q2 ∧ QS key Q2 ∧ ∀ x, x ∈ Q2 ↔ x < D ∧ op x = 1 := by
  intro q
  induction q with
  | zero =>
    intro v n E Q hv hn hC hkey hop hA hS hm
    have hD := hC.1.2.1
    obtain ⟨n, rfl⟩ : ∃ m, n = m + 1 := ⟨n - 1, by omega⟩
    have : v = D := by omega
    subst this
    unfold f_X5_fill_27
    rw [hC.2.1.2.1, if_pos ((nI_le_iff (by omega) (by omega)).mpr (Nat.le_refl _))]
    exact ⟨E, Q, rfl, FrQ.refl, hA, hS, hm⟩
  | succ q ih =>
    intro v n E Q hv hn hC hkey hop hA hS hm
    have hD := hC.1.2.1
    obtain ⟨n, rfl⟩ : ∃ m, n = m + 1 := ⟨n - 1, by omega⟩
    obtain ⟨o1, o2⟩ := open_ev hC (show v < 12 by omega) hk
    rw [hop v (by omega)] at o1 o2
    unfold f_X5_fill_27
    rw [hC.2.1.2.1, if_neg (nI_ge (by omega) (by omega)), o1, bd_s]
    rcases o2 with ⟨e, -⟩ | ⟨e, -⟩
    · have hlen := nodup_len v Q hS.nodup (fun x hx => ((hm x).mp hx).1)
      obtain ⟨Q2, s2, b1, b2, b3, b4, b5⟩ := qi_ev (v := v) (by omega) hA hS (fun x hx => ((hm x).mp hx).1)
      have hC2 := hC.frw b2.w
      have hop2 : ∀ d, d < 12 → opn s2 (nI k) d = op d := fun d hd => (opn_q hC hC2 b2 hd hk).trans (hop d hd)
      rw [e, if_neg (show ¬ (1 : Int32) = 0 by decide), dat_ev (by omega), bd_s, hkey v (by omega), b1, bd_s]
      unfold f_X5_fill_60
      rw [lt_e, nI_inc]
      obtain ⟨E3, Q3, c1, c2, c3, c4, c5⟩ := ih (v + 1) n s2 Q2 (by omega) (by omega) hC2 (fun d hd => by rw [b2 d (by omega) (by omega) (by omega)]; exact hkey d hd) hop2 b3 b4 (fun x => by
        rw [b5, hm]
        constructor
        · rintro (h | h)
          · subst h; exact ⟨by omega, e⟩
          · exact ⟨by omega, h.2⟩
        · rintro ⟨h1, h2⟩
          by_cases e2 : x = v
          · exact Or.inl e2
          · exact Or.inr ⟨by omega, h2⟩)
      exact ⟨E3, Q3, c1, b2.trans c2, c3, c4, c5⟩
    · rw [e, if_pos rfl]
      unfold f_X5_fill_60
      rw [lt_e, nI_inc]
      exact ih (v + 1) n E Q (by omega) (by omega) hC hkey hop hA hS (fun x => by
        rw [hm]
        constructor
        · rintro h; exact ⟨by omega, h.2⟩
        · rintro ⟨h1, h2⟩
          by_cases e2 : x = v
          · subst e2; rw [e] at h2; exact absurd h2 (by decide)
          · exact ⟨by omega, h2⟩)
