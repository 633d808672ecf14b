/-! filling a day: the reference's search, and both together -/
def cnd (tm op : Nat → Int32) (d : Nat) : Bool := decide (tm d = 0) && decide (op d = 1)
theorem cnd_iff {tm op : Nat → Int32} {d : Nat} : cnd tm op d = true ↔ tm d = 0 ∧ op d = 1 := by
  unfold cnd
  rw [Bool.and_eq_true, decide_eq_true_eq, decide_eq_true_eq]
theorem cnd_f {tm op : Nat → Int32} {d : Nat} (h : ¬ (tm d = 0 ∧ op d = 1)) : cnd tm op d = false := by
  cases e : cnd tm op d with
  | false => rfl
  | true => exact absurd (cnd_iff.mp e) h
theorem fs_loop {E : dd_S} {T D V k : Nat} {L : Nat → List Nat} {kk : dd_S → (Nat → Int32) → Int32 → Int32 → Option (Int32 × dd_S)} {tm key : Nat → Int32} {v3 v4 : Int32} (hC : CI E T D V L) (hk : k < 7) (hkey : ∀ d, d < 12 → E d 2 = key d) : ∀ (q v n : Nat) (v6 : Int32) (s : dd_S), v + q = D → q < n → MI E s T D V → (∀ x, bo (cnd tm (opn E (nI k))) key v = some x → v6 = key x) →
    ∃ n' s2 v6', f_X6_fill_46 (nI k) kk n s tm v3 v4 (enc (bo (cnd tm (opn E (nI k))) key v)) v6 (nI v) = f_X6_fill_46 (nI k) kk (n' + 1) s2 tm v3 v4 (enc (bo (cnd tm (opn E (nI k))) key D)) v6' (nI D) ∧ FrM s s2 := by
  have hD := hC.1.2.1
  have hT := hC.1.1
  intro q
  induction q with
  | zero =>
    intro v n v6 s hv hn hM h6
    have : v = D := by omega
    subst this
    exact ⟨n - 1, s, v6, by rw [show n - 1 + 1 = n by omega], FrM.refl⟩
  | succ q ih =>
    intro v n v6 s hv hn hM h6
    obtain ⟨n, rfl⟩ : ∃ m, n = m + 1 := ⟨n - 1, by omega⟩
    obtain ⟨s1, a1, a2⟩ := mlook hC hM (show v < 12 by omega)
    have hM1 := hM.fr a2.fr
    have hL := hC.2.2.2.2.2.1 v (by omega)
    have hlen := hL.1.len
    have h16 : s1 0 16 = nI (L v).length := a2.2.2.1
    have h17 : s1 0 17 = key v := ((a2.2.2.2.1 2 (by decide) (by decide)).trans (hL.2.2 2 (by decide) (by decide)).symm).trans (hkey v (by omega))
    have ho := (open_ev hC (show v < 12 by omega) hk).2
    generalize hc : cnd tm (opn E (nI k)) = c at *
    have hsame : c v = false → ∃ n' s2 v6', f_X6_fill_114 (nI k) kk (fun zs zt z0 z1 z2 z3 z4 => f_X6_fill_46 (nI k) kk n zs zt z0 z1 z2 z3 z4) s1 tm v3 v4 (enc (bo c key v)) v6 (nI v) = f_X6_fill_46 (nI k) kk (n' + 1) s2 tm v3 v4 (enc (bo c key D)) v6' (nI D) ∧ FrM s s2 := fun h => by
      have e : bo c key (v + 1) = bo c key v := by
        conv => lhs; unfold bo
        rw [if_neg (by rw [h]; decide)]
      obtain ⟨n', s2, v6', b1, b2⟩ := ih (v + 1) n v6 s1 (by omega) (by omega) hM1 (fun x hx => h6 x (by rw [← e]; exact hx))
      unfold f_X6_fill_114
      rw [lt_e, nI_inc, ← e]
      exact ⟨n', s2, v6', b1, a2.fr.trans b2⟩
    have hkeep : bo c key (v + 1) = bo c key v → ∃ n' s2 v6', f_X6_fill_114 (nI k) kk (fun zs zt z0 z1 z2 z3 z4 => f_X6_fill_46 (nI k) kk n zs zt z0 z1 z2 z3 z4) s1 tm v3 v4 (enc (bo c key v)) v6 (nI v) = f_X6_fill_46 (nI k) kk (n' + 1) s2 tm v3 v4 (enc (bo c key D)) v6' (nI D) ∧ FrM s s2 := fun e => by
      obtain ⟨n', s2, v6', b1, b2⟩ := ih (v + 1) n v6 s1 (by omega) (by omega) hM1 (fun x hx => h6 x (by rw [← e]; exact hx))
      unfold f_X6_fill_114
      rw [lt_e, nI_inc, ← e]
      exact ⟨n', s2, v6', b1, a2.fr.trans b2⟩
    have htake : bo c key (v + 1) = some v → ∃ n' s2 v6', f_X6_fill_104 (nI k) kk (fun zs zt z0 z1 z2 z3 z4 => f_X6_fill_46 (nI k) kk n zs zt z0 z1 z2 z3 z4) s1 tm v3 v4 (nI v) = f_X6_fill_46 (nI k) kk (n' + 1) s2 tm v3 v4 (enc (bo c key D)) v6' (nI D) ∧ FrM s s2 := fun e => by
      obtain ⟨n', s2, v6', b1, b2⟩ := ih (v + 1) n (s1 0 17) s1 (by omega) (by omega) hM1 (fun x hx => by
        rw [e] at hx
        rw [← Option.some.inj hx]
        exact h17)
      rw [e] at b1
      unfold f_X6_fill_104 f_X6_fill_114
      rw [lt_e, nI_inc]
      exact ⟨n', s2, v6', b1, a2.fr.trans b2⟩
    unfold f_X6_fill_46
    rw [hM.2.1.2.1, if_neg (nI_ge (by omega) (by omega)), a1, bd2_s, gd_p (ix_ok (by omega) (by decide)), nI_clamp (show v < 2 ^ 31 by omega), h16]
    by_cases c1 : tm v = 0
    · rw [if_pos c1]
      by_cases c2 : nI (L v).length = 0
      · have hnil : L v = [] := List.length_eq_zero_iff.mp (nI_inj (b := 0) (by omega) (by omega) c2)
        rw [if_pos c2]
        refine hsame ?_
        rw [← hc]
        refine cnd_f (fun h => ?_)
        rcases ho with ⟨-, x2, -⟩ | ⟨x1, -⟩
        · exact x2 hnil
        · rw [x1] at h; exact absurd h.2 (by decide)
      · rw [if_neg c2]
        rcases had_both (nI v) hC hM1 hk with ⟨-, g2, g3⟩ | ⟨-, g2, g3⟩
        · rw [g2, bd_s, if_neg (show ¬ (1 : Int32) = 0 by decide)]
          refine hsame ?_
          rw [← hc]
          refine cnd_f (fun h => ?_)
          rcases ho with ⟨-, -, x3⟩ | ⟨x1, -⟩
          · exact x3 g3
          · rw [x1] at h; exact absurd h.2 (by decide)
        · have hop : opn E (nI k) v = 1 := by
            rcases ho with ⟨x1, -, -⟩ | ⟨-, x2 | x2⟩
            · exact x1
            · exact absurd (by rw [x2]; rfl) c2
            · exact absurd x2 g3
          have hcv : c v = true := by rw [← hc]; exact cnd_iff.mpr ⟨c1, hop⟩
          rw [g2, bd_s, if_pos rfl]
          rcases bo_spec c key v with ⟨e, -⟩ | ⟨x, e, hx, -⟩
          · rw [e, if_pos (show enc none = -1 from rfl)]
            refine htake ?_
            conv => lhs; unfold bo
            rw [if_pos hcv, e]
          · have h6x := h6 x e
            have e1 : bo c key (v + 1) = if key v < key x then some v else some x := by
              conv => lhs; unfold bo
              rw [if_pos hcv, e]
            have hne : ¬ enc (bo c key v) = -1 := by rw [e]; exact nI_m1 (by omega)
            rw [if_neg hne, h17, h6x]
            by_cases c3 : key v < key x
            · rw [if_pos c3] at e1
              rw [if_pos c3]
              exact htake e1
            · rw [if_neg c3] at e1
              rw [if_neg c3, ← h6x]
              exact hkeep (e1.trans e.symm)
    · rw [if_neg c1]
      refine hsame ?_
      rw [← hc]
      exact cnd_f (fun h => c1 h.1)
theorem HdOn.ent {E : dd_S} {V u k x y : Nat} (hu : u < V) (hfree : E (45 + u) k = -1) (hx : x < 12) (hy : y < 12) : HdOn (st2 E (45 + u) k (nI x)) V (nI y) k ↔ (y = x ∨ HdOn E V (nI y) k) := by
  constructor
  · rintro ⟨v, hv, e⟩
    rw [st2_at] at e
    by_cases c : 45 + v = 45 + u
    · rw [if_pos c, if_pos rfl] at e
      exact Or.inl (nI_inj (by omega) (by omega) e).symm
    · rw [if_neg c] at e
      exact Or.inr ⟨v, hv, e⟩
  · rintro (h | ⟨v, hv, e⟩)
    · subst h
      exact ⟨u, hu, st2_s _ _ _ _⟩
    · refine ⟨v, hv, ?_⟩
      rw [st2_at]
      by_cases c : 45 + v = 45 + u
      · have : v = u := by omega
        subst this
        rw [hfree] at e
        exact absurd e.symm (nI_m1 (by omega))
      · rw [if_neg c]; exact e
theorem opn_ent {E : dd_S} {T D V u k x : Nat} {L : Nat → List Nat} (hC : CI E T D V L) (hC2 : CI (st2 E (45 + u) k (nI x)) T D V L) (hu : u < V) (hfree : E (45 + u) k = -1) (hx : x < 12) (hk : k < 7) : opn (st2 E (45 + u) k (nI x)) (nI k) x = 0 ∧ ∀ y, y < 12 → y ≠ x → opn E (nI k) y = opn (st2 E (45 + u) k (nI x)) (nI k) y := by
  refine ⟨?_, fun y hy hne => ?_⟩
  · rcases (open_ev hC2 hx hk).2 with ⟨-, -, h⟩ | ⟨h, -⟩
    · exact absurd ((HdOn.ent hu hfree hx hx).mpr (Or.inl rfl)) h
    · exact h
  · have hh := HdOn.ent (y := y) hu hfree hx hy
    rcases (open_ev hC hy hk).2 with ⟨x1, x2, x3⟩ | ⟨x1, x2⟩ <;> rcases (open_ev hC2 hy hk).2 with ⟨y1, y2, y3⟩ | ⟨y1, y2⟩
    · rw [x1, y1]
    · rcases y2 with y2 | y2
      · exact absurd y2 x2
      · rcases hh.mp y2 with q | q
        · exact absurd q hne
        · exact absurd q x3
    · rcases x2 with x2 | x2
      · exact absurd x2 y2
      · exact absurd (hh.mpr (Or.inr x2)) y3
    · rw [x1, y1]
theorem i32_c1 {a b : Int32} (h : a + 1 = b + 1) : a = b := by
  have := congrArg (fun x => x - 1) h
  simpa [Int32.add_sub_cancel] using this
theorem fl_both {T D V k : Nat} {L : Nat → List Nat} {key : Nat → Int32} (hk : k < 7) : ∀ (Q pre : List Nat) (n1 n2 i : Nat) (E s : dd_S) (tm : Nat → Int32) (v3 : Int32), Q.length < n1 → Q.length < n2 → i + Q.length ≤ D → CI E T D V L → MI E s T D V → (∀ d, d < 12 → E d 2 = key d) → QAt E key (pre ++ Q) → (pre ++ Q).length ≤ 40 → QS key Q → (∀ x, x ∈ Q ↔ x < D ∧ cnd tm (opn E (nI k)) x = true) → sN (opn E (nI k)) D = v3 + nI Q.length →
    ∃ r E2 s2, f_X5_fill_68 (nI k) n1 E (nI pre.length) = some (0, r, E2) ∧ f_X6_fill_28 (nI k) n2 s tm v3 (nI i) = some (r, s2) ∧ CI E2 T D V L ∧ MI E2 s2 T D V ∧ s2 0 0 = s 0 0 := by
  intro Q
  induction Q with
  | nil =>
    intro pre n1 n2 i E s tm v3 h1 h2 hi hC hM hkey hA hlen hS hm hsum
    have hD := hC.1.2.1
    obtain ⟨n1, rfl⟩ : ∃ m, n1 = m + 1 := ⟨n1 - 1, by simp at h1; omega⟩
    obtain ⟨n2, rfl⟩ : ∃ m, n2 = m + 1 := ⟨n2 - 1, by simp at h2; omega⟩
    rw [List.append_nil] at hA hlen
    have e3 : v3 = sN (opn E (nI k)) D := by rw [hsum]; exact (Int32.add_zero _).symm
    have hcls : f_X5_fill_68 (nI k) (n1 + 1) E (nI pre.length) = some (0, v3, E) := by
      unfold f_X5_fill_68
      have ho : f_X5_openDuties E (nI k) = some v3 := by rw [e3]; exact cod_loop hC hk D 0 64 (by omega) (by omega)
      rw [hA.1, if_pos ((nI_le_iff (by omega) (by omega)).mpr (Nat.le_refl _)), ho, bd_s]
    have hi2 : i ≤ D := by simp at hi; exact hi
    by_cases c : D ≤ i
    · refine ⟨v3, E, s, hcls, ?_, hC, hM, rfl⟩
      unfold f_X6_fill_28
      rw [hM.2.1.2.1, if_pos ((nI_le_iff (by omega) (by omega)).mpr c)]
      rfl
    · obtain ⟨n', s2, v6', e, hf⟩ := fs_loop (kk := fun zs zt z0 z1 => f_X6_fill_28 (nI k) n2 zs zt z0 z1) (tm := tm) (v3 := v3) (v4 := nI i) hC hk hkey D 0 64 0 s (by omega) (by omega) hM (fun x hx => by cases hx)
      rw [bo_head hS hm] at e
      refine ⟨v3, E, s2, hcls, ?_, hC, hM.fr hf, hf.2 0 (Or.inl rfl)⟩
      unfold f_X6_fill_28
      rw [hM.2.1.2.1, if_neg (nI_ge (by omega) (by omega))]
      refine Eq.trans e ?_
      unfold f_X6_fill_46
      rw [(hM.fr hf).2.1.2.1, if_pos ((nI_le_iff (by omega) (by omega)).mpr (Nat.le_refl _))]
      show (if enc none = -1 then _ else _) = _
      rw [if_pos (show enc none = -1 from rfl)]
      rfl
  | cons x Q ih =>
    intro pre n1 n2 i E s tm v3 h1 h2 hi hC hM hkey hA hlen hS hm hsum
    have hD := hC.1.2.1
    have hV := hC.1.2.2
    obtain ⟨n1, rfl⟩ : ∃ m, n1 = m + 1 := ⟨n1 - 1, by simp at h1; omega⟩
    obtain ⟨n2, rfl⟩ : ∃ m, n2 = m + 1 := ⟨n2 - 1, by simp at h2; omega⟩
    have hx := (hm x).mp (by simp)
    have hxc := cnd_iff.mp hx.2
    have hle : pre.length < (pre ++ x :: Q).length := by simp
    have hnum : E 38 pre.length = nI x := by
      rw [hA.2.2 pre.length hle]
      simp
    have hxQ : x ∉ Q := (List.nodup_cons.mp hS.nodup).1
    have hi2 : i < D := by simp at hi; omega
    obtain ⟨n', s1, v6', e1, hf1⟩ := fs_loop (kk := fun zs zt z0 z1 => f_X6_fill_28 (nI k) n2 zs zt z0 z1) (tm := tm) (v3 := v3) (v4 := nI i) hC hk hkey D 0 64 0 s (by omega) (by omega) hM (fun x hx => by cases hx)
    rw [bo_head (Q := x :: Q) hS hm] at e1
    have hM1 := hM.fr hf1
    obtain ⟨r, n'', s2, r1, r2, hf2, r3⟩ := dr_loop (kk := fun zs zt z0 z1 => f_X6_fill_28 (nI k) n2 zs zt z0 z1) (tm := upd tm x 1) (v3 := v3) (v4 := nI i) hC (show x < 12 by omega) hk V 0 64 64 (-1) 0 s1 (by omega) (by omega) (by omega) hM1 (Or.inl rfl)
    have hM2 := hM1.fr hf2
    have r1' : f_X5_cheapestDriver E (nI k) (nI x) = some r := r1
    have hmod : f_X6_fill_28 (nI k) (n2 + 1) s tm v3 (nI i) = f_X6_fill_140 (nI k) (fun zs zt z0 z1 => f_X6_fill_28 (nI k) n2 zs zt z0 z1) (n'' + 1) s2 (upd tm x 1) v3 (nI i) (nI x) r (nI V) := by
      conv => lhs; unfold f_X6_fill_28
      rw [hM.2.1.2.1, if_neg (nI_ge (by omega) (by omega))]
      refine Eq.trans e1 ?_
      conv => lhs; unfold f_X6_fill_46
      rw [hM1.2.1.2.1, if_pos ((nI_le_iff (by omega) (by omega)).mpr (Nat.le_refl _))]
      have hex : enc (List.head? (x :: Q)) = nI x := rfl
      rw [hex, if_neg (nI_m1 (by omega)), gd_p (ix_ok (by omega) (by decide)), lt_e, nI_clamp (by omega)]
      exact r2
    have hcand : ∀ op2 : Nat → Int32, (∀ y, y < 12 → y ≠ x → opn E (nI k) y = op2 y) → ∀ y, y ∈ Q ↔ y < D ∧ cnd (upd tm x 1) op2 y = true := fun op2 hop y => by
      rw [cnd_iff, upd_at]
      by_cases e : y = x
      · subst e
        rw [if_pos rfl]
        exact ⟨fun h => absurd h hxQ, fun h => absurd h.2.1 (by decide)⟩
      · rw [if_neg e]
        constructor
        · intro h
          have := (hm y).mp (List.mem_cons_of_mem _ h)
          have h3 := cnd_iff.mp this.2
          exact ⟨this.1, h3.1, by rw [← hop y (by omega) e]; exact h3.2⟩
        · rintro ⟨h3, h4, h5⟩
          have := (hm y).mpr ⟨h3, cnd_iff.mpr ⟨h4, by rw [hop y (by omega) e]; exact h5⟩⟩
          rcases List.mem_cons.mp this with q | q
          · exact absurd q e
          · exact q
    have hcl : ∀ E2 : dd_S, f_X5_fillWith E (nI x) (nI k) = some E2 → f_X5_fill_68 (nI k) (n1 + 1) E (nI pre.length) = f_X5_fill_68 (nI k) n1 E2 (nI (pre ++ [x]).length) := fun E2 h => by
      conv => lhs; unfold f_X5_fill_68
      rw [hA.1, if_neg (nI_ge (by omega) (by omega)), num_ev (by omega), bd_s, hnum, h, bd_s, lt_e, nI_inc, List.length_append, List.length_singleton]
    have hpre : (pre ++ [x]) ++ Q = pre ++ x :: Q := by rw [List.append_assoc, List.singleton_append]
    have hsum2 : v3 + nI (x :: Q).length = (v3 + nI Q.length) + 1 := by
      rw [List.length_cons, ← nI_inc, Int32.add_assoc]
    rcases r3 with er | ⟨u, hu, er, hfree⟩
    · subst er
      have hfw : f_X5_fillWith E (nI x) (nI k) = some E := by
        unfold f_X5_fillWith
        rw [r1', bd_s, if_pos rfl]; rfl
      obtain ⟨r4, E3, s3, q1, q2, q3, q4, q5⟩ := ih (pre ++ [x]) n1 n2 (i + 1) E s2 (upd tm x 1) (v3 + 1) (by simp at h1; omega) (by simp at h2; omega) (by simp at hi; omega) hC hM2 hkey (by rw [hpre]; exact hA) (by rw [hpre]; exact hlen) (List.pairwise_cons.mp hS).2 (hcand _ (fun y _ _ => rfl)) (by rw [hsum, hsum2]; ac_rfl)
      refine ⟨r4, E3, s3, (hcl E hfw).trans q1, ?_, q3, q4, by rw [q5, hf2.2 0 (Or.inl rfl), hf1.2 0 (Or.inl rfl)]⟩
      rw [hmod]
      unfold f_X6_fill_140
      rw [hM2.2.1.2.2, if_pos ((nI_le_iff (by omega) (by omega)).mpr (Nat.le_refl _)), if_pos rfl, lt_e]
      unfold f_X6_fill_218
      rw [lt_e, nI_inc]
      exact q2
    · subst er
      have hC2 := hC.roster (v := u) (k := k) (x := nI x) (by omega) hk (Or.inr ⟨x, hx.1, rfl⟩)
      have hM3 := hM2.roster (v := u) (k := k) (x := nI x) (by omega) hk
      obtain ⟨o1, o2⟩ := opn_ent hC hC2 hu hfree (by omega) hk
      have hfw : f_X5_fillWith E (nI x) (nI k) = some (st2 E (45 + u) k (nI x)) := by
        unfold f_X5_fillWith
        rw [r1', bd_s, if_neg (nI_m1 (by omega)), ent_ev (by omega) hk, bd_s]; rfl
      have hu3 := sN_upd (f := opn E (nI k)) (g := opn (st2 E (45 + u) k (nI x)) (nI k)) (d := x) D hx.1 (fun e he hne => o2 e (by omega) hne)
      rw [o1, hxc.2, Int32.add_zero, hsum, hsum2] at hu3
      have hA2 : QAt (st2 E (45 + u) k (nI x)) key ((pre ++ [x]) ++ Q) := by
        rw [hpre]
        exact ⟨by rw [st2_k _ _ _ _ (show 36 ≠ 45 + u by omega)]; exact hA.1, fun j hj => by rw [st2_k _ _ _ _ (show 37 ≠ 45 + u by omega)]; exact hA.2.1 j hj, by rw [st2_k _ _ _ _ (show 38 ≠ 45 + u by omega)]; exact hA.2.2⟩
      obtain ⟨r4, E3, s3, q1, q2, q3, q4, q5⟩ := ih (pre ++ [x]) n1 n2 (i + 1) (st2 E (45 + u) k (nI x)) (st2 s2 7 (7 * u + k) (nI x)) (upd tm x 1) v3 (by simp at h1; omega) (by simp at h2; omega) (by simp at hi; omega) hC2 hM3 (fun d hd => by rw [st2_k _ _ _ _ (show d ≠ 45 + u by omega)]; exact hkey d hd) hA2 (by rw [hpre]; exact hlen) (List.pairwise_cons.mp hS).2 (hcand _ o2) (i32_c1 hu3).symm
      refine ⟨r4, E3, s3, (hcl _ hfw).trans q1, ?_, q3, q4, by rw [q5, st2_k _ _ _ _ (show 0 ≠ 7 by decide), hf2.2 0 (Or.inl rfl), hf1.2 0 (Or.inl rfl)]⟩
      rw [hmod]
      unfold f_X6_fill_140
      rw [hM2.2.1.2.2, if_pos ((nI_le_iff (by omega) (by omega)).mpr (Nat.le_refl _)), if_neg (nI_m1 (by omega)), show (7 : Int32) = nI 7 from rfl, nI_mul, nI_add, gd_p (ix_ok (by omega) (by decide)), lt_e, nI_clamp (by omega)]
      unfold f_X6_fill_218
      rw [lt_e, nI_inc]
      exact q2
theorem one_sum : ∀ l : List Nat, smL (fun _ => 1) l = nI l.length := by
  intro l
  induction l with
  | nil => rfl
  | cons x r ih =>
    unfold smL
    rw [ih, List.length_cons, ← nI_inc, Int32.add_comm]
theorem po_fill : PO_fill Inv := by
  intro sC sM a ⟨T, D, V, L, hC, hM⟩
  have hD := hC.1.2.1
  have hM0 := hM.thrown (v := 0)
  have e00 : st2 sM 0 0 0 0 0 = 0 := st2_s _ _ _ _
  unfold f_X5_fill f_X6_fill
  rw [lt_e, cDay, bd_s, mDay, bd_s]
  rcases rng_d a 7 (by decide) with ⟨h1, -, -⟩ | ⟨h1, -, -, k, hk, rfl⟩
  · rw [h1, if_pos rfl, if_pos rfl, no_ev, bd2_s]
    exact ⟨1, 0, sC, 0, st2 (st2 sM 0 0 0) 0 0 1, rfl, Or.inr rfl, rfl, st2_s _ _ _ _, (fun h => absurd h (by decide)), Inv.mk2 hC hM0.thrown⟩
  · rw [h1, if_neg (show ¬ (1 : Int32) = 0 by decide), if_neg (show ¬ (1 : Int32) = 0 by decide), lt_e]
    obtain ⟨s1, a1, a2, a3⟩ := qc_ev (s := sC) (key := fun d => sC d 2)
    have hC1 := hC.frw a2.w
    have hk1 : ∀ d, d < 12 → s1 d 2 = sC d 2 := fun d hd => by rw [a2 d (by omega) (by omega) (by omega)]
    obtain ⟨E2, Q, b1, b2, b3, b4, b5⟩ := fq_loop (key := fun d => sC d 2) (op := opn s1 (nI k)) hk D 0 64 s1 [] (by omega) (by omega) hC1 hk1 (fun _ _ => rfl) a3 List.Pairwise.nil (fun x => ⟨fun h => absurd h List.not_mem_nil, fun h => absurd h.1 (Nat.not_lt_zero _)⟩)
    have hC2 := hC1.frw b2.w
    have hM2 := (hM0.frCw a2.w).frCw b2.w
    have hlen := nodup_len D Q b4.nodup (fun x hx => ((b5 x).mp hx).1)
    have hop : ∀ d, d < 12 → opn E2 (nI k) d = opn s1 (nI k) d := fun d hd => opn_q hC1 hC2 b2 hd hk
    have hsum : sN (opn E2 (nI k)) D = nI Q.length := by
      rw [← one_sum, smL_sN D Q b4.nodup (fun x hx => ((b5 x).mp hx).1)]
      refine sN_congr D (fun d hd => ?_)
      rw [hop d (by omega)]
      by_cases c : d ∈ Q
      · rw [if_pos c]; exact ((b5 d).mp c).2
      · rw [if_neg c]
        rcases (open_ev hC1 (show d < 12 by omega) hk).2 with ⟨q, -⟩ | ⟨q, -⟩
        · exact absurd ((b5 d).mpr ⟨hd, q⟩) c
        · exact q
    obtain ⟨r, E3, s3, c1, c2, c3, c4, c5⟩ := fl_both (T := T) (D := D) (V := V) (k := k) (L := L) (key := fun d => sC d 2) hk Q [] 64 64 0 E2 (st2 sM 0 0 0) (fun _ => 0) 0 (by omega) (by omega) (by omega) hC2 hM2 (fun d hd => by rw [b2 d (by omega) (by omega) (by omega)]; exact hk1 d hd) b3 (by rw [List.nil_append]; omega) b4 (fun x => by
      rw [b5, cnd_iff]
      constructor
      · rintro ⟨h1, h2⟩
        exact ⟨h1, rfl, by rw [hop x (by omega)]; exact h2⟩
      · rintro ⟨h1, -, h2⟩
        exact ⟨h1, by rw [← hop x (by omega)]; exact h2⟩) (by rw [hsum, Int32.zero_add])
    have b1' : f_X5_fill_27 (nI k) 64 s1 (0 : Int32) = f_X5_fill_68 (nI k) 64 E2 0 := b1
    have c1' : f_X5_fill_68 (nI k) 64 E2 (0 : Int32) = some (0, r, E3) := c1
    have c2' : f_X6_fill_28 (nI k) 64 (st2 sM 0 0 0) (fun _ => 0) 0 (0 : Int32) = some (r, s3) := c2
    rw [a1, bd_s, b1', c1', c2']
    exact ⟨0, r, E3, r, s3, rfl, Or.inl rfl, rfl, c5.trans e00, fun _ => rfl, Inv.mk2 c3 c4⟩
