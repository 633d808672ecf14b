/-! PLANNING -/
theorem Fxd.env {E E2 : dd_S} {V : Nat} {d : Int32} (h : ∀ v, v < V → E2 (45 + v) = E (45 + v)) : Fxd E2 V d ↔ Fxd E V d := by
  constructor
  · rintro ⟨k, hk, v, hv, e⟩
    exact ⟨k, hk, v, hv, by rw [← h v hv]; exact e⟩
  · rintro ⟨k, hk, v, hv, e⟩
    exact ⟨k, hk, v, hv, by rw [h v hv]; exact e⟩
/-- the class's queue of the trips that are in no duty -/
theorem cq_loop {T D V : Nat} {L : Nat → List Nat} {dep du : Nat → Int32} : ∀ (q v n : Nat) (E : dd_S) (Q : List Nat), v + q = T → q < n → CI E T D V L → E 43 = dep → E 34 = du → QAt E dep Q → QS dep Q → (∀ x, x ∈ Q ↔ x < v ∧ du x = -1) →
    ∃ E2 Q2, f_X5_plan_9 n E (nI v) = f_X5_plan_53 64 E2 0 ∧ FrQ E E2 ∧ QAt E2 dep Q2 ∧ QS dep Q2 ∧ ∀ x, x ∈ Q2 ↔ x < T ∧ du x = -1 := by
  intro q
  induction q with
  | zero =>
    intro v n E Q hv hn hC h43 h34 hA hS hm
    have hT := hC.1.1
    obtain ⟨n, rfl⟩ : ∃ m, n = m + 1 := ⟨n - 1, by omega⟩
    have : v = T := by omega
    subst this
    unfold f_X5_plan_9
    rw [hC.2.1.1, if_pos ((nI_le_iff (by omega) (by omega)).mpr (Nat.le_refl _))]
    exact ⟨E, Q, rfl, FrQ.refl, hA, hS, hm⟩
  | succ q ih =>
    intro v n E Q hv hn hC h43 h34 hA hS hm
    have hT := hC.1.1
    obtain ⟨n, rfl⟩ : ∃ m, n = m + 1 := ⟨n - 1, by omega⟩
    unfold f_X5_plan_9
    rw [hC.2.1.1, if_neg (nI_ge (by omega) (by omega)), dof_ev (by omega), bd_s, h34]
    by_cases e : du v = -1
    · have hlen := nodup_len v Q hS.nodup (fun x hx => ((hm x).mp hx).1)
      obtain ⟨Q2, s2, b1, b2, b3, b4, b5⟩ := qi_ev (v := v) (by omega) hA hS (fun x hx => ((hm x).mp hx).1)
      rw [if_pos e, dep_ev (by omega), bd_s, h43, b1, bd_s]
      unfold f_X5_plan_45
      rw [lt_e, nI_inc]
      obtain ⟨E3, Q3, c1, c2, c3, c4, c5⟩ := ih (v + 1) n s2 Q2 (by omega) (by omega) (hC.frw b2.w) ((b2 43 (by decide) (by decide) (by decide)).trans h43) ((b2 34 (by decide) (by decide) (by decide)).trans h34) b3 b4 (fun x => by
        rw [b5, hm]
        constructor
        · rintro (h | h)
          · subst h; exact ⟨by omega, e⟩
          · exact ⟨by omega, h.2⟩
        · rintro ⟨h1, h2⟩
          by_cases e2 : x = v
          · exact Or.inl e2
          · exact Or.inr ⟨by omega, h2⟩)
      exact ⟨E3, Q3, c1, b2.trans c2, c3, c4, c5⟩
    · rw [if_neg e]
      unfold f_X5_plan_45
      rw [lt_e, nI_inc]
      exact ih (v + 1) n E Q (by omega) (by omega) hC h43 h34 hA hS (fun x => by
        rw [hm]
        constructor
        · rintro h; exact ⟨by omega, h.2⟩
        · rintro ⟨h1, h2⟩
          by_cases e2 : x = v
          · subst e2; exact absurd h2 e
          · exact ⟨by omega, h2⟩)
/-- the reference's search -/
def cand (tm du : Nat → Int32) (t : Nat) : Bool := decide (tm t = 0) && decide (du t = -1)
theorem cand_iff {tm du : Nat → Int32} {t : Nat} : cand tm du t = true ↔ tm t = 0 ∧ du t = -1 := by
  unfold cand
  rw [Bool.and_eq_true, decide_eq_true_eq, decide_eq_true_eq]
/-! FILLING A DAY -/
def opn (E : dd_S) (k : Int32) (d : Nat) : Int32 := (f_X5_isOpenOn E (nI d) k).getD 0
theorem open_ev {E : dd_S} {T D V d k : Nat} {L : Nat → List Nat} (hC : CI E T D V L) (hd : d < 12) (hk : k < 7) : f_X5_isOpenOn E (nI d) (nI k) = some (opn E (nI k) d) ∧ ((opn E (nI k) d = 1 ∧ L d ≠ [] ∧ ¬ HdOn E V (nI d) k) ∨ (opn E (nI k) d = 0 ∧ (L d = [] ∨ HdOn E V (nI d) k))) := by
  have hV := hC.1.2.2
  have hL := hC.2.2.2.2.2.1 d hd
  have hlen := hL.1.len
  have hT := hC.1.1
  have key : (f_X5_isOpenOn E (nI d) (nI k) = some 1 ∧ L d ≠ [] ∧ ¬ HdOn E V (nI d) k) ∨ (f_X5_isOpenOn E (nI d) (nI k) = some 0 ∧ (L d = [] ∨ HdOn E V (nI d) k)) := by
    unfold f_X5_isOpenOn
    rw [dat_ev hd, bd_s, hL.2.1.1]
    by_cases e : (L d).length = 0
    · rw [e, if_pos (show nI 0 ≤ (0 : Int32) by decide)]
      exact Or.inr ⟨rfl, Or.inl (List.length_eq_zero_iff.mp e)⟩
    · rw [if_neg (nI_nle (by omega) (by omega))]
      rcases cHad (E := E) (nI d) hV hC.2.1.2.2 hk with ⟨g1, g2⟩ | ⟨g1, g2⟩
      · rw [g1, bd_s, if_neg (show ¬ (1 : Int32) = 0 by decide)]
        exact Or.inr ⟨rfl, Or.inr g2⟩
      · rw [g1, bd_s, if_pos rfl]
        exact Or.inl ⟨rfl, fun q => e (by rw [q]; rfl), g2⟩
  unfold opn
  rcases key with ⟨h1, h2⟩ | ⟨h1, h2⟩
  · rw [h1]; exact ⟨rfl, Or.inl ⟨rfl, h2⟩⟩
  · rw [h1]; exact ⟨rfl, Or.inr ⟨rfl, h2⟩⟩
theorem cod_loop {E : dd_S} {T D V k : Nat} {L : Nat → List Nat} (hC : CI E T D V L) (hk : k < 7) : ∀ (q d n : Nat), d + q = D → q < n → f_X5_openDuties_4 E (nI k) n (sN (opn E (nI k)) d) (nI d) = some (sN (opn E (nI k)) D) := by
  have hD := hC.1.2.1
  intro q
  induction q with
  | zero =>
    intro d n hd hn
    obtain ⟨n, rfl⟩ : ∃ m, n = m + 1 := ⟨n - 1, by omega⟩
    have : d = D := by omega
    subst this
    unfold f_X5_openDuties_4
    rw [hC.2.1.2.1, if_pos ((nI_le_iff (by omega) (by omega)).mpr (Nat.le_refl _))]
  | succ q ih =>
    intro d n hd hn
    obtain ⟨n, rfl⟩ : ∃ m, n = m + 1 := ⟨n - 1, by omega⟩
    have r := ih (d + 1) n (by omega) (by omega)
    obtain ⟨o1, o2⟩ := open_ev hC (show d < 12 by omega) hk
    unfold f_X5_openDuties_4
    rw [hC.2.1.2.1, if_neg (nI_ge (by omega) (by omega)), o1, bd_s]
    rcases o2 with ⟨e, -⟩ | ⟨e, -⟩
    · have e2 : sN (opn E (nI k)) (d + 1) = sN (opn E (nI k)) d + 1 := by
        conv => lhs; unfold sN
        rw [e]
      rw [e, if_neg (show ¬ (1 : Int32) = 0 by decide), lt_e]
      unfold f_X5_openDuties_24
      rw [lt_e, nI_inc, ← e2]
      exact r
    · have e2 : sN (opn E (nI k)) (d + 1) = sN (opn E (nI k)) d := by
        conv => lhs; unfold sN
        rw [e, Int32.add_zero]
      rw [e, if_pos rfl]
      unfold f_X5_openDuties_24
      rw [lt_e, nI_inc, ← e2]
      exact r
theorem sN_upd {f g : Nat → Int32} {d : Nat} : ∀ n, d < n → (∀ e, e < n → e ≠ d → f e = g e) → sN f n + g d = sN g n + f d := by
  intro n
  induction n with
  | zero => intro h; exact absurd h (Nat.not_lt_zero _)
  | succ n ih =>
    intro hd h
    unfold sN
    by_cases e : d = n
    · subst e
      rw [sN_congr d (fun t ht => h t (by omega) (by omega))]
      ac_rfl
    · have := ih (by omega) (fun t ht hne => h t (by omega) hne)
      rw [h n (by omega) (fun q => e q.symm)]
      have a1 : sN f n + g n + g d = (sN f n + g d) + g n := by ac_rfl
      have a2 : sN g n + g n + f d = (sN g n + f d) + g n := by ac_rfl
      rw [a1, a2, this]
theorem rsn_free {E : dd_S} {T D V v d k : Nat} {L : Nat → List Nat} (hC : CI E T D V L) (hv : v < 8) (hd : d < 12) (hk : k < 7) (h : f_X5_reasonAgainst E (nI v) (nI k) (nI d) = some 0) : E (45 + v) k = -1 := by
  have hV := hC.1.2.2
  unfold f_X5_reasonAgainst at h
  rw [dat_ev hd, bd_s] at h
  by_cases c1 : E d 1 = 0
  · rw [if_pos c1] at h; exact absurd (Option.some.inj h) (by decide)
  · rw [if_neg c1] at h
    by_cases c2 : E d 8 = 0
    · rw [if_pos c2] at h; exact absurd (Option.some.inj h) (by decide)
    · rw [if_neg c2] at h
      rcases cHad (E := E) (nI d) hV hC.2.1.2.2 hk with ⟨g1, -⟩ | ⟨g1, -⟩
      · rw [g1, bd_s, if_neg (show ¬ (1 : Int32) = 0 by decide)] at h; exact absurd (Option.some.inj h) (by decide)
      · rw [g1, bd_s, if_pos rfl, don_ev hv hk, bd_s] at h
        by_cases c3 : E (45 + v) k = -1
        · exact c3
        · rw [if_neg c3] at h; exact absurd (Option.some.inj h) (by decide)
theorem opn_q {E s2 : dd_S} {T D V d k : Nat} {L : Nat → List Nat} (hC : CI E T D V L) (hC2 : CI s2 T D V L) (b2 : FrQ E s2) (hd : d < 12) (hk : k < 7) : opn s2 (nI k) d = opn E (nI k) d := by
  have p1 := (open_ev hC hd hk).2
  have p2 := (open_ev hC2 hd hk).2
  have hHd : HdOn s2 V (nI d) k ↔ HdOn E V (nI d) k := by
    have hV := hC.1.2.2
    constructor
    · rintro ⟨u, u1, u2⟩; exact ⟨u, u1, by rw [← b2 (45 + u) (by omega) (by omega) (by omega)]; exact u2⟩
    · rintro ⟨u, u1, u2⟩; exact ⟨u, u1, by rw [b2 (45 + u) (by omega) (by omega) (by omega)]; exact u2⟩
  rcases p1 with ⟨x1, x2, x3⟩ | ⟨x1, x2⟩ <;> rcases p2 with ⟨y1, y2, y3⟩ | ⟨y1, y2⟩
  · rw [x1, y1]
  · rcases y2 with y2 | y2
    · exact absurd y2 x2
    · exact absurd (hHd.mp y2) x3
  · rcases x2 with x2 | x2
    · exact absurd x2 y2
    · exact absurd (hHd.mpr x2) y3
  · rw [x1, y1]
/-- the class's queue of the open duties -/
theorem fq_loop {T D V k : Nat} {L : Nat → List Nat} {key op : Nat → Int32} (hk : k < 7) : ∀ (q v n : Nat) (E : dd_S) (Q : List Nat), v + q = D → q < n → CI E T D V L → (∀ d, d < 12 → E d 2 = key d) → (∀ d, d < 12 → opn E (nI k) d = op d) → QAt E key Q → QS key Q → (∀ x, x ∈ Q ↔ x < v ∧ op x = 1) →
    ∃ E2 Q2, f_X5_fill_27 (nI k) n E (nI v) = f_X5_fill_68 (nI k) 64 E2 0 ∧ FrQ E E2 ∧ QAt E2 key Q2 ∧ QS key Q2 ∧ ∀ x, x ∈ Q2 ↔ x < D ∧ op x = 1 := by
  intro q
  induction q with
  | zero =>
    intro v n E Q hv hn hC hkey hop hA hS hm
    have hD := hC.1.2.1
    obtain ⟨n, rfl⟩ : ∃ m, n = m + 1 := ⟨n - 1, by omega⟩
    have : v = D := by omega
    subst this
    unfold f_X5_fill_27
    rw [hC.2.1.2.1, if_pos ((nI_le_iff (by omega) (by omega)).mpr (Nat.le_refl _))]
    exact ⟨E, Q, rfl, FrQ.refl, hA, hS, hm⟩
  | succ q ih =>
    intro v n E Q hv hn hC hkey hop hA hS hm
    have hD := hC.1.2.1
    obtain ⟨n, rfl⟩ : ∃ m, n = m + 1 := ⟨n - 1, by omega⟩
    obtain ⟨o1, o2⟩ := open_ev hC (show v < 12 by omega) hk
    rw [hop v (by omega)] at o1 o2
    unfold f_X5_fill_27
    rw [hC.2.1.2.1, if_neg (nI_ge (by omega) (by omega)), o1, bd_s]
    rcases o2 with ⟨e, -⟩ | ⟨e, -⟩
    · have hlen := nodup_len v Q hS.nodup (fun x hx => ((hm x).mp hx).1)
      obtain ⟨Q2, s2, b1, b2, b3, b4, b5⟩ := qi_ev (v := v) (by omega) hA hS (fun x hx => ((hm x).mp hx).1)
      have hC2 := hC.frw b2.w
      have hop2 : ∀ d, d < 12 → opn s2 (nI k) d = op d := fun d hd => (opn_q hC hC2 b2 hd hk).trans (hop d hd)
      rw [e, if_neg (show ¬ (1 : Int32) = 0 by decide), dat_ev (by omega), bd_s, hkey v (by omega), b1, bd_s]
      unfold f_X5_fill_60
      rw [lt_e, nI_inc]
      obtain ⟨E3, Q3, c1, c2, c3, c4, c5⟩ := ih (v + 1) n s2 Q2 (by omega) (by omega) hC2 (fun d hd => by rw [b2 d (by omega) (by omega) (by omega)]; exact hkey d hd) hop2 b3 b4 (fun x => by
        rw [b5, hm]
        constructor
        · rintro (h | h)
          · subst h; exact ⟨by omega, e⟩
          · exact ⟨by omega, h.2⟩
        · rintro ⟨h1, h2⟩
          by_cases e2 : x = v
          · exact Or.inl e2
          · exact Or.inr ⟨by omega, h2⟩)
      exact ⟨E3, Q3, c1, b2.trans c2, c3, c4, c5⟩
    · rw [e, if_pos rfl]
      unfold f_X5_fill_60
      rw [lt_e, nI_inc]
      exact ih (v + 1) n E Q (by omega) (by omega) hC hkey hop hA hS (fun x => by
        rw [hm]
        constructor
        · rintro h; exact ⟨by omega, h.2⟩
        · rintro ⟨h1, h2⟩
          by_cases e2 : x = v
          · subst e2; rw [e] at h2; exact absurd h2 (by decide)
          · exact ⟨by omega, h2⟩)
/-! filling a day: the reference's search, and both together -/
def cnd (tm op : Nat → Int32) (d : Nat) : Bool := decide (tm d = 0) && decide (op d = 1)
theorem cnd_iff {tm op : Nat → Int32} {d : Nat} : cnd tm op d = true ↔ tm d = 0 ∧ op d = 1 := by
  unfold cnd
  rw [Bool.and_eq_true, decide_eq_true_eq, decide_eq_true_eq]
theorem cnd_f {tm op : Nat → Int32} {d : Nat} (h : ¬ (tm d = 0 ∧ op d = 1)) : cnd tm op d = false := by
  cases e : cnd tm op d with
  | false => rfl
  | true => exact absurd (cnd_iff.mp e) h
theorem HdOn.ent {E : dd_S} {V u k x y : Nat} (hu : u < V) (hfree : E (45 + u) k = -1) (hx : x < 12) (hy : y < 12) : HdOn (st2 E (45 + u) k (nI x)) V (nI y) k ↔ (y = x ∨ HdOn E V (nI y) k) := by
  constructor
  · rintro ⟨v, hv, e⟩
    rw [st2_at] at e
    by_cases c : 45 + v = 45 + u
    · rw [if_pos c, if_pos rfl] at e
      exact Or.inl (nI_inj (by omega) (by omega) e).symm
    · rw [if_neg c] at e
      exact Or.inr ⟨v, hv, e⟩
  · rintro (h | ⟨v, hv, e⟩)
    · subst h
      exact ⟨u, hu, st2_s _ _ _ _⟩
    · refine ⟨v, hv, ?_⟩
      rw [st2_at]
      by_cases c : 45 + v = 45 + u
      · have : v = u := by omega
        subst this
        rw [hfree] at e
        exact absurd e.symm (nI_m1 (by omega))
      · rw [if_neg c]; exact e
theorem opn_ent {E : dd_S} {T D V u k x : Nat} {L : Nat → List Nat} (hC : CI E T D V L) (hC2 : CI (st2 E (45 + u) k (nI x)) T D V L) (hu : u < V) (hfree : E (45 + u) k = -1) (hx : x < 12) (hk : k < 7) : opn (st2 E (45 + u) k (nI x)) (nI k) x = 0 ∧ ∀ y, y < 12 → y ≠ x → opn E (nI k) y = opn (st2 E (45 + u) k (nI x)) (nI k) y := by
  refine ⟨?_, fun y hy hne => ?_⟩
  · rcases (open_ev hC2 hx hk).2 with ⟨-, -, h⟩ | ⟨h, -⟩
    · exact absurd ((HdOn.ent hu hfree hx hx).mpr (Or.inl rfl)) h
    · exact h
  · have hh := HdOn.ent (y := y) hu hfree hx hy
    rcases (open_ev hC hy hk).2 with ⟨x1, x2, x3⟩ | ⟨x1, x2⟩ <;> rcases (open_ev hC2 hy hk).2 with ⟨y1, y2, y3⟩ | ⟨y1, y2⟩
    · rw [x1, y1]
    · rcases y2 with y2 | y2
      · exact absurd y2 x2
      · rcases hh.mp y2 with q | q
        · exact absurd q hne
        · exact absurd q x3
    · rcases x2 with x2 | x2
      · exact absurd x2 y2
      · exact absurd (hh.mpr (Or.inr x2)) y3
    · rw [x1, y1]
theorem i32_c1 {a b : Int32} (h : a + 1 = b + 1) : a = b := by
  have := congrArg (fun x => x - 1) h
  simpa [Int32.add_sub_cancel] using this
theorem one_sum : ∀ l : List Nat, smL (fun _ => 1) l = nI l.length := by
  intro l
  induction l with
  | nil => rfl
  | cons x r ih =>
    unfold smL
    rw [ih, List.length_cons, ← nI_inc, Int32.add_comm]
