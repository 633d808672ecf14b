/-! SUMS; use -/
def sN (g : Nat → Int32) : Nat → Int32
  | 0 => 0
  | n + 1 => sN g n + g n
def smL (m : Nat → Int32) : List Nat → Int32
  | [] => 0
  | x :: r => m x + smL m r
theorem sN_congr {f g : Nat → Int32} : ∀ n, (∀ t, t < n → f t = g t) → sN f n = sN g n := by
  intro n
  induction n with
  | zero => intro _; rfl
  | succ n ih =>
    intro h
    unfold sN
    rw [ih (fun t ht => h t (by omega)), h n (by omega)]
theorem sN_add (f g : Nat → Int32) : ∀ n, sN (fun t => f t + g t) n = sN f n + sN g n := by
  intro n
  induction n with
  | zero => rfl
  | succ n ih =>
    unfold sN
    rw [ih]
    ac_rfl
theorem sN_0 : ∀ n, sN (fun _ => 0) n = 0 := by
  intro n
  induction n with
  | zero => rfl
  | succ n ih =>
    unfold sN
    rw [ih]
    rfl
theorem sN_one {g : Nat → Int32} {d : Nat} : ∀ n, (∀ e, e < n → e ≠ d → g e = 0) → sN g n = if d < n then g d else 0 := by
  intro n
  induction n with
  | zero => intro _; rw [if_neg (Nat.not_lt_zero _)]; rfl
  | succ n ih =>
    intro h
    unfold sN
    rw [ih (fun e he => h e (by omega))]
    by_cases c : d < n
    · rw [if_pos c, if_pos (by omega), h n (by omega) (by omega), Int32.add_zero]
    · rw [if_neg c]
      by_cases e : n = d
      · subst e; rw [if_pos (by omega), Int32.zero_add]
      · rw [if_neg (by omega), h n (by omega) e]; rfl
theorem smL_erase {m : Nat → Int32} {x : Nat} : ∀ {l : List Nat}, x ∈ l → smL m l = m x + smL m (l.erase x) := by
  intro l
  induction l with
  | nil => intro h; exact absurd h List.not_mem_nil
  | cons y r ih =>
    intro h
    by_cases e : y = x
    · subst e
      rw [List.erase_cons_head]; rfl
    · have hr : x ∈ r := by
        rcases List.mem_cons.mp h with q | q
        · exact absurd q.symm e
        · exact q
      rw [List.erase_cons_tail (by simpa using e)]
      unfold smL
      rw [ih hr]
      ac_rfl
theorem smL_sN {m : Nat → Int32} : ∀ (n : Nat) (l : List Nat), l.Nodup → (∀ x ∈ l, x < n) → smL m l = sN (fun t => if t ∈ l then m t else 0) n := by
  intro n
  induction n with
  | zero =>
    intro l _ h
    cases l with
    | nil => rfl
    | cons a r => exact absurd (h a List.mem_cons_self) (Nat.not_lt_zero _)
  | succ n ih =>
    intro l hn h
    unfold sN
    by_cases hm : n ∈ l
    · rw [smL_erase hm, ih (l.erase n) (hn.erase n) (fun x hx => by
        have h2 := (hn.mem_erase_iff).mp hx
        have := h x h2.2
        omega), if_pos hm, Int32.add_comm]
      congr 1
      refine sN_congr n (fun t ht => ?_)
      by_cases c : t ∈ l
      · rw [if_pos c, if_pos ((hn.mem_erase_iff).mpr ⟨by omega, c⟩)]
      · rw [if_neg c, if_neg (fun q => c ((hn.mem_erase_iff).mp q).2)]
    · rw [if_neg hm, Int32.add_zero]
      refine ih l hn (fun x hx => ?_)
      have := h x hx
      have : x ≠ n := fun e => hm (by rw [← e]; exact hx)
      omega
theorem row_sum {dep du m : Nat → Int32} {T : Nat} {d : Int32} {l : List Nat} (h : IsRow dep du T d l) : smL m l = sN (fun t => if du t = d then m t else 0) T := by
  rw [smL_sN T l h.1.nodup (fun x hx => h.lt hx)]
  refine sN_congr T (fun t ht => ?_)
  by_cases c : du t = d
  · rw [if_pos c, if_pos ((h.2 t).mpr ⟨ht, c⟩)]
  · rw [if_neg c, if_neg (fun q => c ((h.2 t).mp q).2)]
theorem sN_b {g : Nat → Int32} : ∀ n, n ≤ 40 → (∀ t, t < n → 0 ≤ (g t).toInt ∧ (g t).toInt ≤ 2000) → 0 ≤ (sN g n).toInt ∧ (sN g n).toInt ≤ 2000 * n ∧ (sN g n = 0 ↔ ∀ t, t < n → g t = 0) := by
  intro n
  induction n with
  | zero =>
    intro _ _
    have e0 : (sN g 0).toInt = 0 := rfl
    exact ⟨by omega, by omega, ⟨fun _ t ht => absurd ht (Nat.not_lt_zero _), fun _ => rfl⟩⟩
  | succ n ih =>
    intro h40 h
    obtain ⟨a1, a2, a3⟩ := ih (by omega) (fun t ht => h t (by omega))
    have hb := h n (by omega)
    have e : (sN g (n + 1)).toInt = (sN g n).toInt + (g n).toInt := i32_add (by omega) (by omega)
    have e0 : (0 : Int32).toInt = 0 := by decide
    refine ⟨by omega, by omega, fun h0 t ht => ?_, fun h0 => ?_⟩
    · have h1 : (sN g (n + 1)).toInt = 0 := by rw [h0]; rfl
      by_cases q : t = n
      · subst q
        exact Int32.toInt_inj.mp (by omega)
      · exact a3.mp (Int32.toInt_inj.mp (by omega)) t (by omega)
    · unfold sN
      rw [a3.mpr (fun t ht => h0 t (by omega)), h0 n (by omega)]
      rfl
def mnt (E : dd_S) (t : Nat) : Int32 := E 44 t - E 43 t
theorem u35_ev {E s : dd_S} {k : dd_S → Int32 → Int32 → Int32 → Option (UInt64 × dd_S)} {l : List Nat} (hL : LinkE E s) (hl : l.length ≤ 40) (hl40 : ∀ x ∈ l, x < 40) (h16 : s 0 16 = nI l.length) (hR : RowAt (s 8) l) {v2 : Int32} {d : Nat} : ∀ (rest pre : List Nat) (n : Nat) (v1 : Int32), l = pre ++ rest → rest.length < n → f_X6_use_35 k n s v1 v2 (nI d) (nI pre.length) = k s (v1 + smL (mnt E) rest) v2 (nI (d + 1)) := by
  intro rest
  induction rest with
  | nil =>
    intro pre n v1 hl2 hn
    obtain ⟨n, rfl⟩ : ∃ m, n = m + 1 := ⟨n - 1, by simp at hn; omega⟩
    rw [List.append_nil] at hl2
    subst hl2
    unfold f_X6_use_35 smL
    rw [h16, if_pos ((nI_le_iff (by omega) (by omega)).mpr (Nat.le_refl _)), lt_e, nI_inc, Int32.add_zero]
  | cons x r ih =>
    intro pre n v1 hl2 hn
    obtain ⟨n, rfl⟩ : ∃ m, n = m + 1 := ⟨n - 1, by simp at hn; omega⟩
    have hlen : l.length = pre.length + (r.length + 1) := by rw [hl2]; simp
    have hx : x < 40 := hl40 x (by rw [hl2]; simp)
    have hgt : l[pre.length]'(by omega) = x := by simp [hl2]
    have hr : s 8 pre.length = nI x := by rw [hR pre.length (by omega), hgt]
    unfold f_X6_use_35
    rw [h16, if_neg (nI_ge (by omega) (by omega)), nI_clamp (show pre.length < 2 ^ 31 by omega), hr, gd_p (ix_ok (by omega) (by decide)), gd_p (ix_ok hx (by decide)), gd_p (ix_ok (by omega) (by decide)), gd_p (ix_ok hx (by decide)), nI_clamp (by omega), lt_e, lt_e, nI_inc, hL.2.2.2.1, hL.2.2.1]
    have := ih (pre ++ [x]) n (v1 + (E 44 x - E 43 x)) (by rw [hl2]; simp) (by simp at hn; omega)
    rw [List.length_append, List.length_singleton] at this
    rw [this]
    conv => rhs; unfold smL
    rw [Int32.add_assoc]
    rfl
theorem cu45 {E : dd_S} {T D V : Nat} {L : Nat → List Nat} (hC : CI E T D V L) {M : Int32} : ∀ (q d n : Nat), d + q = D → q < n → f_X5_use_45 E n M (sN (fun e => E e 4) d) (nI d) = some (if sN (fun e => E e 4) D = 0 then FP.dconst0 else FP.ddiv (FP.i2d M) (FP.i2d (sN (fun e => E e 4) D))) := by
  have hD := hC.1.2.1
  intro q
  induction q with
  | zero =>
    intro d n hd hn
    obtain ⟨n, rfl⟩ : ∃ m, n = m + 1 := ⟨n - 1, by omega⟩
    have : d = D := by omega
    subst this
    unfold f_X5_use_45
    rw [hC.2.1.2.1, if_pos ((nI_le_iff (by omega) (by omega)).mpr (Nat.le_refl _))]
    split <;> rfl
  | succ q ih =>
    intro d n hd hn
    obtain ⟨n, rfl⟩ : ∃ m, n = m + 1 := ⟨n - 1, by omega⟩
    unfold f_X5_use_45
    rw [hC.2.1.2.1, if_neg (nI_ge (by omega) (by omega)), dat_ev (by omega), bd_s, lt_e, lt_e, nI_inc]
    exact ih (d + 1) n (by omega) (by omega)
theorem cu4 {E : dd_S} {T D V : Nat} {L : Nat → List Nat} (hC : CI E T D V L) : ∀ (q v n : Nat), v + q = T → q < n → f_X5_use_4 E n (sN (fun t => if E 34 t = -1 then 0 else mnt E t) v) (nI v) = f_X5_use_45 E 64 (sN (fun t => if E 34 t = -1 then 0 else mnt E t) T) 0 0 := by
  have hT := hC.1.1
  intro q
  induction q with
  | zero =>
    intro v n hv hn
    obtain ⟨n, rfl⟩ : ∃ m, n = m + 1 := ⟨n - 1, by omega⟩
    have : v = T := by omega
    subst this
    unfold f_X5_use_4
    rw [hC.2.1.1, if_pos ((nI_le_iff (by omega) (by omega)).mpr (Nat.le_refl _))]
  | succ q ih =>
    intro v n hv hn
    obtain ⟨n, rfl⟩ : ∃ m, n = m + 1 := ⟨n - 1, by omega⟩
    have := ih (v + 1) n (by omega) (by omega)
    unfold f_X5_use_4
    rw [hC.2.1.1, if_neg (nI_ge (by omega) (by omega)), dof_ev (by omega), bd_s]
    by_cases e : E 34 v = -1
    · have e2 : sN (fun t => if E 34 t = -1 then 0 else mnt E t) (v + 1) = sN (fun t => if E 34 t = -1 then 0 else mnt E t) v := by
        conv => lhs; unfold sN
        rw [if_pos e, Int32.add_zero]
      rw [if_pos e]
      unfold f_X5_use_35
      rw [lt_e, nI_inc, ← e2]
      exact this
    · have e2 : sN (fun t => if E 34 t = -1 then 0 else mnt E t) (v + 1) = sN (fun t => if E 34 t = -1 then 0 else mnt E t) v + (E 44 v - E 43 v) := by
        conv => lhs; unfold sN
        rw [if_neg e]; rfl
      rw [if_neg e, min_ev (by omega), bd_s, lt_e]
      unfold f_X5_use_35
      rw [lt_e, nI_inc, ← e2]
      exact this
theorem mu11 {E : dd_S} {T D V : Nat} {L : Nat → List Nat} (hC : CI E T D V L) : ∀ (q d n : Nat) (s : dd_S), d + q = D → q < n → MI E s T D V → ∃ s2, FrM s s2 ∧ f_X6_use_11 n s (sN (fun t => sN (fun e => if E 34 t = nI e then mnt E t else 0) d) T) (sN (fun e => E e 4) d) (nI d) = some (if sN (fun t => sN (fun e => if E 34 t = nI e then mnt E t else 0) D) T = 0 then FP.dconst0 else FP.ddiv (FP.i2d (sN (fun t => sN (fun e => if E 34 t = nI e then mnt E t else 0) D) T)) (FP.i2d (sN (fun e => E e 4) D)), s2) := by
  have hD := hC.1.2.1
  have hT := hC.1.1
  intro q
  induction q with
  | zero =>
    intro d n s hd hn hM
    obtain ⟨n, rfl⟩ : ∃ m, n = m + 1 := ⟨n - 1, by omega⟩
    have : d = D := by omega
    subst this
    refine ⟨s, FrM.refl, ?_⟩
    unfold f_X6_use_11
    rw [hM.2.1.2.1, if_pos ((nI_le_iff (by omega) (by omega)).mpr (Nat.le_refl _))]
    split <;> rfl
  | succ q ih =>
    intro d n s hd hn hM
    obtain ⟨n, rfl⟩ : ∃ m, n = m + 1 := ⟨n - 1, by omega⟩
    have hL := hC.2.2.2.2.2.1 d (by omega)
    have hlen := hL.1.len
    obtain ⟨s2, h1, h2⟩ := mlook hC hM (show d < 12 by omega)
    have hM2 := hM.fr h2.fr
    obtain ⟨s3, r1, r2⟩ := ih (d + 1) n s2 (by omega) (by omega) hM2
    refine ⟨s3, h2.fr.trans r1, ?_⟩
    have h19 : s2 0 19 = E d 4 := (h2.2.2.2.1 4 (by decide) (by decide)).trans (hL.2.2 4 (by decide) (by decide)).symm
    have hu := u35_ev (k := fun zs z0 z1 z2 => f_X6_use_11 n zs z0 z1 z2) (d := d) (v2 := sN (fun e => E e 4) d + E d 4) hM2.1 (by omega) (fun x hx => by have := hL.1.lt hx; omega) h2.2.2.1 h2.2.2.2.2 (L d) [] 64 (sN (fun t => sN (fun e => if E 34 t = nI e then mnt E t else 0) d) T) rfl (by omega)
    have e2 : sN (fun t => sN (fun e => if E 34 t = nI e then mnt E t else 0) (d + 1)) T = sN (fun t => sN (fun e => if E 34 t = nI e then mnt E t else 0) d) T + smL (mnt E) (L d) := by
      rw [row_sum hL.1, ← sN_add]
      rfl
    rw [← e2] at hu
    unfold f_X6_use_11
    rw [hM.2.1.2.1, if_neg (nI_ge (by omega) (by omega)), h1, bd2_s, h19, lt_e]
    exact hu.trans r2
theorem po_use : PO_use Inv := by
  intro sC sM ⟨T, D, V, L, hC, hM⟩
  have hT := hC.1.1
  have hD := hC.1.2.1
  have hM0 := hM.thrown (v := 0)
  have hB := hC.2.2.1
  have e0 : (0 : Int32).toInt = 0 := by decide
  have hm : ∀ t, t < T → 0 < (mnt sC t).toInt ∧ (mnt sC t).toInt ≤ 1799 := fun t ht => by
    have b := hB.1 t ht
    unfold mnt
    rw [i32_sub (by omega) (by omega)]
    omega
  obtain ⟨s2, r1, r2⟩ := mu11 hC D 0 64 (st2 sM 0 0 0) (by omega) (by omega) hM0
  have hsum : sN (fun t => sN (fun e => if sC 34 t = nI e then mnt sC t else 0) D) T = sN (fun t => if sC 34 t = -1 then 0 else mnt sC t) T := by
    refine sN_congr T (fun t ht => ?_)
    rcases hC.2.2.2.2.1 t (by omega) with e | ⟨-, d, hd, e⟩
    · rw [if_pos e]
      refine (sN_congr (g := fun _ => 0) D (fun d hd => ?_)).trans (sN_0 D)
      rw [e, if_neg (fun h => nI_m1 (by omega) h.symm)]
    · rw [if_neg (by rw [e]; exact nI_m1 (by omega)), sN_one (d := d) D (fun e2 he2 hne => by rw [e, if_neg (fun h => hne (nI_inj (by omega) (by omega) h).symm)]), if_pos hd, if_pos e]
  have hw : ∀ d, d < D → 0 ≤ (sC d 4).toInt ∧ (sC d 4).toInt ≤ 2000 ∧ (sC d 4 = 0 ↔ L d = []) := fun d hd => by
    have hL := hC.2.2.2.2.2.1 d (by omega)
    have h4 := hL.2.2 4 (by decide) (by decide)
    cases hl : L d with
    | nil =>
      have : sC d 4 = 0 := by rw [h4, hl]; rfl
      rw [this, e0]
      exact ⟨by omega, by omega, fun _ => rfl, fun _ => rfl⟩
    | cons x r =>
      have hA := hL.1.1
      rw [hl] at hA
      have hb := work_b hB (x := x) (r := r) (fun t ht => hL.1.lt (by rw [hl]; exact ht)) hA
      have : sC d 4 = (mstS sC x r).2.1 := by rw [h4, hl]; rfl
      rw [this]
      refine ⟨by omega, by omega, fun h => ?_, fun h => absurd h (by simp)⟩
      rw [h, e0] at hb
      omega
  obtain ⟨-, -, z1⟩ := sN_b (g := fun t => if sC 34 t = -1 then 0 else mnt sC t) T hT (fun t ht => by
    have := hm t ht
    show 0 ≤ (if sC 34 t = -1 then 0 else mnt sC t).toInt ∧ (if sC 34 t = -1 then 0 else mnt sC t).toInt ≤ 2000
    split
    · rw [e0]; omega
    · omega)
  obtain ⟨-, -, z2⟩ := sN_b (g := fun e => sC e 4) D (by omega) (fun d hd => ⟨(hw d hd).1, (hw d hd).2.1⟩)
  have hz : sN (fun t => if sC 34 t = -1 then 0 else mnt sC t) T = 0 ↔ sN (fun e => sC e 4) D = 0 := by
    rw [z1, z2]
    constructor
    · intro h d hd
      rw [(hw d hd).2.2]
      cases hl : L d with
      | nil => rfl
      | cons x r =>
        have hL := hC.2.2.2.2.2.1 d (by omega)
        have hx := (hL.1.2 x).mp (by rw [hl]; simp)
        have := h x hx.1
        rw [if_neg (by rw [hx.2]; exact nI_m1 (by omega))] at this
        have h2 := hm x hx.1
        rw [this, e0] at h2
        omega
    · intro h t ht
      rcases hC.2.2.2.2.1 t (by omega) with e | ⟨-, d, hd, e⟩
      · rw [if_pos e]
      · have hL := hC.2.2.2.2.2.1 d (by omega)
        have h1 := (hw d hd).2.2.mp (h d hd)
        have := (hL.1.2 t).mpr ⟨ht, e⟩
        rw [h1] at this
        exact absurd this List.not_mem_nil
  have c1 : f_X5_use sC = some (if sN (fun e => sC e 4) D = 0 then FP.dconst0 else FP.ddiv (FP.i2d (sN (fun t => if sC 34 t = -1 then 0 else mnt sC t) T)) (FP.i2d (sN (fun e => sC e 4) D))) := (cu4 hC T 0 64 (by omega) (by omega)).trans (cu45 hC D 0 64 (by omega) (by omega))
  have e00 : sN (fun t => sN (fun e => if sC 34 t = nI e then mnt sC t else 0) 0) T = 0 := sN_0 T
  rw [e00, hsum] at r2
  refine ⟨_, s2, c1, ?_, Inv.mk2 hC (hM0.fr r1)⟩
  unfold f_X6_use
  rw [lt_e]
  refine Eq.trans r2 ?_
  by_cases c : sN (fun e => sC e 4) D = 0
  · rw [if_pos c, if_pos (hz.mpr c)]
  · rw [if_neg c, if_neg (fun h => c (hz.mp h))]
