/-! SUMS; use -/
def sN (g : Nat → Int32) : Nat → Int32
  | 0 => 0
  | n + 1 => sN g n + g n
def smL (m : Nat → Int32) : List Nat → Int32
  | [] => 0
  | x :: r => m x + smL m r
theorem sN_congr {f g : Nat → Int32} : ∀ n, (∀ t, t < n → f t = g t) → sN f n = sN g n := by
  intro n
  induction n with
  | zero => intro _; rfl
  | succ n ih =>
    intro h
    unfold sN
    rw [ih (fun t ht => h t (by omega)), h n (by omega)]
theorem sN_add (f g : Nat → Int32) : ∀ n, sN (fun t => f t + g t) n = sN f n + sN g n := by
  intro n
  induction n with
  | zero => rfl
  | succ n ih =>
    unfold sN
    rw [ih]
    ac_rfl
theorem sN_0 : ∀ n, sN (fun _ => 0) n = 0 := by
  intro n
  induction n with
  | zero => rfl
  | succ n ih =>
    unfold sN
    rw [ih]
    rfl
theorem sN_one {g : Nat → Int32} {d : Nat} : ∀ n, (∀ e, e < n → e ≠ d → g e = 0) → sN g n = if d < n then g d else 0 := by
  intro n
  induction n with
  | zero => intro _; rw [if_neg (Nat.not_lt_zero _)]; rfl
  | succ n ih =>
    intro h
    unfold sN
    rw [ih (fun e he => h e (by omega))]
    by_cases c : d < n
    · rw [if_pos c, if_pos (by omega), h n (by omega) (by omega), Int32.add_zero]
    · rw [if_neg c]
      by_cases e : n = d
      · subst e; rw [if_pos (by omega), Int32.zero_add]
      · rw [if_neg (by omega), h n (by omega) e]; rfl
theorem smL_erase {m : Nat → Int32} {x : Nat} : ∀ {l : List Nat}, x ∈ l → smL m l = m x + smL m (l.erase x) := by
  intro l
  induction l with
  | nil => intro h; exact absurd h List.not_mem_nil
  | cons y r ih =>
    intro h
    by_cases e : y = x
    · subst e
      rw [List.erase_cons_head]; rfl
    · have hr : x ∈ r := by
        rcases List.mem_cons.mp h with q | q
        · exact absurd q.symm e
        · exact q
      rw [List.erase_cons_tail (by simpa using e)]
      unfold smL
      rw [ih hr]
      ac_rfl
theorem smL_sN {m : Nat → Int32} : ∀ (n : Nat) (l : List Nat), l.Nodup → (∀ x ∈ l, x < n) → smL m l = sN (fun t => if t ∈ l then m t else 0) n := by
  intro n
  induction n with
  | zero =>
    intro l _ h
    cases l with
    | nil => rfl
    | cons a r => exact absurd (h a List.mem_cons_self) (Nat.not_lt_zero _)
  | succ n ih =>
    intro l hn h
    unfold sN
    by_cases hm : n ∈ l
    · rw [smL_erase hm, ih (l.erase n) (hn.erase n) (fun x hx => by
        have h2 := (hn.mem_erase_iff).mp hx
        have := h x h2.2
        omega), if_pos hm, Int32.add_comm]
      congr 1
      refine sN_congr n (fun t ht => ?_)
      by_cases c : t ∈ l
      · rw [if_pos c, if_pos ((hn.mem_erase_iff).mpr ⟨by omega, c⟩)]
      · rw [if_neg c, if_neg (fun q => c ((hn.mem_erase_iff).mp q).2)]
    · rw [if_neg hm, Int32.add_zero]
      refine ih l hn (fun x hx => ?_)
      have := h x hx
      have : x ≠ n := fun e => hm (by rw [← e]; exact hx)
      omega
theorem row_sum {dep du m : Nat → Int32} {T : Nat} {d : Int32} {l : List Nat} (h : IsRow dep du T d l) : smL m l = sN (fun t => if du t = d then m t else 0) T := by
  rw [smL_sN T l h.1.nodup (fun x hx => h.lt hx)]
  refine sN_congr T (fun t ht => ?_)
  by_cases c : du t = d
  · rw [if_pos c, if_pos ((h.2 t).mpr ⟨ht, c⟩)]
  · rw [if_neg c, if_neg (fun q => c ((h.2 t).mp q).2)]
theorem sN_b {g : Nat → Int32} : ∀ n, n ≤ 40 → (∀ t, t < n → 0 ≤ (g t).toInt ∧ (g t).toInt ≤ 2000) → 0 ≤ (sN g n).toInt ∧ (sN g n).toInt ≤ 2000 * n ∧ (sN g n = 0 ↔ ∀ t, t < n → g t = 0) := by
  intro n
  induction n with
  | zero =>
    intro _ _
    have e0 : (sN g 0).toInt = 0 := rfl
    exact ⟨by omega, by omega, ⟨fun _ t ht => absurd ht (Nat.not_lt_zero _), fun _ => rfl⟩⟩
  | succ n ih =>
    intro h40 h
    obtain ⟨a1, a2, a3⟩ := ih (by omega) (fun t ht => h t (by omega))
    have hb := h n (by omega)
    have e : (sN g (n + 1)).toInt = (sN g n).toInt + (g n).toInt := i32_add (by omega) (by omega)
    have e0 : (0 : Int32).toInt = 0 := by decide
    refine ⟨by omega, by omega, fun h0 t ht => ?_, fun h0 => ?_⟩
    · have h1 : (sN g (n + 1)).toInt = 0 := by rw [h0]; rfl
      by_cases q : t = n
      · subst q
        exact Int32.toInt_inj.mp (by omega)
      · exact a3.mp (Int32.toInt_inj.mp (by omega)) t (by omega)
    · unfold sN
      rw [a3.mpr (fun t ht => h0 t (by omega)), h0 n (by omega)]
      rfl
def mnt (E : dd_S) (t : Nat) : Int32 := E 44 t - E 43 t
theorem cu45 {E : dd_S} {T D V : Nat} {L : Nat → List Nat} (hC : CI E T D V L) {M : Int32} : ∀ (q d n : Nat), d + q = D → q < n → f_X5_use_45 E n M (sN (fun e => E e 4) d) (nI d) = some (if sN (fun e => E e 4) D = 0 then FP.dconst0 else FP.ddiv (FP.i2d M) (FP.i2d (sN (fun e => E e 4) D))) := by
  have hD := hC.1.2.1
  intro q
  induction q with
  | zero =>
    intro d n hd hn
    obtain ⟨n, rfl⟩ : ∃ m, n = m + 1 := ⟨n - 1, by omega⟩
    have : d = D := by omega
    subst this
    unfold f_X5_use_45
    rw [hC.2.1.2.1, if_pos ((nI_le_iff (by omega) (by omega)).mpr (Nat.le_refl _))]
    split <;> rfl
  | succ q ih =>
    intro d n hd hn
    obtain ⟨n, rfl⟩ : ∃ m, n = m + 1 := ⟨n - 1, by omega⟩
    unfold f_X5_use_45
    rw [hC.2.1.2.1, if_neg (nI_ge (by omega) (by omega)), dat_ev (by omega), bd_s, lt_e, lt_e, nI_inc]
    exact ih (d + 1) n (by omega) (by omega)
theorem cu4 {E : dd_S} {T D V : Nat} {L : Nat → List Nat} (hC : CI E T D V L) : ∀ (q v n : Nat), v + q = T → q < n → f_X5_use_4 E n (sN (fun t => if E 34 t = -1 then 0 else mnt E t) v) (nI v) = f_X5_use_45 E 64 (sN (fun t => if E 34 t = -1 then 0 else mnt E t) T) 0 0 := by
  have hT := hC.1.1
  intro q
  induction q with
  | zero =>
    intro v n hv hn
    obtain ⟨n, rfl⟩ : ∃ m, n = m + 1 := ⟨n - 1, by omega⟩
    have : v = T := by omega
    subst this
    unfold f_X5_use_4
    rw [hC.2.1.1, if_pos ((nI_le_iff (by omega) (by omega)).mpr (Nat.le_refl _))]
  | succ q ih =>
    intro v n hv hn
    obtain ⟨n, rfl⟩ : ∃ m, n = m + 1 := ⟨n - 1, by omega⟩
    have := ih (v + 1) n (by omega) (by omega)
    unfold f_X5_use_4
    rw [hC.2.1.1, if_neg (nI_ge (by omega) (by omega)), dof_ev (by omega), bd_s]
    by_cases e : E 34 v = -1
    · have e2 : sN (fun t => if E 34 t = -1 then 0 else mnt E t) (v + 1) = sN (fun t => if E 34 t = -1 then 0 else mnt E t) v := by
        conv => lhs; unfold sN
        rw [if_pos e, Int32.add_zero]
      rw [if_pos e]
      unfold f_X5_use_35
      rw [lt_e, nI_inc, ← e2]
      exact this
    · have e2 : sN (fun t => if E 34 t = -1 then 0 else mnt E t) (v + 1) = sN (fun t => if E 34 t = -1 then 0 else mnt E t) v + (E 44 v - E 43 v) := by
        conv => lhs; unfold sN
        rw [if_neg e]; rfl
      rw [if_neg e, min_ev (by omega), bd_s, lt_e]
      unfold f_X5_use_35
      rw [lt_e, nI_inc, ← e2]
      exact this
