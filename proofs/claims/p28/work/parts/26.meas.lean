/-! WHAT IS MEASURED OF A ROW OF TRIPS -/
def mx (mo a : Int32) : Int32 := if a ≤ mo then mo else a
def mst (sg : dd_S) : Nat → List Nat → Int32 → Int32 → Int32 → Int32 → Int32 → Int32 × Int32 × Int32 × Int32
  | e, [], dr, br, wk, mo, rt => (br, wk, mx mo (dr + wy sg (sg 42 e) 0), rt)
  | e, x :: r, dr, br, wk, mo, rt =>
    if ((sg 43 x - sg 44 e) - wy sg (sg 42 e) (sg 41 x)) < sg 32 2 then
      mst sg x r (dr + (wy sg (sg 42 e) (sg 41 x) + (sg 44 x - sg 43 x))) br wk mo (if (0 : Int32) ≤ ((sg 43 x - sg 44 e) - wy sg (sg 42 e) (sg 41 x)) then rt else 0)
    else mst sg x r (0 + (wy sg (sg 42 e) (sg 41 x) + (sg 44 x - sg 43 x))) (br + 1) (wk - ((sg 43 x - sg 44 e) - wy sg (sg 42 e) (sg 41 x))) (mx mo dr) (if (0 : Int32) ≤ ((sg 43 x - sg 44 e) - wy sg (sg 42 e) (sg 41 x)) then rt else 0)
def payS (w : Int32) : Int32 := (if (360 : Int32) ≤ w then w else 360) + (if w ≤ (480 : Int32) then 0 else (w - 480) / 2)
def bgS (sg : dd_S) (x : Nat) : Int32 := (sg 43 x - wy sg 0 (sg 41 x)) - 10
def enS (sg : dd_S) (y : Nat) : Int32 := (sg 44 y + wy sg (sg 42 y) 0) + 5
def mstS (sg : dd_S) (x : Nat) (r : List Nat) : Int32 × Int32 × Int32 × Int32 := mst sg x r (wy sg 0 (sg 41 x) + (sg 44 x - sg 43 x)) 0 (enS sg ((x :: r).getLast (by simp)) - bgS sg x) 0 1
/-- slots 2 .. 8 of a measured duty -/
def ftS (sg : dd_S) : List Nat → Nat → Int32
  | [], j => if j = 8 then 1 else 0
  | x :: r, j =>
    if j = 2 then bgS sg x else if j = 3 then enS sg ((x :: r).getLast (by simp)) else if j = 4 then (mstS sg x r).2.1 else if j = 5 then payS (mstS sg x r).2.1
    else if j = 6 then (mstS sg x r).1 else if j = 7 then (mstS sg x r).2.2.1
    else if sg 32 0 < (mstS sg x r).2.2.1 then 0 else if (enS sg ((x :: r).getLast (by simp)) - bgS sg x) ≤ sg 32 1 then (mstS sg x r).2.2.2 else 0
def EnvEq (s1 s2 : dd_S) : Prop := ∀ k, (k = 32 ∨ (41 ≤ k ∧ k ≤ 44) ∨ 53 ≤ k) → s2 k = s1 k
theorem EnvEq.refl {s : dd_S} : EnvEq s s := fun _ _ => rfl
theorem EnvEq.trans {a b c : dd_S} (h1 : EnvEq a b) (h2 : EnvEq b c) : EnvEq a c := fun k h => (h2 k h).trans (h1 k h)
theorem EnvEq.symm {a b : dd_S} (h1 : EnvEq a b) : EnvEq b a := fun k h => (h1 k h).symm
theorem EnvEq.wyE {s1 s2 : dd_S} (h : EnvEq s1 s2) (a b : Int32) : wy s2 a b = wy s1 a b := by
  unfold wy
  rw [h _ (by omega)]
theorem EnvEq.p {s1 s2 : dd_S} (h : EnvEq s1 s2) : s2 41 = s1 41 ∧ s2 42 = s1 42 ∧ s2 43 = s1 43 ∧ s2 44 = s1 44 ∧ s2 32 = s1 32 := ⟨h 41 (by omega), h 42 (by omega), h 43 (by omega), h 44 (by omega), h 32 (by omega)⟩
theorem EnvEq.mstE {s1 s2 : dd_S} (h : EnvEq s1 s2) : ∀ (r : List Nat) (e : Nat) (dr br wk mo rt : Int32), mst s2 e r dr br wk mo rt = mst s1 e r dr br wk mo rt := by
  obtain ⟨h1, h2, h3, h4, h5⟩ := h.p
  intro r
  induction r with
  | nil => intro e dr br wk mo rt; unfold mst; rw [h.wyE, h2]
  | cons x r ih =>
    intro e dr br wk mo rt
    unfold mst
    rw [h.wyE, h1, h2, h3, h4, h5, ih, ih]
theorem EnvEq.bg {s1 s2 : dd_S} (h : EnvEq s1 s2) (x : Nat) : bgS s2 x = bgS s1 x := by
  obtain ⟨h1, h2, h3, h4, h5⟩ := h.p
  unfold bgS; rw [h.wyE, h1, h3]
theorem EnvEq.en {s1 s2 : dd_S} (h : EnvEq s1 s2) (x : Nat) : enS s2 x = enS s1 x := by
  obtain ⟨h1, h2, h3, h4, h5⟩ := h.p
  unfold enS; rw [h.wyE, h2, h4]
theorem EnvEq.mstSE {s1 s2 : dd_S} (h : EnvEq s1 s2) (x : Nat) (r : List Nat) : mstS s2 x r = mstS s1 x r := by
  obtain ⟨h1, h2, h3, h4, h5⟩ := h.p
  unfold mstS; rw [h.mstE, h.wyE, h.en, h.bg, h1, h3, h4]
theorem EnvEq.ft {s1 s2 : dd_S} (h : EnvEq s1 s2) (l : List Nat) (j : Nat) : ftS s2 l j = ftS s1 l j := by
  cases l with
  | nil => rfl
  | cons x r =>
    simp only [ftS, h.mstSE, h.en, h.bg, h 32 (by omega)]
def Pt (x : Int32) : Prop := ∃ a : Nat, a < 6 ∧ x = nI a
theorem pt_0 : Pt 0 := ⟨0, by decide, rfl⟩
theorem way_pt {sg : dd_S} {x y : Int32} (h1 : Pt x) (h2 : Pt y) : f_X4_wayFrom sg x y = some (wy sg x y) := by
  obtain ⟨a, ha, rfl⟩ := h1
  obtain ⟨b, hb, rfl⟩ := h2
  exact way_ev ha hb
/-- a trip as a trip must be -/
def TrOk (sg : dd_S) (t : Nat) : Prop := t < 40 ∧ Pt (sg 41 t) ∧ Pt (sg 42 t)
theorem TrOk.env {s1 s2 : dd_S} (h : EnvEq s1 s2) {t : Nat} (ht : TrOk s1 t) : TrOk s2 t := ⟨ht.1, by rw [h.p.1]; exact ht.2.1, by rw [h.p.2.1]; exact ht.2.2⟩
theorem st2_id (sg : dd_S) (k j : Nat) : st2 sg k j (sg k j) = sg := by
  funext a b
  rw [st2_at]
  by_cases h1 : a = k
  · subst h1
    by_cases h2 : b = j
    · subst h2; simp
    · simp [h2]
  · simp [h1]
theorem est_ev (sg : dd_S) (d : Nat) (a : Int32) : f_X0_endStretch sg d a = some (st2 sg d 7 (mx (sg d 7) a)) := by
  unfold f_X0_endStretch mx
  by_cases h : a ≤ sg d 7
  · rw [if_pos h, if_pos h, st2_id]; rfl
  · rw [if_neg h, if_neg h]; rfl
def brk (sg : dd_S) (d : Nat) (dr idle : Int32) : dd_S := if idle < sg 32 2 then sg else st2 (st2 (st2 sg d 6 (sg d 6 + 1)) d 4 (sg d 4 - idle)) d 7 (mx (sg d 7) dr)
theorem m88_ev {sg : dd_S} {d x : Nat} {k : dd_S → Int32 → Int32 → Int32 → Option dd_S} {v4 v5 w idle : Int32} (hd : d < 15) (hx : x < 40) : f_X0_measureStretches_88 d k sg v4 v5 (nI x) w idle = k (brk sg d v4 idle) (nI x) ((if idle < sg 32 2 then v4 else 0) + (w + (sg 44 x - sg 43 x))) (v5 + 1) := by
  unfold f_X0_measureStretches_88 brk
  by_cases h : idle < sg 32 2
  · rw [if_pos h, if_pos h, if_pos h]
    unfold f_X0_measureStretches_127
    rw [min_ev hx, bd_s, lt_e, lt_e]
  · rw [if_neg h, if_neg h, if_neg h]
    simp only [lt_e]
    rw [est_ev, bd_s]
    unfold f_X0_measureStretches_127
    rw [min_ev hx, bd_s, lt_e, lt_e, st2_k _ _ _ _ (show 43 ≠ d by omega), st2_k _ _ _ _ (show 43 ≠ d by omega), st2_k _ _ _ _ (show 43 ≠ d by omega), st2_k _ _ _ _ (show 44 ≠ d by omega), st2_k _ _ _ _ (show 44 ≠ d by omega), st2_k _ _ _ _ (show 44 ≠ d by omega)]
    have e1 : st2 sg d 6 (sg d 6 + 1) d 4 = sg d 4 := st2_j _ _ _ _ (by decide)
    have e2 : st2 (st2 sg d 6 (sg d 6 + 1)) d 4 (st2 sg d 6 (sg d 6 + 1) d 4 - idle) d 7 = sg d 7 := by rw [st2_j _ _ _ _ (by decide), st2_j _ _ _ _ (by decide)]
    rw [e2, e1]
theorem brk_k {sg : dd_S} {d k : Nat} {dr idle : Int32} (h : k ≠ d) : brk sg d dr idle k = sg k := by
  unfold brk
  split
  · rfl
  · rw [st2_k _ _ _ _ h, st2_k _ _ _ _ h, st2_k _ _ _ _ h]
/-- the loop over the later trips -/
theorem ms_loop {d : Nat} (hd : d < 15) {l : List Nat} (h40 : l.length ≤ 40) : ∀ (rest pre : List Nat) (e n : Nat) (sg : dd_S) (dr : Int32), l = pre ++ e :: rest → rest.length < n → DutyAt sg d l → (∀ t ∈ l, TrOk sg t) →
    ∃ s2, f_X0_measureStretches_27 d n sg (nI e) dr (nI (pre.length + 1)) = some s2 ∧ (∀ k, k ≠ d → s2 k = sg k) ∧ (∀ j, j ≠ 4 → j ≠ 6 → j ≠ 7 → j ≠ 8 → s2 d j = sg d j) ∧ (s2 d 6, s2 d 4, s2 d 7, s2 d 8) = mst sg e rest dr (sg d 6) (sg d 4) (sg d 7) (sg d 8) := by
  intro rest
  induction rest with
  | nil =>
    intro pre e n sg dr hl hn hD hT
    obtain ⟨n, rfl⟩ : ∃ m, n = m + 1 := ⟨n - 1, by simp at hn; omega⟩
    have hlen : l.length = pre.length + 1 := by rw [hl]; simp
    have he := hT e (by rw [hl]; simp)
    unfold f_X0_measureStretches_27
    rw [hD.1, hlen, if_pos ((nI_le_iff (by omega) (by omega)).mpr (Nat.le_refl _)), to_ev he.1, bd_s, way_pt he.2.2 pt_0, bd_s, est_ev, bd_s]
    refine ⟨_, rfl, fun k hk => st2_k _ _ _ _ hk, fun j h4 h6 h7 h8 => st2_j _ _ _ _ h7, ?_⟩
    unfold mst
    rw [st2_s, st2_j _ _ _ _ (by decide), st2_j _ _ _ _ (by decide), st2_j _ _ _ _ (by decide)]
  | cons x r ih =>
    intro pre e n sg dr hl hn hD hT
    obtain ⟨n, rfl⟩ : ∃ m, n = m + 1 := ⟨n - 1, by simp at hn; omega⟩
    have hlen : l.length = pre.length + 1 + (r.length + 1) := by rw [hl]; simp; omega
    have he := hT e (by rw [hl]; simp)
    have hx := hT x (by rw [hl]; simp)
    have hgt : l[pre.length + 1]'(by omega) = x := by simp [hl]
    have htin : f_X0_tripIn sg d (nI (pre.length + 1)) = some (nI x) := by rw [tin_duty hD (by omega) h40, hgt]
    unfold f_X0_measureStretches_27
    rw [hD.1, if_neg (nI_ge (by omega) (by omega)), htin, bd_s, to_ev he.1, bd_s, fro_ev hx.1, bd_s, way_pt he.2.2 hx.2.1, bd_s, dep_ev hx.1, bd_s, arr_ev he.1, bd_s, lt_e]
    generalize hi : (sg 43 x - sg 44 e) - wy sg (sg 42 e) (sg 41 x) = idle
    generalize hs1 : (if (0 : Int32) ≤ idle then sg else st2 sg d 8 0) = s1
    have hk1 : ∀ k, k ≠ d → s1 k = sg k := fun k hk => by
      rw [← hs1]
      split
      · rfl
      · exact st2_k _ _ _ _ hk
    have hj1 : ∀ j, j ≠ 8 → s1 d j = sg d j := fun j hj => by
      rw [← hs1]
      split
      · rfl
      · exact st2_j _ _ _ _ hj
    have h81 : s1 d 8 = if (0 : Int32) ≤ idle then sg d 8 else 0 := by
      rw [← hs1]
      split
      · rfl
      · exact st2_s _ _ _ _
    have hrun : (if (0 : Int32) ≤ idle then f_X0_measureStretches_88 d (fun zs z0 z1 z2 => f_X0_measureStretches_27 d n zs z0 z1 z2) sg dr (nI (pre.length + 1)) (nI x) (wy sg (sg 42 e) (sg 41 x)) idle else lt (st2 sg d 8 0) (fun sg31 => f_X0_measureStretches_88 d (fun zs z0 z1 z2 => f_X0_measureStretches_27 d n zs z0 z1 z2) sg31 dr (nI (pre.length + 1)) (nI x) (wy sg (sg 42 e) (sg 41 x)) idle)) = f_X0_measureStretches_88 d (fun zs z0 z1 z2 => f_X0_measureStretches_27 d n zs z0 z1 z2) s1 dr (nI (pre.length + 1)) (nI x) (wy sg (sg 42 e) (sg 41 x)) idle := by
      rw [← hs1]
      split <;> rfl
    rw [hrun, m88_ev hd hx.1, nI_inc]
    have hk2 : ∀ k, k ≠ d → brk s1 d dr idle k = sg k := fun k hk => (brk_k hk).trans (hk1 k hk)
    have hE : EnvEq sg (brk s1 d dr idle) := fun k hk => hk2 k (by omega)
    have hb1 : brk s1 d dr idle d 1 = sg d 1 := by
      unfold brk
      split
      · exact hj1 1 (by decide)
      · rw [st2_j _ _ _ _ (by decide), st2_j _ _ _ _ (by decide), st2_j _ _ _ _ (by decide)]; exact hj1 1 (by decide)
    obtain ⟨s2, r1, r2, r3, r4⟩ := ih (pre ++ [e]) x n (brk s1 d dr idle) ((if idle < s1 32 2 then dr else 0) + (wy sg (sg 42 e) (sg 41 x) + (s1 44 x - s1 43 x))) (by rw [hl]; simp) (by simp at hn; omega) ⟨by rw [hb1]; exact hD.1, by rw [hk2 _ (by omega)]; exact hD.2⟩ (fun t ht => (hT t ht).env hE)
    rw [List.length_append, List.length_singleton] at r1
    refine ⟨s2, r1, fun k hk => (r2 k hk).trans (hk2 k hk), fun j h4 h6 h7 h8 => (r3 j h4 h6 h7 h8).trans ?_, r4.trans ?_⟩
    · unfold brk
      split
      · exact hj1 j h8
      · rw [st2_j _ _ _ _ h7, st2_j _ _ _ _ h4, st2_j _ _ _ _ h6]; exact hj1 j h8
    · rw [hE.mstE, hk1 32 (by omega), hk1 43 (by omega), hk1 44 (by omega)]
      conv => rhs; unfold mst
      rw [hi]
      unfold brk
      rw [hk1 32 (by omega)]
      by_cases hb : idle < sg 32 2
      · rw [if_pos hb, if_pos hb, if_pos hb, h81, hj1 6 (by decide), hj1 4 (by decide), hj1 7 (by decide)]
      · rw [if_neg hb, if_neg hb, if_neg hb, st2_s, st2_j _ _ _ _ (show 6 ≠ 7 by decide), st2_j _ _ _ _ (show 6 ≠ 4 by decide), st2_s, st2_j _ _ _ _ (show 4 ≠ 7 by decide), st2_s, st2_j _ _ _ _ (show 8 ≠ 7 by decide), st2_j _ _ _ _ (show 8 ≠ 4 by decide), st2_j _ _ _ _ (show 8 ≠ 6 by decide), h81, hj1 6 (by decide), hj1 4 (by decide), hj1 7 (by decide)]
/-- what measure leaves: slots 2 .. 8 -/
theorem spread_ev {sg : dd_S} {d : Nat} (hd : d < 15) {x : Nat} {r : List Nat} (h40 : (x :: r).length ≤ 40) (hD : DutyAt sg d (x :: r)) (hT : ∀ t ∈ x :: r, TrOk sg t) : f_X0_measureSpread sg d = some (st2 (st2 (st2 sg d 2 (bgS sg x)) d 3 (enS sg ((x :: r).getLast (by simp)))) d 4 (enS sg ((x :: r).getLast (by simp)) - bgS sg x)) := by
  have hx := hT x (by simp)
  have hy := hT ((x :: r).getLast (by simp)) (List.getLast_mem _)
  have e0 : f_X0_tripIn sg d (0 : Int32) = some (nI x) := tin_duty (i := 0) hD (by simp) h40
  have e1 : f_X0_tripIn sg d (sg d 1 - 1) = some (nI ((x :: r).getLast (by simp))) := by
    rw [hD.1, nI_sub1 (by simp), tin_duty hD (by simp) h40, List.getLast_eq_getElem]
  unfold f_X0_measureSpread
  rw [e0, bd_s, e1, bd_s, fro_ev hx.1, bd_s, way_pt pt_0 hx.2.1, bd_s, to_ev hy.1, bd_s, way_pt hy.2.2 pt_0, bd_s, dep_ev hx.1, bd_s, lt_e, arr_ev hy.1, bd_s, lt_e, lt_e, st2_k _ _ _ _ (show 44 ≠ d by omega)]
  have e4 : ∀ a b : Int32, st2 (st2 sg d 2 a) d 3 b d 3 = b := fun a b => st2_s _ _ _ _
  have e5 : ∀ a b : Int32, st2 (st2 sg d 2 a) d 3 b d 2 = a := fun a b => by rw [st2_j _ _ _ _ (by decide), st2_s]
  rw [e4, e5]
  rfl
theorem pay_ev (sg : dd_S) (w : Int32) : f_X0_payFor sg w = some (payS w) := by
  unfold f_X0_payFor payS
  by_cases h1 : (360 : Int32) ≤ w
  · rw [if_pos h1, if_pos h1]
    unfold f_X0_payFor_14
    by_cases h2 : w ≤ (480 : Int32)
    · rw [if_pos h2, if_pos h2, Int32.add_zero]; rfl
    · rw [if_neg h2, if_neg h2]; rfl
  · rw [if_neg h1, if_neg h1]
    unfold f_X0_payFor_14
    by_cases h2 : w ≤ (480 : Int32)
    · rw [if_pos h2, if_pos h2, Int32.add_zero]; rfl
    · rw [if_neg h2, if_neg h2]; rfl
theorem meas_ev {sg : dd_S} {d : Nat} (hd : d < 15) {l : List Nat} (h40 : l.length ≤ 40) (hD : DutyAt sg d l) (hT : ∀ t ∈ l, TrOk sg t) : ∃ s2, f_X0_measure sg d = some s2 ∧ (∀ k, k ≠ d → s2 k = sg k) ∧ DutyAt s2 d l ∧ ∀ j, 2 ≤ j → j ≤ 8 → s2 d j = ftS sg l j := by
  unfold f_X0_measure
  simp only [lt_e]
  generalize h7 : st2 (st2 (st2 (st2 (st2 (st2 (st2 sg d 2 0) d 3 0) d 4 0) d 5 0) d 6 0) d 7 0) d 8 1 = s7
  have hk : ∀ k, k ≠ d → s7 k = sg k := fun k hk => by
    rw [← h7, st2_k _ _ _ _ hk, st2_k _ _ _ _ hk, st2_k _ _ _ _ hk, st2_k _ _ _ _ hk, st2_k _ _ _ _ hk, st2_k _ _ _ _ hk, st2_k _ _ _ _ hk]
  have hj : ∀ j, s7 d j = if j = 8 then 1 else if 2 ≤ j ∧ j ≤ 7 then 0 else sg d j := fun j => by
    rw [← h7]
    by_cases e8 : j = 8
    · subst e8; simp [st2_at]
    · by_cases e2 : j = 2
      · subst e2; simp [st2_at]
      · by_cases e3 : j = 3
        · subst e3; simp [st2_at]
        · by_cases e4 : j = 4
          · subst e4; simp [st2_at]
          · by_cases e5 : j = 5
            · subst e5; simp [st2_at]
            · by_cases e6 : j = 6
              · subst e6; simp [st2_at]
              · by_cases e7 : j = 7
                · subst e7; simp [st2_at]
                · have : ¬ (2 ≤ j ∧ j ≤ 7) := by omega
                  simp [st2_at, e8, e2, e3, e4, e5, e6, e7, this]
  have h1 : s7 d 1 = sg d 1 := by rw [hj]; simp
  have hD7 : DutyAt s7 d l := ⟨by rw [h1]; exact hD.1, by rw [hk _ (by omega)]; exact hD.2⟩
  have hE : EnvEq sg s7 := fun k h => hk k (by omega)
  have hT7 : ∀ t ∈ l, TrOk s7 t := fun t ht => (hT t ht).env hE
  cases l with
  | nil =>
    rw [hD7.1, if_pos (by decide)]
    refine ⟨s7, rfl, hk, hD7, fun j h2 h8 => ?_⟩
    rw [hj]
    show _ = if j = 8 then (1 : Int32) else 0
    by_cases e8 : j = 8
    · rw [if_pos e8, if_pos e8]
    · rw [if_neg e8, if_neg e8, if_pos (by omega)]
  | cons x r =>
    have hx := hT7 x (by simp)
    rw [hD7.1, if_neg (by rw [show (0 : Int32) = nI 0 from rfl, nI_le_iff (by omega) (by omega)]; simp), spread_ev hd h40 hD7 hT7, bd_s]
    generalize hsA : st2 (st2 (st2 s7 d 2 (bgS s7 x)) d 3 (enS s7 ((x :: r).getLast (by simp)))) d 4 (enS s7 ((x :: r).getLast (by simp)) - bgS s7 x) = sA
    have hkA : ∀ k, k ≠ d → sA k = s7 k := fun k hk => by rw [← hsA, st2_k _ _ _ _ hk, st2_k _ _ _ _ hk, st2_k _ _ _ _ hk]
    have hjA : ∀ j, sA d j = if j = 4 then enS s7 ((x :: r).getLast (by simp)) - bgS s7 x else if j = 3 then enS s7 ((x :: r).getLast (by simp)) else if j = 2 then bgS s7 x else s7 d j := fun j => by rw [← hsA]; simp [st2_at]
    have hEA : EnvEq s7 sA := fun k h => hkA k (by omega)
    have hDA : DutyAt sA d (x :: r) := ⟨by rw [hjA]; simpa using hD7.1, by rw [hkA _ (by omega)]; exact hD7.2⟩
    have hTA : ∀ t ∈ x :: r, TrOk sA t := fun t ht => (hT7 t ht).env hEA
    have e0 : f_X0_tripIn sA d (0 : Int32) = some (nI x) := tin_duty (i := 0) hDA (by simp) h40
    obtain ⟨sB, b1, b2, b3, b4⟩ := ms_loop hd h40 r [] x 64 sA (wy sA 0 (sA 41 x) + (sA 44 x - sA 43 x)) rfl (by simp at h40; omega) hDA hTA
    have hms : f_X0_measureStretches sA d = some sB := by
      unfold f_X0_measureStretches
      rw [e0, bd_s, fro_ev (hTA x (by simp)).1, bd_s, way_pt pt_0 (hTA x (by simp)).2.1, bd_s, min_ev (hTA x (by simp)).1, bd_s, lt_e]
      exact b1
    rw [hms, bd_s, pay_ev, bd_s]
    have hEE : EnvEq sg sA := hE.trans hEA
    have hq : (sB d 6, sB d 4, sB d 7, sB d 8) = mstS sg x r := by
      rw [b4]
      unfold mstS
      rw [hEE.mstE, hEE.wyE, hEE.p.1, hEE.p.2.2.1, hEE.p.2.2.2.1, hjA 6, hjA 4, hjA 7, hjA 8, hE.en, hE.bg, hj 6, hj 7, hj 8]
      simp
    have hB2 : sB d 2 = bgS sg x := by rw [b3 2 (by decide) (by decide) (by decide) (by decide), hjA]; simpa using hE.bg x
    have hB3 : sB d 3 = enS sg ((x :: r).getLast (by simp)) := by rw [b3 3 (by decide) (by decide) (by decide) (by decide), hjA]; simpa using hE.en _
    have hB1 : sB d 1 = nI (x :: r).length := by rw [b3 1 (by decide) (by decide) (by decide) (by decide)]; exact hDA.1
    have q6 : sB d 6 = (mstS sg x r).1 := by rw [← hq]
    have q4 : sB d 4 = (mstS sg x r).2.1 := by rw [← hq]
    have q7 : sB d 7 = (mstS sg x r).2.2.1 := by rw [← hq]
    have q8 : sB d 8 = (mstS sg x r).2.2.2 := by rw [← hq]
    have hkB : ∀ k, k ≠ d → sB k = sg k := fun k h => (b2 k h).trans ((hkA k h).trans (hk k h))
    rw [st2_k _ _ _ _ (show 32 ≠ d by omega), st2_j _ _ _ _ (show 7 ≠ 5 by decide), st2_j _ _ _ _ (show 3 ≠ 5 by decide), st2_j _ _ _ _ (show 2 ≠ 5 by decide), hkB 32 (by omega), q7, hB3, hB2]
    have key : ∀ (v : Int32) (s9 : dd_S), (∀ k, k ≠ d → s9 k = sB k) → (∀ j, s9 d j = if j = 8 then v else if j = 5 then payS (sB d 4) else sB d j) → v = ftS sg (x :: r) 8 → (∀ k, k ≠ d → s9 k = sg k) ∧ DutyAt s9 d (x :: r) ∧ ∀ j, 2 ≤ j → j ≤ 8 → s9 d j = ftS sg (x :: r) j := by
      intro v s9 h9 j9 hv
      refine ⟨fun k h => (h9 k h).trans (hkB k h), ⟨by rw [j9]; simpa using hB1, by rw [h9 _ (by omega), hkB _ (by omega)]; exact hD.2⟩, fun j h2 h8 => ?_⟩
      rw [j9]
      by_cases e8 : j = 8
      · subst e8; simpa using hv
      · rw [if_neg e8]
        unfold ftS
        rcases (show j = 2 ∨ j = 3 ∨ j = 4 ∨ j = 5 ∨ j = 6 ∨ j = 7 by omega) with rfl | rfl | rfl | rfl | rfl | rfl
        · simpa using hB2
        · simpa using hB3
        · simpa using q4
        · simp [q4]
        · simpa using q6
        · simpa using q7
    have hft8 : ftS sg (x :: r) 8 = if sg 32 0 < (mstS sg x r).2.2.1 then 0 else if (enS sg ((x :: r).getLast (by simp)) - bgS sg x) ≤ sg 32 1 then (mstS sg x r).2.2.2 else 0 := by simp [ftS]
    by_cases c1 : sg 32 0 < (mstS sg x r).2.2.1
    · rw [if_pos c1]
      exact ⟨_, rfl, key 0 _ (fun k h => by rw [st2_k _ _ _ _ h, st2_k _ _ _ _ h]) (fun j => by simp [st2_at]) (by rw [hft8, if_pos c1])⟩
    · rw [if_neg c1]
      by_cases c2 : (enS sg ((x :: r).getLast (by simp)) - bgS sg x) ≤ sg 32 1
      · rw [if_pos c2]
        exact ⟨_, rfl, key (sB d 8) _ (fun k h => by rw [st2_k _ _ _ _ h]) (fun j => by
          by_cases e8 : j = 8
          · subst e8; simp [st2_at]
          · simp [st2_at, e8]) (by rw [hft8, if_neg c1, if_pos c2, q8])⟩
      · rw [if_neg c2]
        exact ⟨_, rfl, key 0 _ (fun k h => by rw [st2_k _ _ _ _ h, st2_k _ _ _ _ h]) (fun j => by simp [st2_at]) (by rw [hft8, if_neg c1, if_neg c2])⟩
