set_option maxHeartbeats 4000000 in
set_option maxRecDepth 100000 in
theorem c_X5_isPoint (l : Launch) (g : dd_G) (ad : Nat → Nat) (X : va_W) (sz : Nat) (sg : dd_S) (a0 : Int32) (r0 : Int32) (hf : f_X5_isPoint sg a0 = some (r0)) : Met l yX5_isPoint (lw_ws yX5_isPoint cX5_isPoint 1 (some .boolean)) ({ frames := 0, cells := 0, slots := 0, locals := 0 } : Room) (va_Pc [.int a0] (PreW g (WC g ad sg ++ X) sz)) (QI g (WC g ad sg ++ X) (dd_A 59 ad X sz) r0) 0 0 (dd_A 59 ad X sz) := by
  refine Met.ofW (cc := cX5_isPoint) (maxL := 1) (ret := some .boolean) (by decide) rfl ?_
  intro p e s m args below meth c s₁ B hml hv
  obtain ⟨rfl, rfl, hP, hK, hD0⟩ := hv
  have hx := B.exec
  have hb := B.bytes
  have hr := B.returns
  have hts := atoms_spec (ws := (lw_ws yX5_isPoint cX5_isPoint 1 (some .boolean))) B.pre
  have hts : ∀ w ∈ lw_all, w.before _ s = true := fun w h => hts w (List.mem_cons_of_mem _ h)
  have hown : s.vm.findClass RX5 = some m.cls := findClass_of_methodNamed B.named
  have hlocks := B.notSynchronized
  have hD : ∀ s2 : dd_S, va_D (dd_A 59 ad X s.heap.size) (WC g ad s2 ++ X) := fun s2 => dd_D (dd_A_D hD0)
  have hS : va_S (dd_A 59 ad X s.heap.size) s.heap s.heap [] := va_S.rf
  have hL_15 : ∀ (t0 : Int32) (H : Heap) (locs : List Loc) (ls : Array Slot), f_X5_isPoint_15 sg a0 t0 = some (r0) → va_P g.1 vwCl (WC g ad sg ++ X) H → va_S (dd_A 59 ad X s.heap.size) s.heap H locs → lv_has ls 1 [] → W p l e (headSpec (lw_ws yX5_isPoint cX5_isPoint 1 (some .boolean)) ({ frames := 0, cells := 0, slots := 0, locals := 0 } : Room)).room s m ([.int a0] : List Value).toArray below meth c H locs 0 0 (MQ below (QI g (WC g ad sg ++ X) (dd_A 59 ad X s.heap.size) r0) ([.int a0] : List Value).toArray s 0 0 (dd_A 59 ad X s.heap.size)) (F0 m 15 ls [.int t0]) := by
    intro t0 H locs ls hf hP hS hl
    unfold f_X5_isPoint_15 at hf
    obtain ⟨hz3, hf⟩ := gd_so hf
    exact W.zret (v := t0) hx hb hr (bz_z hz3) (fun t ht hW => ⟨⟨t0, (), rfl, so1 hf, P_at ht hP⟩, hS.F ht⟩) hS.2.2 dX5_isPoint_15
  have hL_14 : ∀ (H : Heap) (locs : List Loc) (ls : Array Slot), f_X5_isPoint_14 sg a0 = some (r0) → va_P g.1 vwCl (WC g ad sg ++ X) H → va_S (dd_A 59 ad X s.heap.size) s.heap H locs → lv_has ls 1 [] → W p l e (headSpec (lw_ws yX5_isPoint cX5_isPoint 1 (some .boolean)) ({ frames := 0, cells := 0, slots := 0, locals := 0 } : Room)).room s m ([.int a0] : List Value).toArray below meth c H locs 0 0 (MQ below (QI g (WC g ad sg ++ X) (dd_A 59 ad X s.heap.size) r0) ([.int a0] : List Value).toArray s 0 0 (dd_A 59 ad X s.heap.size)) (F0 m 14 ls []) := by
    intro H locs ls hf hP hS hl
    unfold f_X5_isPoint_14 at hf
    refine lv_iconst (v := (0 : Int32)) hx hb dX5_isPoint_14 (by decide) ?_
    exact hL_15 (0 : Int32) _ _ _ hf hP hS (lv_sub hl [] rfl)
  unfold f_X5_isPoint at hf
  have hl := lv_entry ([.int a0]) (n := 1) (Nat.le_of_ble_eq_true rfl)
  rw [lg_entry_eq]
  generalize (lg_sl ([.int a0]) ++ List.replicate (1 - (lg_sl ([.int a0])).length) Slot.unset).toArray = ls at hl ⊢
  have hl : lv_has ls 1 [(0, .int a0)] := hl
  refine lv_iload_n hx hb dX5_isPoint_0 rfl (lv_at hl 0 rfl) ?_
  refine lv_if_lt (tgt := 14) hx hb dX5_isPoint_1 (by decide) (fun c1 => ?_) (fun c1 => ?_)
  · have hf := if_t c1 hf
    exact hL_14 _ _ _ hf hP hS (lv_sub hl [] rfl)
  · have hf := if_f c1 hf
    refine lv_iload_n hx hb dX5_isPoint_4 rfl (lv_at hl 0 rfl) ?_
    refine lv_bipush (v := (6 : Int32)) hx hb dX5_isPoint_5 (by decide) ?_
    refine lv_icmp_ge (tgt := 14) hx hb dX5_isPoint_7 (by decide) (fun c2 => ?_) (fun c2 => ?_)
    · have hf := if_t c2 hf
      exact hL_14 _ _ _ hf hP hS (lv_sub hl [] rfl)
    · have hf := if_f c2 hf
      refine lv_iconst (v := (1 : Int32)) hx hb dX5_isPoint_10 (by decide) ?_
      refine lv_goto (tgt := 15) hx hb dX5_isPoint_11 (by decide) ?_
      exact hL_15 (1 : Int32) _ _ _ hf hP hS (lv_sub hl [] rfl)
set_option maxHeartbeats 4000000 in
set_option maxRecDepth 100000 in
theorem c_X5_isDay (l : Launch) (g : dd_G) (ad : Nat → Nat) (X : va_W) (sz : Nat) (sg : dd_S) (a0 : Int32) (r0 : Int32) (hf : f_X5_isDay sg a0 = some (r0)) : Met l yX5_isDay (lw_ws yX5_isDay cX5_isDay 1 (some .boolean)) ({ frames := 0, cells := 0, slots := 0, locals := 0 } : Room) (va_Pc [.int a0] (PreW g (WC g ad sg ++ X) sz)) (QI g (WC g ad sg ++ X) (dd_A 59 ad X sz) r0) 0 0 (dd_A 59 ad X sz) := by
  refine Met.ofW (cc := cX5_isDay) (maxL := 1) (ret := some .boolean) (by decide) rfl ?_
  intro p e s m args below meth c s₁ B hml hv
  obtain ⟨rfl, rfl, hP, hK, hD0⟩ := hv
  have hx := B.exec
  have hb := B.bytes
  have hr := B.returns
  have hts := atoms_spec (ws := (lw_ws yX5_isDay cX5_isDay 1 (some .boolean))) B.pre
  have hts : ∀ w ∈ lw_all, w.before _ s = true := fun w h => hts w (List.mem_cons_of_mem _ h)
  have hown : s.vm.findClass RX5 = some m.cls := findClass_of_methodNamed B.named
  have hlocks := B.notSynchronized
  have hD : ∀ s2 : dd_S, va_D (dd_A 59 ad X s.heap.size) (WC g ad s2 ++ X) := fun s2 => dd_D (dd_A_D hD0)
  have hS : va_S (dd_A 59 ad X s.heap.size) s.heap s.heap [] := va_S.rf
  have hL_15 : ∀ (t0 : Int32) (H : Heap) (locs : List Loc) (ls : Array Slot), f_X5_isDay_15 sg a0 t0 = some (r0) → va_P g.1 vwCl (WC g ad sg ++ X) H → va_S (dd_A 59 ad X s.heap.size) s.heap H locs → lv_has ls 1 [] → W p l e (headSpec (lw_ws yX5_isDay cX5_isDay 1 (some .boolean)) ({ frames := 0, cells := 0, slots := 0, locals := 0 } : Room)).room s m ([.int a0] : List Value).toArray below meth c H locs 0 0 (MQ below (QI g (WC g ad sg ++ X) (dd_A 59 ad X s.heap.size) r0) ([.int a0] : List Value).toArray s 0 0 (dd_A 59 ad X s.heap.size)) (F0 m 15 ls [.int t0]) := by
    intro t0 H locs ls hf hP hS hl
    unfold f_X5_isDay_15 at hf
    obtain ⟨hz3, hf⟩ := gd_so hf
    exact W.zret (v := t0) hx hb hr (bz_z hz3) (fun t ht hW => ⟨⟨t0, (), rfl, so1 hf, P_at ht hP⟩, hS.F ht⟩) hS.2.2 dX5_isDay_15
  have hL_14 : ∀ (H : Heap) (locs : List Loc) (ls : Array Slot), f_X5_isDay_14 sg a0 = some (r0) → va_P g.1 vwCl (WC g ad sg ++ X) H → va_S (dd_A 59 ad X s.heap.size) s.heap H locs → lv_has ls 1 [] → W p l e (headSpec (lw_ws yX5_isDay cX5_isDay 1 (some .boolean)) ({ frames := 0, cells := 0, slots := 0, locals := 0 } : Room)).room s m ([.int a0] : List Value).toArray below meth c H locs 0 0 (MQ below (QI g (WC g ad sg ++ X) (dd_A 59 ad X s.heap.size) r0) ([.int a0] : List Value).toArray s 0 0 (dd_A 59 ad X s.heap.size)) (F0 m 14 ls []) := by
    intro H locs ls hf hP hS hl
    unfold f_X5_isDay_14 at hf
    refine lv_iconst (v := (0 : Int32)) hx hb dX5_isDay_14 (by decide) ?_
    exact hL_15 (0 : Int32) _ _ _ hf hP hS (lv_sub hl [] rfl)
  unfold f_X5_isDay at hf
  have hl := lv_entry ([.int a0]) (n := 1) (Nat.le_of_ble_eq_true rfl)
  rw [lg_entry_eq]
  generalize (lg_sl ([.int a0]) ++ List.replicate (1 - (lg_sl ([.int a0])).length) Slot.unset).toArray = ls at hl ⊢
  have hl : lv_has ls 1 [(0, .int a0)] := hl
  refine lv_iload_n hx hb dX5_isDay_0 rfl (lv_at hl 0 rfl) ?_
  refine lv_if_lt (tgt := 14) hx hb dX5_isDay_1 (by decide) (fun c1 => ?_) (fun c1 => ?_)
  · have hf := if_t c1 hf
    exact hL_14 _ _ _ hf hP hS (lv_sub hl [] rfl)
  · have hf := if_f c1 hf
    refine lv_iload_n hx hb dX5_isDay_4 rfl (lv_at hl 0 rfl) ?_
    refine lv_bipush (v := (7 : Int32)) hx hb dX5_isDay_5 (by decide) ?_
    refine lv_icmp_ge (tgt := 14) hx hb dX5_isDay_7 (by decide) (fun c2 => ?_) (fun c2 => ?_)
    · have hf := if_t c2 hf
      exact hL_14 _ _ _ hf hP hS (lv_sub hl [] rfl)
    · have hf := if_f c2 hf
      refine lv_iconst (v := (1 : Int32)) hx hb dX5_isDay_10 (by decide) ?_
      refine lv_goto (tgt := 15) hx hb dX5_isDay_11 (by decide) ?_
      exact hL_15 (1 : Int32) _ _ _ hf hP hS (lv_sub hl [] rfl)
set_option maxHeartbeats 4000000 in
set_option maxRecDepth 100000 in
theorem c_X5_areTimesOfTrip (l : Launch) (g : dd_G) (ad : Nat → Nat) (X : va_W) (sz : Nat) (sg : dd_S) (a0 : Int32) (a1 : Int32) (r0 : Int32) (hf : f_X5_areTimesOfTrip sg a0 a1 = some (r0)) : Met l yX5_areTimesOfTrip (lw_ws yX5_areTimesOfTrip cX5_areTimesOfTrip 2 (some .boolean)) ({ frames := 0, cells := 0, slots := 0, locals := 0 } : Room) (va_Pc [.int a0, .int a1] (PreW g (WC g ad sg ++ X) sz)) (QI g (WC g ad sg ++ X) (dd_A 59 ad X sz) r0) 0 0 (dd_A 59 ad X sz) := by
  refine Met.ofW (cc := cX5_areTimesOfTrip) (maxL := 2) (ret := some .boolean) (by decide) rfl ?_
  intro p e s m args below meth c s₁ B hml hv
  obtain ⟨rfl, rfl, hP, hK, hD0⟩ := hv
  have hx := B.exec
  have hb := B.bytes
  have hr := B.returns
  have hts := atoms_spec (ws := (lw_ws yX5_areTimesOfTrip cX5_areTimesOfTrip 2 (some .boolean))) B.pre
  have hts : ∀ w ∈ lw_all, w.before _ s = true := fun w h => hts w (List.mem_cons_of_mem _ h)
  have hown : s.vm.findClass RX5 = some m.cls := findClass_of_methodNamed B.named
  have hlocks := B.notSynchronized
  have hD : ∀ s2 : dd_S, va_D (dd_A 59 ad X s.heap.size) (WC g ad s2 ++ X) := fun s2 => dd_D (dd_A_D hD0)
  have hS : va_S (dd_A 59 ad X s.heap.size) s.heap s.heap [] := va_S.rf
  have hL_30 : ∀ (t0 : Int32) (H : Heap) (locs : List Loc) (ls : Array Slot), f_X5_areTimesOfTrip_30 sg a0 a1 t0 = some (r0) → va_P g.1 vwCl (WC g ad sg ++ X) H → va_S (dd_A 59 ad X s.heap.size) s.heap H locs → lv_has ls 2 [] → W p l e (headSpec (lw_ws yX5_areTimesOfTrip cX5_areTimesOfTrip 2 (some .boolean)) ({ frames := 0, cells := 0, slots := 0, locals := 0 } : Room)).room s m ([.int a0, .int a1] : List Value).toArray below meth c H locs 0 0 (MQ below (QI g (WC g ad sg ++ X) (dd_A 59 ad X s.heap.size) r0) ([.int a0, .int a1] : List Value).toArray s 0 0 (dd_A 59 ad X s.heap.size)) (F0 m 30 ls [.int t0]) := by
    intro t0 H locs ls hf hP hS hl
    unfold f_X5_areTimesOfTrip_30 at hf
    obtain ⟨hz5, hf⟩ := gd_so hf
    exact W.zret (v := t0) hx hb hr (bz_z hz5) (fun t ht hW => ⟨⟨t0, (), rfl, so1 hf, P_at ht hP⟩, hS.F ht⟩) hS.2.2 dX5_areTimesOfTrip_30
  have hL_29 : ∀ (H : Heap) (locs : List Loc) (ls : Array Slot), f_X5_areTimesOfTrip_29 sg a0 a1 = some (r0) → va_P g.1 vwCl (WC g ad sg ++ X) H → va_S (dd_A 59 ad X s.heap.size) s.heap H locs → lv_has ls 2 [] → W p l e (headSpec (lw_ws yX5_areTimesOfTrip cX5_areTimesOfTrip 2 (some .boolean)) ({ frames := 0, cells := 0, slots := 0, locals := 0 } : Room)).room s m ([.int a0, .int a1] : List Value).toArray below meth c H locs 0 0 (MQ below (QI g (WC g ad sg ++ X) (dd_A 59 ad X s.heap.size) r0) ([.int a0, .int a1] : List Value).toArray s 0 0 (dd_A 59 ad X s.heap.size)) (F0 m 29 ls []) := by
    intro H locs ls hf hP hS hl
    unfold f_X5_areTimesOfTrip_29 at hf
    refine lv_iconst (v := (0 : Int32)) hx hb dX5_areTimesOfTrip_29 (by decide) ?_
    exact hL_30 (0 : Int32) _ _ _ hf hP hS (lv_sub hl [] rfl)
  unfold f_X5_areTimesOfTrip at hf
  have hl := lv_entry ([.int a0, .int a1]) (n := 2) (Nat.le_of_ble_eq_true rfl)
  rw [lg_entry_eq]
  generalize (lg_sl ([.int a0, .int a1]) ++ List.replicate (2 - (lg_sl ([.int a0, .int a1])).length) Slot.unset).toArray = ls at hl ⊢
  have hl : lv_has ls 2 [(0, .int a0), (1, .int a1)] := hl
  refine lv_iload_n hx hb dX5_areTimesOfTrip_0 rfl (lv_at hl 0 rfl) ?_
  refine lv_if_lt (tgt := 29) hx hb dX5_areTimesOfTrip_1 (by decide) (fun c1 => ?_) (fun c1 => ?_)
  · have hf := if_t c1 hf
    exact hL_29 _ _ _ hf hP hS (lv_sub hl [] rfl)
  · have hf := if_f c1 hf
    refine lv_iload_n hx hb dX5_areTimesOfTrip_4 rfl (lv_at hl 1 rfl) ?_
    refine lv_iload_n hx hb dX5_areTimesOfTrip_5 rfl (lv_at hl 0 rfl) ?_
    refine lv_icmp_le (tgt := 29) hx hb dX5_areTimesOfTrip_6 (by decide) (fun c2 => ?_) (fun c2 => ?_)
    · have hf := if_t c2 hf
      exact hL_29 _ _ _ hf hP hS (lv_sub hl [] rfl)
    · have hf := if_f c2 hf
      refine lv_iload_n hx hb dX5_areTimesOfTrip_9 rfl (lv_at hl 1 rfl) ?_
      refine lv_sipush (v := (1799 : Int32)) hx hb dX5_areTimesOfTrip_10 (by decide) ?_
      refine lv_icmp_gt (tgt := 29) hx hb dX5_areTimesOfTrip_13 (by decide) (fun c3 => ?_) (fun c3 => ?_)
      · have hf := if_t c3 hf
        exact hL_29 _ _ _ hf hP hS (lv_sub hl [] rfl)
      · have hf := if_f c3 hf
        refine lv_iload_n hx hb dX5_areTimesOfTrip_16 rfl (lv_at hl 1 rfl) ?_
        refine lv_iload_n hx hb dX5_areTimesOfTrip_17 rfl (lv_at hl 0 rfl) ?_
        refine lv_isub hx hb dX5_areTimesOfTrip_18 ?_
        refine lv_sipush (v := (240 : Int32)) hx hb dX5_areTimesOfTrip_19 (by decide) ?_
        refine lv_icmp_gt (tgt := 29) hx hb dX5_areTimesOfTrip_22 (by decide) (fun c4 => ?_) (fun c4 => ?_)
        · have hf := if_t c4 hf
          exact hL_29 _ _ _ hf hP hS (lv_sub hl [] rfl)
        · have hf := if_f c4 hf
          refine lv_iconst (v := (1 : Int32)) hx hb dX5_areTimesOfTrip_25 (by decide) ?_
          refine lv_goto (tgt := 30) hx hb dX5_areTimesOfTrip_26 (by decide) ?_
          exact hL_30 (1 : Int32) _ _ _ hf hP hS (lv_sub hl [] rfl)
set_option maxHeartbeats 4000000 in
set_option maxRecDepth 100000 in
theorem c_X5_isTrip (l : Launch) (g : dd_G) (ad : Nat → Nat) (X : va_W) (sz : Nat) (sg : dd_S) (a1 : Int32) (r0 : Int32) (hf : f_X5_isTrip sg a1 = some (r0)) : Met l yX5_isTrip (lw_ws yX5_isTrip cX5_isTrip 2 (some .boolean)) ({ frames := 0, cells := 0, slots := 0, locals := 0 } : Room) (va_Pc [.ref (ad 30), .int a1] (PreW g (WC g ad sg ++ X) sz)) (QI g (WC g ad sg ++ X) (dd_A 59 ad X sz) r0) 0 0 (dd_A 59 ad X sz) := by
  refine Met.ofW (cc := cX5_isTrip) (maxL := 2) (ret := some .boolean) (by decide) rfl ?_
  intro p e s m args below meth c s₁ B hml hv
  obtain ⟨rfl, rfl, hP, hK, hD0⟩ := hv
  have hx := B.exec
  have hb := B.bytes
  have hr := B.returns
  have hts := atoms_spec (ws := (lw_ws yX5_isTrip cX5_isTrip 2 (some .boolean))) B.pre
  have hts : ∀ w ∈ lw_all, w.before _ s = true := fun w h => hts w (List.mem_cons_of_mem _ h)
  have hown : s.vm.findClass RX5 = some m.cls := findClass_of_methodNamed B.named
  have hlocks := B.notSynchronized
  have hD : ∀ s2 : dd_S, va_D (dd_A 59 ad X s.heap.size) (WC g ad s2 ++ X) := fun s2 => dd_D (dd_A_D hD0)
  have hS : va_S (dd_A 59 ad X s.heap.size) s.heap s.heap [] := va_S.rf
  have hL_20 : ∀ (t0 : Int32) (H : Heap) (locs : List Loc) (ls : Array Slot), f_X5_isTrip_20 sg a1 t0 = some (r0) → va_P g.1 vwCl (WC g ad sg ++ X) H → va_S (dd_A 59 ad X s.heap.size) s.heap H locs → lv_has ls 2 [] → W p l e (headSpec (lw_ws yX5_isTrip cX5_isTrip 2 (some .boolean)) ({ frames := 0, cells := 0, slots := 0, locals := 0 } : Room)).room s m ([.ref (ad 30), .int a1] : List Value).toArray below meth c H locs 0 0 (MQ below (QI g (WC g ad sg ++ X) (dd_A 59 ad X s.heap.size) r0) ([.ref (ad 30), .int a1] : List Value).toArray s 0 0 (dd_A 59 ad X s.heap.size)) (F0 m 20 ls [.int t0]) := by
    intro t0 H locs ls hf hP hS hl
    unfold f_X5_isTrip_20 at hf
    obtain ⟨hz3, hf⟩ := gd_so hf
    exact W.zret (v := t0) hx hb hr (bz_z hz3) (fun t ht hW => ⟨⟨t0, (), rfl, so1 hf, P_at ht hP⟩, hS.F ht⟩) hS.2.2 dX5_isTrip_20
  have hL_19 : ∀ (H : Heap) (locs : List Loc) (ls : Array Slot), f_X5_isTrip_19 sg a1 = some (r0) → va_P g.1 vwCl (WC g ad sg ++ X) H → va_S (dd_A 59 ad X s.heap.size) s.heap H locs → lv_has ls 2 [] → W p l e (headSpec (lw_ws yX5_isTrip cX5_isTrip 2 (some .boolean)) ({ frames := 0, cells := 0, slots := 0, locals := 0 } : Room)).room s m ([.ref (ad 30), .int a1] : List Value).toArray below meth c H locs 0 0 (MQ below (QI g (WC g ad sg ++ X) (dd_A 59 ad X s.heap.size) r0) ([.ref (ad 30), .int a1] : List Value).toArray s 0 0 (dd_A 59 ad X s.heap.size)) (F0 m 19 ls []) := by
    intro H locs ls hf hP hS hl
    unfold f_X5_isTrip_19 at hf
    refine lv_iconst (v := (0 : Int32)) hx hb dX5_isTrip_19 (by decide) ?_
    exact hL_20 (0 : Int32) _ _ _ hf hP hS (lv_sub hl [] rfl)
  unfold f_X5_isTrip at hf
  have hl := lv_entry ([.ref (ad 30), .int a1]) (n := 2) (Nat.le_of_ble_eq_true rfl)
  rw [lg_entry_eq]
  generalize (lg_sl ([.ref (ad 30), .int a1]) ++ List.replicate (2 - (lg_sl ([.ref (ad 30), .int a1])).length) Slot.unset).toArray = ls at hl ⊢
  have hl : lv_has ls 2 [(0, .ref (ad 30)), (1, .int a1)] := hl
  refine lv_iload_n hx hb dX5_isTrip_0 rfl (lv_at hl 1 rfl) ?_
  refine lv_if_lt (tgt := 19) hx hb dX5_isTrip_1 (by decide) (fun c1 => ?_) (fun c1 => ?_)
  · have hf := if_t c1 hf
    exact hL_19 _ _ _ hf hP hS (lv_sub hl [] rfl)
  · have hf := if_f c1 hf
    refine lv_iload_n hx hb dX5_isTrip_4 rfl (lv_at hl 1 rfl) ?_
    refine lv_aload_n hx hb dX5_isTrip_5 rfl (lv_at hl 0 rfl) ?_
    refine gf_X5_10 hx hb hts hown hK hP dX5_isTrip_6 ?_
    refine gf_X5_96 hx hb hts hown hK hP dX5_isTrip_9 ?_
    refine lv_icmp_ge (tgt := 19) hx hb dX5_isTrip_12 (by decide) (fun c2 => ?_) (fun c2 => ?_)
    · have hf := if_t c2 hf
      exact hL_19 _ _ _ hf hP hS (lv_sub hl [] rfl)
    · have hf := if_f c2 hf
      refine lv_iconst (v := (1 : Int32)) hx hb dX5_isTrip_15 (by decide) ?_
      refine lv_goto (tgt := 20) hx hb dX5_isTrip_16 (by decide) ?_
      exact hL_20 (1 : Int32) _ _ _ hf hP hS (lv_sub hl [] rfl)
set_option maxHeartbeats 4000000 in
set_option maxRecDepth 100000 in
theorem c_X5_isDuty (l : Launch) (g : dd_G) (ad : Nat → Nat) (X : va_W) (sz : Nat) (sg : dd_S) (a1 : Int32) (r0 : Int32) (hf : f_X5_isDuty sg a1 = some (r0)) : Met l yX5_isDuty (lw_ws yX5_isDuty cX5_isDuty 2 (some .boolean)) ({ frames := 0, cells := 0, slots := 0, locals := 0 } : Room) (va_Pc [.ref (ad 30), .int a1] (PreW g (WC g ad sg ++ X) sz)) (QI g (WC g ad sg ++ X) (dd_A 59 ad X sz) r0) 0 0 (dd_A 59 ad X sz) := by
  refine Met.ofW (cc := cX5_isDuty) (maxL := 2) (ret := some .boolean) (by decide) rfl ?_
  intro p e s m args below meth c s₁ B hml hv
  obtain ⟨rfl, rfl, hP, hK, hD0⟩ := hv
  have hx := B.exec
  have hb := B.bytes
  have hr := B.returns
  have hts := atoms_spec (ws := (lw_ws yX5_isDuty cX5_isDuty 2 (some .boolean))) B.pre
  have hts : ∀ w ∈ lw_all, w.before _ s = true := fun w h => hts w (List.mem_cons_of_mem _ h)
  have hown : s.vm.findClass RX5 = some m.cls := findClass_of_methodNamed B.named
  have hlocks := B.notSynchronized
  have hD : ∀ s2 : dd_S, va_D (dd_A 59 ad X s.heap.size) (WC g ad s2 ++ X) := fun s2 => dd_D (dd_A_D hD0)
  have hS : va_S (dd_A 59 ad X s.heap.size) s.heap s.heap [] := va_S.rf
  have hL_17 : ∀ (t0 : Int32) (H : Heap) (locs : List Loc) (ls : Array Slot), f_X5_isDuty_17 sg a1 t0 = some (r0) → va_P g.1 vwCl (WC g ad sg ++ X) H → va_S (dd_A 59 ad X s.heap.size) s.heap H locs → lv_has ls 2 [] → W p l e (headSpec (lw_ws yX5_isDuty cX5_isDuty 2 (some .boolean)) ({ frames := 0, cells := 0, slots := 0, locals := 0 } : Room)).room s m ([.ref (ad 30), .int a1] : List Value).toArray below meth c H locs 0 0 (MQ below (QI g (WC g ad sg ++ X) (dd_A 59 ad X s.heap.size) r0) ([.ref (ad 30), .int a1] : List Value).toArray s 0 0 (dd_A 59 ad X s.heap.size)) (F0 m 17 ls [.int t0]) := by
    intro t0 H locs ls hf hP hS hl
    unfold f_X5_isDuty_17 at hf
    obtain ⟨hz3, hf⟩ := gd_so hf
    exact W.zret (v := t0) hx hb hr (bz_z hz3) (fun t ht hW => ⟨⟨t0, (), rfl, so1 hf, P_at ht hP⟩, hS.F ht⟩) hS.2.2 dX5_isDuty_17
  have hL_16 : ∀ (H : Heap) (locs : List Loc) (ls : Array Slot), f_X5_isDuty_16 sg a1 = some (r0) → va_P g.1 vwCl (WC g ad sg ++ X) H → va_S (dd_A 59 ad X s.heap.size) s.heap H locs → lv_has ls 2 [] → W p l e (headSpec (lw_ws yX5_isDuty cX5_isDuty 2 (some .boolean)) ({ frames := 0, cells := 0, slots := 0, locals := 0 } : Room)).room s m ([.ref (ad 30), .int a1] : List Value).toArray below meth c H locs 0 0 (MQ below (QI g (WC g ad sg ++ X) (dd_A 59 ad X s.heap.size) r0) ([.ref (ad 30), .int a1] : List Value).toArray s 0 0 (dd_A 59 ad X s.heap.size)) (F0 m 16 ls []) := by
    intro H locs ls hf hP hS hl
    unfold f_X5_isDuty_16 at hf
    refine lv_iconst (v := (0 : Int32)) hx hb dX5_isDuty_16 (by decide) ?_
    exact hL_17 (0 : Int32) _ _ _ hf hP hS (lv_sub hl [] rfl)
  unfold f_X5_isDuty at hf
  have hl := lv_entry ([.ref (ad 30), .int a1]) (n := 2) (Nat.le_of_ble_eq_true rfl)
  rw [lg_entry_eq]
  generalize (lg_sl ([.ref (ad 30), .int a1]) ++ List.replicate (2 - (lg_sl ([.ref (ad 30), .int a1])).length) Slot.unset).toArray = ls at hl ⊢
  have hl : lv_has ls 2 [(0, .ref (ad 30)), (1, .int a1)] := hl
  refine lv_iload_n hx hb dX5_isDuty_0 rfl (lv_at hl 1 rfl) ?_
  refine lv_if_lt (tgt := 16) hx hb dX5_isDuty_1 (by decide) (fun c1 => ?_) (fun c1 => ?_)
  · have hf := if_t c1 hf
    exact hL_16 _ _ _ hf hP hS (lv_sub hl [] rfl)
  · have hf := if_f c1 hf
    refine lv_iload_n hx hb dX5_isDuty_4 rfl (lv_at hl 1 rfl) ?_
    refine lv_aload_n hx hb dX5_isDuty_5 rfl (lv_at hl 0 rfl) ?_
    refine gf_X5_137 hx hb hts hown hK hP dX5_isDuty_6 ?_
    refine lv_icmp_ge (tgt := 16) hx hb dX5_isDuty_9 (by decide) (fun c2 => ?_) (fun c2 => ?_)
    · have hf := if_t c2 hf
      exact hL_16 _ _ _ hf hP hS (lv_sub hl [] rfl)
    · have hf := if_f c2 hf
      refine lv_iconst (v := (1 : Int32)) hx hb dX5_isDuty_12 (by decide) ?_
      refine lv_goto (tgt := 17) hx hb dX5_isDuty_13 (by decide) ?_
      exact hL_17 (1 : Int32) _ _ _ hf hP hS (lv_sub hl [] rfl)
set_option maxHeartbeats 4000000 in
set_option maxRecDepth 100000 in
theorem c_X5_isDriver (l : Launch) (g : dd_G) (ad : Nat → Nat) (X : va_W) (sz : Nat) (sg : dd_S) (a1 : Int32) (r0 : Int32) (hf : f_X5_isDriver sg a1 = some (r0)) : Met l yX5_isDriver (lw_ws yX5_isDriver cX5_isDriver 2 (some .boolean)) ({ frames := 0, cells := 0, slots := 0, locals := 0 } : Room) (va_Pc [.ref (ad 30), .int a1] (PreW g (WC g ad sg ++ X) sz)) (QI g (WC g ad sg ++ X) (dd_A 59 ad X sz) r0) 0 0 (dd_A 59 ad X sz) := by
  refine Met.ofW (cc := cX5_isDriver) (maxL := 2) (ret := some .boolean) (by decide) rfl ?_
  intro p e s m args below meth c s₁ B hml hv
  obtain ⟨rfl, rfl, hP, hK, hD0⟩ := hv
  have hx := B.exec
  have hb := B.bytes
  have hr := B.returns
  have hts := atoms_spec (ws := (lw_ws yX5_isDriver cX5_isDriver 2 (some .boolean))) B.pre
  have hts : ∀ w ∈ lw_all, w.before _ s = true := fun w h => hts w (List.mem_cons_of_mem _ h)
  have hown : s.vm.findClass RX5 = some m.cls := findClass_of_methodNamed B.named
  have hlocks := B.notSynchronized
  have hD : ∀ s2 : dd_S, va_D (dd_A 59 ad X s.heap.size) (WC g ad s2 ++ X) := fun s2 => dd_D (dd_A_D hD0)
  have hS : va_S (dd_A 59 ad X s.heap.size) s.heap s.heap [] := va_S.rf
  have hL_17 : ∀ (t0 : Int32) (H : Heap) (locs : List Loc) (ls : Array Slot), f_X5_isDriver_17 sg a1 t0 = some (r0) → va_P g.1 vwCl (WC g ad sg ++ X) H → va_S (dd_A 59 ad X s.heap.size) s.heap H locs → lv_has ls 2 [] → W p l e (headSpec (lw_ws yX5_isDriver cX5_isDriver 2 (some .boolean)) ({ frames := 0, cells := 0, slots := 0, locals := 0 } : Room)).room s m ([.ref (ad 30), .int a1] : List Value).toArray below meth c H locs 0 0 (MQ below (QI g (WC g ad sg ++ X) (dd_A 59 ad X s.heap.size) r0) ([.ref (ad 30), .int a1] : List Value).toArray s 0 0 (dd_A 59 ad X s.heap.size)) (F0 m 17 ls [.int t0]) := by
    intro t0 H locs ls hf hP hS hl
    unfold f_X5_isDriver_17 at hf
    obtain ⟨hz3, hf⟩ := gd_so hf
    exact W.zret (v := t0) hx hb hr (bz_z hz3) (fun t ht hW => ⟨⟨t0, (), rfl, so1 hf, P_at ht hP⟩, hS.F ht⟩) hS.2.2 dX5_isDriver_17
  have hL_16 : ∀ (H : Heap) (locs : List Loc) (ls : Array Slot), f_X5_isDriver_16 sg a1 = some (r0) → va_P g.1 vwCl (WC g ad sg ++ X) H → va_S (dd_A 59 ad X s.heap.size) s.heap H locs → lv_has ls 2 [] → W p l e (headSpec (lw_ws yX5_isDriver cX5_isDriver 2 (some .boolean)) ({ frames := 0, cells := 0, slots := 0, locals := 0 } : Room)).room s m ([.ref (ad 30), .int a1] : List Value).toArray below meth c H locs 0 0 (MQ below (QI g (WC g ad sg ++ X) (dd_A 59 ad X s.heap.size) r0) ([.ref (ad 30), .int a1] : List Value).toArray s 0 0 (dd_A 59 ad X s.heap.size)) (F0 m 16 ls []) := by
    intro H locs ls hf hP hS hl
    unfold f_X5_isDriver_16 at hf
    refine lv_iconst (v := (0 : Int32)) hx hb dX5_isDriver_16 (by decide) ?_
    exact hL_17 (0 : Int32) _ _ _ hf hP hS (lv_sub hl [] rfl)
  unfold f_X5_isDriver at hf
  have hl := lv_entry ([.ref (ad 30), .int a1]) (n := 2) (Nat.le_of_ble_eq_true rfl)
  rw [lg_entry_eq]
  generalize (lg_sl ([.ref (ad 30), .int a1]) ++ List.replicate (2 - (lg_sl ([.ref (ad 30), .int a1])).length) Slot.unset).toArray = ls at hl ⊢
  have hl : lv_has ls 2 [(0, .ref (ad 30)), (1, .int a1)] := hl
  refine lv_iload_n hx hb dX5_isDriver_0 rfl (lv_at hl 1 rfl) ?_
  refine lv_if_lt (tgt := 16) hx hb dX5_isDriver_1 (by decide) (fun c1 => ?_) (fun c1 => ?_)
  · have hf := if_t c1 hf
    exact hL_16 _ _ _ hf hP hS (lv_sub hl [] rfl)
  · have hf := if_f c1 hf
    refine lv_iload_n hx hb dX5_isDriver_4 rfl (lv_at hl 1 rfl) ?_
    refine lv_aload_n hx hb dX5_isDriver_5 rfl (lv_at hl 0 rfl) ?_
    refine gf_X5_140 hx hb hts hown hK hP dX5_isDriver_6 ?_
    refine lv_icmp_ge (tgt := 16) hx hb dX5_isDriver_9 (by decide) (fun c2 => ?_) (fun c2 => ?_)
    · have hf := if_t c2 hf
      exact hL_16 _ _ _ hf hP hS (lv_sub hl [] rfl)
    · have hf := if_f c2 hf
      refine lv_iconst (v := (1 : Int32)) hx hb dX5_isDriver_12 (by decide) ?_
      refine lv_goto (tgt := 17) hx hb dX5_isDriver_13 (by decide) ?_
      exact hL_17 (1 : Int32) _ _ _ hf hP hS (lv_sub hl [] rfl)
set_option maxHeartbeats 4000000 in
set_option maxRecDepth 100000 in
theorem c_X5_dutyAt (l : Launch) (g : dd_G) (ad : Nat → Nat) (X : va_W) (sz : Nat) (sg : dd_S) (a1 : Int32) (r0 : Nat) (hf : f_X5_dutyAt sg a1 = some (r0)) : Met l yX5_dutyAt (lw_ws yX5_dutyAt cX5_dutyAt 3 (some (.object "DutyDesk$Duty"))) ({ frames := 0, cells := 0, slots := 0, locals := 0 } : Room) (va_Pc [.ref (ad 30), .int a1] (PreW g (WC g ad sg ++ X) sz)) (QR g (WC g ad sg ++ X) (dd_A 59 ad X sz) (ad r0)) 0 0 (dd_A 59 ad X sz) := by
  refine Met.ofW (cc := cX5_dutyAt) (maxL := 3) (ret := some (.object "DutyDesk$Duty")) (by decide) rfl ?_
  intro p e s m args below meth c s₁ B hml hv
  obtain ⟨rfl, rfl, hP, hK, hD0⟩ := hv
  have hx := B.exec
  have hb := B.bytes
  have hr := B.returns
  have hts := atoms_spec (ws := (lw_ws yX5_dutyAt cX5_dutyAt 3 (some (.object "DutyDesk$Duty")))) B.pre
  have hts : ∀ w ∈ lw_all, w.before _ s = true := fun w h => hts w (List.mem_cons_of_mem _ h)
  have hown : s.vm.findClass RX5 = some m.cls := findClass_of_methodNamed B.named
  have hlocks := B.notSynchronized
  have hD : ∀ s2 : dd_S, va_D (dd_A 59 ad X s.heap.size) (WC g ad s2 ++ X) := fun s2 => dd_D (dd_A_D hD0)
  have hS : va_S (dd_A 59 ad X s.heap.size) s.heap s.heap [] := va_S.rf
  have hL_26 : ∀ (kt0 : Nat) (hkt0 : kt0 < 15) (H : Heap) (locs : List Loc) (ls : Array Slot), f_X5_dutyAt_26 sg a1 kt0 = some (r0) → va_P g.1 vwCl (WC g ad sg ++ X) H → va_S (dd_A 59 ad X s.heap.size) s.heap H locs → lv_has ls 3 [] → W p l e (headSpec (lw_ws yX5_dutyAt cX5_dutyAt 3 (some (.object "DutyDesk$Duty"))) ({ frames := 0, cells := 0, slots := 0, locals := 0 } : Room)).room s m ([.ref (ad 30), .int a1] : List Value).toArray below meth c H locs 0 0 (MQ below (QR g (WC g ad sg ++ X) (dd_A 59 ad X s.heap.size) (ad r0)) ([.ref (ad 30), .int a1] : List Value).toArray s 0 0 (dd_A 59 ad X s.heap.size)) (F0 m 26 ls [.ref (ad kt0)]) := by
    intro kt0 hkt0 H locs ls hf hP hS hl
    unfold f_X5_dutyAt_26 at hf
    refine lv_astore_n (lv' := [(2, .ref (ad kt0))]) hx hb dX5_dutyAt_26 rfl hl (by decide) rfl (fun ls hl => ?_)
    refine lv_aload_n hx hb dX5_dutyAt_27 rfl (lv_at hl 0 rfl) ?_
    refine lv_ifnonnull (tgt := 38) hx hb dX5_dutyAt_28 (by decide) ?_
    refine lv_aload_n hx hb dX5_dutyAt_38 rfl (lv_at hl 0 rfl) ?_
    exact W.aret (v := .ref (ad kt0)) hx hb hr (Or.inl ⟨_, rfl⟩) (Or.inr ⟨_, rfl⟩) (fun t ht hW => ⟨⟨(), ad kt0, rfl, trivial, congrArg ad (so1 hf), P_at ht hP⟩, hS.F ht⟩) hS.2.2 dX5_dutyAt_39
  have hL_22 : ∀ (H : Heap) (locs : List Loc) (ls : Array Slot), f_X5_dutyAt_22 sg a1 = some (r0) → va_P g.1 vwCl (WC g ad sg ++ X) H → va_S (dd_A 59 ad X s.heap.size) s.heap H locs → lv_has ls 3 [(0, .ref (ad 30))] → W p l e (headSpec (lw_ws yX5_dutyAt cX5_dutyAt 3 (some (.object "DutyDesk$Duty"))) ({ frames := 0, cells := 0, slots := 0, locals := 0 } : Room)).room s m ([.ref (ad 30), .int a1] : List Value).toArray below meth c H locs 0 0 (MQ below (QR g (WC g ad sg ++ X) (dd_A 59 ad X s.heap.size) (ad r0)) ([.ref (ad 30), .int a1] : List Value).toArray s 0 0 (dd_A 59 ad X s.heap.size)) (F0 m 22 ls []) := by
    intro H locs ls hf hP hS hl
    unfold f_X5_dutyAt_22 at hf
    refine lv_aload_n hx hb dX5_dutyAt_22 rfl (lv_at hl 0 rfl) ?_
    refine gf_X5_60 hx hb hts hown hK hP dX5_dutyAt_23 ?_
    exact hL_26 14 (by decide) _ _ _ hf hP hS (lv_sub hl [] rfl)
  unfold f_X5_dutyAt at hf
  have hl := lv_entry ([.ref (ad 30), .int a1]) (n := 3) (Nat.le_of_ble_eq_true rfl)
  rw [lg_entry_eq]
  generalize (lg_sl ([.ref (ad 30), .int a1]) ++ List.replicate (3 - (lg_sl ([.ref (ad 30), .int a1])).length) Slot.unset).toArray = ls at hl ⊢
  have hl : lv_has ls 3 [(0, .ref (ad 30)), (1, .int a1)] := hl
  refine lv_iload_n hx hb dX5_dutyAt_0 rfl (lv_at hl 1 rfl) ?_
  refine lv_if_lt (tgt := 22) hx hb dX5_dutyAt_1 (by decide) (fun c1 => ?_) (fun c1 => ?_)
  · have hf := if_t c1 hf
    exact hL_22 _ _ _ hf hP hS (lv_sub hl [0] rfl)
  · have hf := if_f c1 hf
    refine lv_iload_n hx hb dX5_dutyAt_4 rfl (lv_at hl 1 rfl) ?_
    refine lv_aload_n hx hb dX5_dutyAt_5 rfl (lv_at hl 0 rfl) ?_
    refine gf_X5_25 hx hb hts hown hK hP dX5_dutyAt_6 ?_
    refine W_alen (v := (12 : Int32)) hx hb hK hP 33 (by decide) cc_33 1 rfl (by decide) dX5_dutyAt_9 ?_
    refine lv_icmp_ge (tgt := 22) hx hb dX5_dutyAt_10 (by decide) (fun c2 => ?_) (fun c2 => ?_)
    · have hf := if_t c2 hf
      exact hL_22 _ _ _ hf hP hS (lv_sub hl [0] rfl)
    · have hf := if_f c2 hf
      refine lv_aload_n hx hb dX5_dutyAt_13 rfl (lv_at hl 0 rfl) ?_
      refine gf_X5_25 hx hb hts hown hK hP dX5_dutyAt_14 ?_
      refine lv_iload_n hx hb dX5_dutyAt_17 rfl (lv_at hl 1 rfl) ?_
      obtain ⟨hi3, hf⟩ := gd_so hf
      refine W_aald (b := fun j => j) hx hb hK hP 33 (by decide) cc_33 1 rfl rfl (ix_in hi3) dX5_dutyAt_18 ?_
      refine lv_goto (tgt := 26) hx hb dX5_dutyAt_19 (by decide) ?_
      exact hL_26 a1.toNatClampNeg (ix_lt hi3 (by decide)) _ _ _ hf hP hS (lv_sub hl [] rfl)
set_option maxHeartbeats 4000000 in
set_option maxRecDepth 100000 in
theorem c_X5_dutyOf (l : Launch) (g : dd_G) (ad : Nat → Nat) (X : va_W) (sz : Nat) (sg : dd_S) (a1 : Int32) (r0 : Int32) (hf : f_X5_dutyOf sg a1 = some (r0)) : Met l yX5_dutyOf (lw_ws yX5_dutyOf cX5_dutyOf 2 (some .int)) ({ frames := 0, cells := 0, slots := 0, locals := 0 } : Room) (va_Pc [.ref (ad 30), .int a1] (PreW g (WC g ad sg ++ X) sz)) (QI g (WC g ad sg ++ X) (dd_A 59 ad X sz) r0) 0 0 (dd_A 59 ad X sz) := by
  refine Met.ofW (cc := cX5_dutyOf) (maxL := 2) (ret := some .int) (by decide) rfl ?_
  intro p e s m args below meth c s₁ B hml hv
  obtain ⟨rfl, rfl, hP, hK, hD0⟩ := hv
  have hx := B.exec
  have hb := B.bytes
  have hr := B.returns
  have hts := atoms_spec (ws := (lw_ws yX5_dutyOf cX5_dutyOf 2 (some .int))) B.pre
  have hts : ∀ w ∈ lw_all, w.before _ s = true := fun w h => hts w (List.mem_cons_of_mem _ h)
  have hown : s.vm.findClass RX5 = some m.cls := findClass_of_methodNamed B.named
  have hlocks := B.notSynchronized
  have hD : ∀ s2 : dd_S, va_D (dd_A 59 ad X s.heap.size) (WC g ad s2 ++ X) := fun s2 => dd_D (dd_A_D hD0)
  have hS : va_S (dd_A 59 ad X s.heap.size) s.heap s.heap [] := va_S.rf
  have hL_23 : ∀ (t0 : Int32) (H : Heap) (locs : List Loc) (ls : Array Slot), f_X5_dutyOf_23 sg a1 t0 = some (r0) → va_P g.1 vwCl (WC g ad sg ++ X) H → va_S (dd_A 59 ad X s.heap.size) s.heap H locs → lv_has ls 2 [] → W p l e (headSpec (lw_ws yX5_dutyOf cX5_dutyOf 2 (some .int)) ({ frames := 0, cells := 0, slots := 0, locals := 0 } : Room)).room s m ([.ref (ad 30), .int a1] : List Value).toArray below meth c H locs 0 0 (MQ below (QI g (WC g ad sg ++ X) (dd_A 59 ad X s.heap.size) r0) ([.ref (ad 30), .int a1] : List Value).toArray s 0 0 (dd_A 59 ad X s.heap.size)) (F0 m 23 ls [.int t0]) := by
    intro t0 H locs ls hf hP hS hl
    unfold f_X5_dutyOf_23 at hf
    exact W.iret (v := t0) hx hb hr (fun t ht hW => ⟨⟨t0, (), rfl, so1 hf, P_at ht hP⟩, hS.F ht⟩) hS.2.2 dX5_dutyOf_23
  have hL_22 : ∀ (H : Heap) (locs : List Loc) (ls : Array Slot), f_X5_dutyOf_22 sg a1 = some (r0) → va_P g.1 vwCl (WC g ad sg ++ X) H → va_S (dd_A 59 ad X s.heap.size) s.heap H locs → lv_has ls 2 [] → W p l e (headSpec (lw_ws yX5_dutyOf cX5_dutyOf 2 (some .int)) ({ frames := 0, cells := 0, slots := 0, locals := 0 } : Room)).room s m ([.ref (ad 30), .int a1] : List Value).toArray below meth c H locs 0 0 (MQ below (QI g (WC g ad sg ++ X) (dd_A 59 ad X s.heap.size) r0) ([.ref (ad 30), .int a1] : List Value).toArray s 0 0 (dd_A 59 ad X s.heap.size)) (F0 m 22 ls []) := by
    intro H locs ls hf hP hS hl
    unfold f_X5_dutyOf_22 at hf
    refine lv_iconst (v := (-1 : Int32)) hx hb dX5_dutyOf_22 (by decide) ?_
    exact hL_23 (-1 : Int32) _ _ _ hf hP hS (lv_sub hl [] rfl)
  unfold f_X5_dutyOf at hf
  have hl := lv_entry ([.ref (ad 30), .int a1]) (n := 2) (Nat.le_of_ble_eq_true rfl)
  rw [lg_entry_eq]
  generalize (lg_sl ([.ref (ad 30), .int a1]) ++ List.replicate (2 - (lg_sl ([.ref (ad 30), .int a1])).length) Slot.unset).toArray = ls at hl ⊢
  have hl : lv_has ls 2 [(0, .ref (ad 30)), (1, .int a1)] := hl
  refine lv_iload_n hx hb dX5_dutyOf_0 rfl (lv_at hl 1 rfl) ?_
  refine lv_if_lt (tgt := 22) hx hb dX5_dutyOf_1 (by decide) (fun c1 => ?_) (fun c1 => ?_)
  · have hf := if_t c1 hf
    exact hL_22 _ _ _ hf hP hS (lv_sub hl [] rfl)
  · have hf := if_f c1 hf
    refine lv_iload_n hx hb dX5_dutyOf_4 rfl (lv_at hl 1 rfl) ?_
    refine lv_aload_n hx hb dX5_dutyOf_5 rfl (lv_at hl 0 rfl) ?_
    refine gf_X5_29 hx hb hts hown hK hP dX5_dutyOf_6 ?_
    refine W_alen (v := (40 : Int32)) hx hb hK hP 34 (by decide) cc_34 0 rfl (by decide) dX5_dutyOf_9 ?_
    refine lv_icmp_ge (tgt := 22) hx hb dX5_dutyOf_10 (by decide) (fun c2 => ?_) (fun c2 => ?_)
    · have hf := if_t c2 hf
      exact hL_22 _ _ _ hf hP hS (lv_sub hl [] rfl)
    · have hf := if_f c2 hf
      refine lv_aload_n hx hb dX5_dutyOf_13 rfl (lv_at hl 0 rfl) ?_
      refine gf_X5_29 hx hb hts hown hK hP dX5_dutyOf_14 ?_
      refine lv_iload_n hx hb dX5_dutyOf_17 rfl (lv_at hl 1 rfl) ?_
      obtain ⟨hi3, hf⟩ := gd_so hf
      refine W_iald hx hb hK hP 34 (by decide) cc_34 (ix_in hi3) dX5_dutyOf_18 ?_
      refine lv_goto (tgt := 23) hx hb dX5_dutyOf_19 (by decide) ?_
      exact hL_23 (sg 34 a1.toNatClampNeg) _ _ _ hf hP hS (lv_sub hl [] rfl)
set_option maxHeartbeats 4000000 in
set_option maxRecDepth 100000 in
theorem c_X5_assign (l : Launch) (g : dd_G) (ad : Nat → Nat) (X : va_W) (sz : Nat) (sg : dd_S) (a1 : Int32) (a2 : Int32) (s0 : dd_S) (hf : f_X5_assign sg a1 a2 = some (s0)) : Met l yX5_assign (lw_ws yX5_assign cX5_assign 3 (none)) ({ frames := 0, cells := 0, slots := 0, locals := 0 } : Room) (va_Pc [.ref (ad 30), .int a1, .int a2] (PreW g (WC g ad sg ++ X) sz)) (QV g (WC g ad s0 ++ X) (dd_A 59 ad X sz)) 0 0 (dd_A 59 ad X sz) := by
  refine Met.ofW (cc := cX5_assign) (maxL := 3) (ret := none) (by decide) rfl ?_
  intro p e s m args below meth c s₁ B hml hv
  obtain ⟨rfl, rfl, hP, hK, hD0⟩ := hv
  have hx := B.exec
  have hb := B.bytes
  have hr := B.returns
  have hts := atoms_spec (ws := (lw_ws yX5_assign cX5_assign 3 (none))) B.pre
  have hts : ∀ w ∈ lw_all, w.before _ s = true := fun w h => hts w (List.mem_cons_of_mem _ h)
  have hown : s.vm.findClass RX5 = some m.cls := findClass_of_methodNamed B.named
  have hlocks := B.notSynchronized
  have hD : ∀ s2 : dd_S, va_D (dd_A 59 ad X s.heap.size) (WC g ad s2 ++ X) := fun s2 => dd_D (dd_A_D hD0)
  have hS : va_S (dd_A 59 ad X s.heap.size) s.heap s.heap [] := va_S.rf
  have hL_20 : ∀ (sg : dd_S) (H : Heap) (locs : List Loc) (ls : Array Slot), f_X5_assign_20 a1 a2 sg = some (s0) → va_P g.1 vwCl (WC g ad sg ++ X) H → va_S (dd_A 59 ad X s.heap.size) s.heap H locs → lv_has ls 3 [] → W p l e (headSpec (lw_ws yX5_assign cX5_assign 3 (none)) ({ frames := 0, cells := 0, slots := 0, locals := 0 } : Room)).room s m ([.ref (ad 30), .int a1, .int a2] : List Value).toArray below meth c H locs 0 0 (MQ below (QV g (WC g ad s0 ++ X) (dd_A 59 ad X s.heap.size)) ([.ref (ad 30), .int a1, .int a2] : List Value).toArray s 0 0 (dd_A 59 ad X s.heap.size)) (F0 m 20 ls []) := by
    intro sg H locs ls hf hP hS hl
    unfold f_X5_assign_20 at hf
    exact W.vret hx hb hr (fun t ht hW => ⟨⟨(), rfl, trivial, P_at2 (so1 hf) ht hP⟩, hS.F ht⟩) hS.2.2 dX5_assign_20
  unfold f_X5_assign at hf
  have hl := lv_entry ([.ref (ad 30), .int a1, .int a2]) (n := 3) (Nat.le_of_ble_eq_true rfl)
  rw [lg_entry_eq]
  generalize (lg_sl ([.ref (ad 30), .int a1, .int a2]) ++ List.replicate (3 - (lg_sl ([.ref (ad 30), .int a1, .int a2])).length) Slot.unset).toArray = ls at hl ⊢
  have hl : lv_has ls 3 [(0, .ref (ad 30)), (1, .int a1), (2, .int a2)] := hl
  refine lv_iload_n hx hb dX5_assign_0 rfl (lv_at hl 1 rfl) ?_
  refine lv_if_lt (tgt := 20) hx hb dX5_assign_1 (by decide) (fun c1 => ?_) (fun c1 => ?_)
  · have hf := if_t c1 hf
    exact hL_20 sg _ _ _ hf hP hS (lv_sub hl [] rfl)
  · have hf := if_f c1 hf
    refine lv_iload_n hx hb dX5_assign_4 rfl (lv_at hl 1 rfl) ?_
    refine lv_aload_n hx hb dX5_assign_5 rfl (lv_at hl 0 rfl) ?_
    refine gf_X5_29 hx hb hts hown hK hP dX5_assign_6 ?_
    refine W_alen (v := (40 : Int32)) hx hb hK hP 34 (by decide) cc_34 0 rfl (by decide) dX5_assign_9 ?_
    refine lv_icmp_ge (tgt := 20) hx hb dX5_assign_10 (by decide) (fun c2 => ?_) (fun c2 => ?_)
    · have hf := if_t c2 hf
      exact hL_20 sg _ _ _ hf hP hS (lv_sub hl [] rfl)
    · have hf := if_f c2 hf
      refine lv_aload_n hx hb dX5_assign_13 rfl (lv_at hl 0 rfl) ?_
      refine gf_X5_29 hx hb hts hown hK hP dX5_assign_14 ?_
      refine lv_iload_n hx hb dX5_assign_17 rfl (lv_at hl 1 rfl) ?_
      refine lv_iload_n hx hb dX5_assign_18 rfl (lv_at hl 2 rfl) ?_
      obtain ⟨hi3, hf⟩ := gd_so hf
      obtain ⟨sg4, esg4, hf⟩ := lt_ex hf
      refine W_iast hx hb hK hP hD hS 34 (by decide) (fun _ => cc_34) (ix_in hi3) dX5_assign_19 (fun H locs hP hS => ?_)
      rw [← esg4] at hP
      exact hL_20 sg4 _ _ _ hf hP hS (lv_sub hl [] rfl)
set_option maxHeartbeats 4000000 in
set_option maxRecDepth 100000 in
theorem c_X5_tripFact (l : Launch) (g : dd_G) (ad : Nat → Nat) (X : va_W) (sz : Nat) (sg : dd_S) (a1 : Int32) (a2 : Int32) (r0 : Int32) (hf : f_X5_tripFact sg a1 a2 = some (r0)) : Met l yX5_tripFact (lw_ws yX5_tripFact cX5_tripFact 3 (some .int)) ({ frames := 1, cells := 0, slots := 0, locals := 21 } : Room) (va_Pc [.ref (ad 30), .int a1, .int a2] (PreW g (WC g ad sg ++ X) sz)) (QI g (WC g ad sg ++ X) (dd_A 59 ad X sz) r0) 0 0 (dd_A 59 ad X sz) := by
  refine Met.ofW (cc := cX5_tripFact) (maxL := 3) (ret := some .int) (by decide) rfl ?_
  intro p e s m args below meth c s₁ B hml hv
  obtain ⟨rfl, rfl, hP, hK, hD0⟩ := hv
  have hx := B.exec
  have hb := B.bytes
  have hr := B.returns
  have hts := atoms_spec (ws := (lw_ws yX5_tripFact cX5_tripFact 3 (some .int))) B.pre
  have hts : ∀ w ∈ lw_all, w.before _ s = true := fun w h => hts w (List.mem_cons_of_mem _ h)
  have hown : s.vm.findClass RX5 = some m.cls := findClass_of_methodNamed B.named
  have hlocks := B.notSynchronized
  have hD : ∀ s2 : dd_S, va_D (dd_A 59 ad X s.heap.size) (WC g ad s2 ++ X) := fun s2 => dd_D (dd_A_D hD0)
  have hS : va_S (dd_A 59 ad X s.heap.size) s.heap s.heap [] := va_S.rf
  unfold f_X5_tripFact at hf
  have hl := lv_entry ([.ref (ad 30), .int a1, .int a2]) (n := 3) (Nat.le_of_ble_eq_true rfl)
  rw [lg_entry_eq]
  generalize (lg_sl ([.ref (ad 30), .int a1, .int a2]) ++ List.replicate (3 - (lg_sl ([.ref (ad 30), .int a1, .int a2])).length) Slot.unset).toArray = ls at hl ⊢
  have hl : lv_has ls 3 [(0, .ref (ad 30)), (1, .int a1), (2, .int a2)] := hl
  refine lv_iload_n hx hb dX5_tripFact_0 rfl (lv_at hl 2 rfl) ?_
  by_cases c1 : a2 = (0 : Int32)
  · have hf := if_t c1 hf
    refine lv_tableIn (tgt := 32) (off := 31) hx hb dX5_tripFact_1 (by rw [c1]; decide) (by rw [c1]; decide) (by rw [c1]; rfl) (by decide) ?_
    refine lv_aload_n hx hb dX5_tripFact_32 rfl (lv_at hl 0 rfl) ?_
    refine gf_X5_10 hx hb hts hown hK hP dX5_tripFact_33 ?_
    refine lv_iload_n hx hb dX5_tripFact_36 rfl (lv_at hl 1 rfl) ?_
    obtain ⟨r3, q2, hf⟩ := bd_so hf
    refine cl_i (va_runV (As := [.int a1]) (rest := []) ⟨hx, hb, hml, hown, hts⟩ (c_X4_fromOf l g ad X _ sg a1 r3 q2) (cwV 1 hts gl_X5_318 rfl rfl rfl yd_X4_fromOf ⟨Nat.le_of_ble_eq_true rfl, Nat.le_of_ble_eq_true rfl⟩) (preV_of hK hP (hD sg) (dd_at (by decide) cc_31) rfl) rfl rfl hl.1 rfl (lv_room (Nat.le_of_ble_eq_true rfl)) dX5_tripFact_37 ⟨Nat.le_of_ble_eq_true rfl, Nat.le_of_ble_eq_true rfl⟩) hS (fun q h => dd_A_mono hS.1 h) (fun q h => dd_A_mono hS.1 h) (fun H locs hP hS => ?_)
    exact W.iret (v := r3) hx hb hr (fun t ht hW => ⟨⟨r3, (), rfl, so1 hf, P_at ht hP⟩, hS.F ht⟩) hS.2.2 dX5_tripFact_40
  have hf := if_f c1 hf
  by_cases c4 : a2 = (1 : Int32)
  · have hf := if_t c4 hf
    refine lv_tableIn (tgt := 41) (off := 40) hx hb dX5_tripFact_1 (by rw [c4]; decide) (by rw [c4]; decide) (by rw [c4]; rfl) (by decide) ?_
    refine lv_aload_n hx hb dX5_tripFact_41 rfl (lv_at hl 0 rfl) ?_
    refine gf_X5_10 hx hb hts hown hK hP dX5_tripFact_42 ?_
    refine lv_iload_n hx hb dX5_tripFact_45 rfl (lv_at hl 1 rfl) ?_
    obtain ⟨r6, q5, hf⟩ := bd_so hf
    refine cl_i (va_runV (As := [.int a1]) (rest := []) ⟨hx, hb, hml, hown, hts⟩ (c_X4_toOf l g ad X _ sg a1 r6 q5) (cwV 1 hts gl_X5_321 rfl rfl rfl yd_X4_toOf ⟨Nat.le_of_ble_eq_true rfl, Nat.le_of_ble_eq_true rfl⟩) (preV_of hK hP (hD sg) (dd_at (by decide) cc_31) rfl) rfl rfl hl.1 rfl (lv_room (Nat.le_of_ble_eq_true rfl)) dX5_tripFact_46 ⟨Nat.le_of_ble_eq_true rfl, Nat.le_of_ble_eq_true rfl⟩) hS (fun q h => dd_A_mono hS.1 h) (fun q h => dd_A_mono hS.1 h) (fun H locs hP hS => ?_)
    exact W.iret (v := r6) hx hb hr (fun t ht hW => ⟨⟨r6, (), rfl, so1 hf, P_at ht hP⟩, hS.F ht⟩) hS.2.2 dX5_tripFact_49
  have hf := if_f c4 hf
  by_cases c7 : a2 = (2 : Int32)
  · have hf := if_t c7 hf
    refine lv_tableIn (tgt := 50) (off := 49) hx hb dX5_tripFact_1 (by rw [c7]; decide) (by rw [c7]; decide) (by rw [c7]; rfl) (by decide) ?_
    refine lv_aload_n hx hb dX5_tripFact_50 rfl (lv_at hl 0 rfl) ?_
    refine gf_X5_10 hx hb hts hown hK hP dX5_tripFact_51 ?_
    refine lv_iload_n hx hb dX5_tripFact_54 rfl (lv_at hl 1 rfl) ?_
    obtain ⟨r9, q8, hf⟩ := bd_so hf
    refine cl_i (va_runV (As := [.int a1]) (rest := []) ⟨hx, hb, hml, hown, hts⟩ (c_X4_departureOf l g ad X _ sg a1 r9 q8) (cwV 1 hts gl_X5_209 rfl rfl rfl yd_X4_departureOf ⟨Nat.le_of_ble_eq_true rfl, Nat.le_of_ble_eq_true rfl⟩) (preV_of hK hP (hD sg) (dd_at (by decide) cc_31) rfl) rfl rfl hl.1 rfl (lv_room (Nat.le_of_ble_eq_true rfl)) dX5_tripFact_55 ⟨Nat.le_of_ble_eq_true rfl, Nat.le_of_ble_eq_true rfl⟩) hS (fun q h => dd_A_mono hS.1 h) (fun q h => dd_A_mono hS.1 h) (fun H locs hP hS => ?_)
    exact W.iret (v := r9) hx hb hr (fun t ht hW => ⟨⟨r9, (), rfl, so1 hf, P_at ht hP⟩, hS.F ht⟩) hS.2.2 dX5_tripFact_58
  have hf := if_f c7 hf
  by_cases c10 : a2 = (3 : Int32)
  · have hf := if_t c10 hf
    refine lv_tableIn (tgt := 59) (off := 58) hx hb dX5_tripFact_1 (by rw [c10]; decide) (by rw [c10]; decide) (by rw [c10]; rfl) (by decide) ?_
    refine lv_aload_n hx hb dX5_tripFact_59 rfl (lv_at hl 0 rfl) ?_
    refine gf_X5_10 hx hb hts hown hK hP dX5_tripFact_60 ?_
    refine lv_iload_n hx hb dX5_tripFact_63 rfl (lv_at hl 1 rfl) ?_
    obtain ⟨r12, q11, hf⟩ := bd_so hf
    refine cl_i (va_runV (As := [.int a1]) (rest := []) ⟨hx, hb, hml, hown, hts⟩ (c_X4_arrivalOf l g ad X _ sg a1 r12 q11) (cwV 1 hts gl_X5_324 rfl rfl rfl yd_X4_arrivalOf ⟨Nat.le_of_ble_eq_true rfl, Nat.le_of_ble_eq_true rfl⟩) (preV_of hK hP (hD sg) (dd_at (by decide) cc_31) rfl) rfl rfl hl.1 rfl (lv_room (Nat.le_of_ble_eq_true rfl)) dX5_tripFact_64 ⟨Nat.le_of_ble_eq_true rfl, Nat.le_of_ble_eq_true rfl⟩) hS (fun q h => dd_A_mono hS.1 h) (fun q h => dd_A_mono hS.1 h) (fun H locs hP hS => ?_)
    exact W.iret (v := r12) hx hb hr (fun t ht hW => ⟨⟨r12, (), rfl, so1 hf, P_at ht hP⟩, hS.F ht⟩) hS.2.2 dX5_tripFact_67
  have hf := if_f c10 hf
  refine lv_tableOut (tgt := 68) hx hb dX5_tripFact_1 (dd_out (lo := 0) (hi := 3) (fun k h1 h2 => by rcases (show k = 0 ∨ k = 1 ∨ k = 2 ∨ k = 3 by omega) with h9 | h9 | h9 | h9 <;> subst h9 <;> first | exact lv_neT c1 (by decide) | exact lv_neT c4 (by decide) | exact lv_neT c7 (by decide) | exact lv_neT c10 (by decide))) (by decide) ?_
  refine lv_aload_n hx hb dX5_tripFact_68 rfl (lv_at hl 0 rfl) ?_
  refine lv_iload_n hx hb dX5_tripFact_69 rfl (lv_at hl 1 rfl) ?_
  obtain ⟨r14, q13, hf⟩ := bd_so hf
  refine cl_i (va_runV (As := [.int a1]) (rest := []) ⟨hx, hb, hml, hown, hts⟩ (c_X5_dutyOf l g ad X _ sg a1 r14 q13) (cwV 1 hts gl_X5_174 rfl rfl rfl yd_X5_dutyOf ⟨Nat.le_of_ble_eq_true rfl, Nat.le_of_ble_eq_true rfl⟩) (preV_of hK hP (hD sg) (dd_at (by decide) cc_30) rfl) rfl rfl hl.1 rfl (lv_room (Nat.le_of_ble_eq_true rfl)) dX5_tripFact_70 ⟨Nat.le_of_ble_eq_true rfl, Nat.le_of_ble_eq_true rfl⟩) hS (fun q h => dd_A_mono hS.1 h) (fun q h => dd_A_mono hS.1 h) (fun H locs hP hS => ?_)
  exact W.iret (v := r14) hx hb hr (fun t ht hW => ⟨⟨r14, (), rfl, so1 hf, P_at ht hP⟩, hS.F ht⟩) hS.2.2 dX5_tripFact_73
set_option maxHeartbeats 4000000 in
set_option maxRecDepth 100000 in
theorem c_X5_dutyOn (l : Launch) (g : dd_G) (ad : Nat → Nat) (X : va_W) (sz : Nat) (sg : dd_S) (a1 : Int32) (a2 : Int32) (r0 : Int32) (hf : f_X5_dutyOn sg a1 a2 = some (r0)) : Met l yX5_dutyOn (lw_ws yX5_dutyOn cX5_dutyOn 3 (some .int)) ({ frames := 0, cells := 0, slots := 0, locals := 0 } : Room) (va_Pc [.ref (ad 30), .int a1, .int a2] (PreW g (WC g ad sg ++ X) sz)) (QI g (WC g ad sg ++ X) (dd_A 59 ad X sz) r0) 0 0 (dd_A 59 ad X sz) := by
  refine Met.ofW (cc := cX5_dutyOn) (maxL := 3) (ret := some .int) (by decide) rfl ?_
  intro p e s m args below meth c s₁ B hml hv
  obtain ⟨rfl, rfl, hP, hK, hD0⟩ := hv
  have hx := B.exec
  have hb := B.bytes
  have hr := B.returns
  have hts := atoms_spec (ws := (lw_ws yX5_dutyOn cX5_dutyOn 3 (some .int))) B.pre
  have hts : ∀ w ∈ lw_all, w.before _ s = true := fun w h => hts w (List.mem_cons_of_mem _ h)
  have hown : s.vm.findClass RX5 = some m.cls := findClass_of_methodNamed B.named
  have hlocks := B.notSynchronized
  have hD : ∀ s2 : dd_S, va_D (dd_A 59 ad X s.heap.size) (WC g ad s2 ++ X) := fun s2 => dd_D (dd_A_D hD0)
  have hS : va_S (dd_A 59 ad X s.heap.size) s.heap s.heap [] := va_S.rf
  have hL_32 : ∀ (t0 : Int32) (H : Heap) (locs : List Loc) (ls : Array Slot), f_X5_dutyOn_32 sg a1 a2 t0 = some (r0) → va_P g.1 vwCl (WC g ad sg ++ X) H → va_S (dd_A 59 ad X s.heap.size) s.heap H locs → lv_has ls 3 [] → W p l e (headSpec (lw_ws yX5_dutyOn cX5_dutyOn 3 (some .int)) ({ frames := 0, cells := 0, slots := 0, locals := 0 } : Room)).room s m ([.ref (ad 30), .int a1, .int a2] : List Value).toArray below meth c H locs 0 0 (MQ below (QI g (WC g ad sg ++ X) (dd_A 59 ad X s.heap.size) r0) ([.ref (ad 30), .int a1, .int a2] : List Value).toArray s 0 0 (dd_A 59 ad X s.heap.size)) (F0 m 32 ls [.int t0]) := by
    intro t0 H locs ls hf hP hS hl
    unfold f_X5_dutyOn_32 at hf
    exact W.iret (v := t0) hx hb hr (fun t ht hW => ⟨⟨t0, (), rfl, so1 hf, P_at ht hP⟩, hS.F ht⟩) hS.2.2 dX5_dutyOn_32
  have hL_31 : ∀ (H : Heap) (locs : List Loc) (ls : Array Slot), f_X5_dutyOn_31 sg a1 a2 = some (r0) → va_P g.1 vwCl (WC g ad sg ++ X) H → va_S (dd_A 59 ad X s.heap.size) s.heap H locs → lv_has ls 3 [] → W p l e (headSpec (lw_ws yX5_dutyOn cX5_dutyOn 3 (some .int)) ({ frames := 0, cells := 0, slots := 0, locals := 0 } : Room)).room s m ([.ref (ad 30), .int a1, .int a2] : List Value).toArray below meth c H locs 0 0 (MQ below (QI g (WC g ad sg ++ X) (dd_A 59 ad X s.heap.size) r0) ([.ref (ad 30), .int a1, .int a2] : List Value).toArray s 0 0 (dd_A 59 ad X s.heap.size)) (F0 m 31 ls []) := by
    intro H locs ls hf hP hS hl
    unfold f_X5_dutyOn_31 at hf
    refine lv_iconst (v := (-1 : Int32)) hx hb dX5_dutyOn_31 (by decide) ?_
    exact hL_32 (-1 : Int32) _ _ _ hf hP hS (lv_sub hl [] rfl)
  unfold f_X5_dutyOn at hf
  have hl := lv_entry ([.ref (ad 30), .int a1, .int a2]) (n := 3) (Nat.le_of_ble_eq_true rfl)
  rw [lg_entry_eq]
  generalize (lg_sl ([.ref (ad 30), .int a1, .int a2]) ++ List.replicate (3 - (lg_sl ([.ref (ad 30), .int a1, .int a2])).length) Slot.unset).toArray = ls at hl ⊢
  have hl : lv_has ls 3 [(0, .ref (ad 30)), (1, .int a1), (2, .int a2)] := hl
  refine lv_iload_n hx hb dX5_dutyOn_0 rfl (lv_at hl 1 rfl) ?_
  refine lv_if_lt (tgt := 31) hx hb dX5_dutyOn_1 (by decide) (fun c1 => ?_) (fun c1 => ?_)
  · have hf := if_t c1 hf
    exact hL_31 _ _ _ hf hP hS (lv_sub hl [] rfl)
  · have hf := if_f c1 hf
    refine lv_iload_n hx hb dX5_dutyOn_4 rfl (lv_at hl 1 rfl) ?_
    refine lv_bipush (v := (8 : Int32)) hx hb dX5_dutyOn_5 (by decide) ?_
    refine lv_icmp_ge (tgt := 31) hx hb dX5_dutyOn_7 (by decide) (fun c2 => ?_) (fun c2 => ?_)
    · have hf := if_t c2 hf
      exact hL_31 _ _ _ hf hP hS (lv_sub hl [] rfl)
    · have hf := if_f c2 hf
      refine lv_iload_n hx hb dX5_dutyOn_10 rfl (lv_at hl 2 rfl) ?_
      refine lv_if_lt (tgt := 31) hx hb dX5_dutyOn_11 (by decide) (fun c3 => ?_) (fun c3 => ?_)
      · have hf := if_t c3 hf
        exact hL_31 _ _ _ hf hP hS (lv_sub hl [] rfl)
      · have hf := if_f c3 hf
        refine lv_iload_n hx hb dX5_dutyOn_14 rfl (lv_at hl 2 rfl) ?_
        refine lv_bipush (v := (7 : Int32)) hx hb dX5_dutyOn_15 (by decide) ?_
        refine lv_icmp_ge (tgt := 31) hx hb dX5_dutyOn_17 (by decide) (fun c4 => ?_) (fun c4 => ?_)
        · have hf := if_t c4 hf
          exact hL_31 _ _ _ hf hP hS (lv_sub hl [] rfl)
        · have hf := if_f c4 hf
          refine lv_aload_n hx hb dX5_dutyOn_20 rfl (lv_at hl 0 rfl) ?_
          refine gf_X5_35 hx hb hts hown hK hP dX5_dutyOn_21 ?_
          refine lv_iload_n hx hb dX5_dutyOn_24 rfl (lv_at hl 1 rfl) ?_
          obtain ⟨hi5, hf⟩ := gd_so hf
          refine W_aald (b := fun j => 45 + j) hx hb hK hP 35 (by decide) cc_35 2 rfl rfl (ix_in hi5) dX5_dutyOn_25 ?_
          refine lv_iload_n hx hb dX5_dutyOn_26 rfl (lv_at hl 2 rfl) ?_
          obtain ⟨hi6, hf⟩ := gd_so hf
          refine W_iald hx hb hK hP (45 + a1.toNatClampNeg) (by have := ix_lt (m := 8) hi5 (by decide); omega) (cc_roster (ix_lt hi5 (by decide))) (ix_in hi6) dX5_dutyOn_27 ?_
          refine lv_goto (tgt := 32) hx hb dX5_dutyOn_28 (by decide) ?_
          exact hL_32 (sg (45 + a1.toNatClampNeg) a2.toNatClampNeg) _ _ _ hf hP hS (lv_sub hl [] rfl)
set_option maxHeartbeats 4000000 in
set_option maxRecDepth 100000 in
theorem c_X5_enter (l : Launch) (g : dd_G) (ad : Nat → Nat) (X : va_W) (sz : Nat) (sg : dd_S) (a1 : Int32) (a2 : Int32) (a3 : Int32) (s0 : dd_S) (hf : f_X5_enter sg a1 a2 a3 = some (s0)) : Met l yX5_enter (lw_ws yX5_enter cX5_enter 4 (none)) ({ frames := 0, cells := 0, slots := 0, locals := 0 } : Room) (va_Pc [.ref (ad 30), .int a1, .int a2, .int a3] (PreW g (WC g ad sg ++ X) sz)) (QV g (WC g ad s0 ++ X) (dd_A 59 ad X sz)) 0 0 (dd_A 59 ad X sz) := by
  refine Met.ofW (cc := cX5_enter) (maxL := 4) (ret := none) (by decide) rfl ?_
  intro p e s m args below meth c s₁ B hml hv
  obtain ⟨rfl, rfl, hP, hK, hD0⟩ := hv
  have hx := B.exec
  have hb := B.bytes
  have hr := B.returns
  have hts := atoms_spec (ws := (lw_ws yX5_enter cX5_enter 4 (none))) B.pre
  have hts : ∀ w ∈ lw_all, w.before _ s = true := fun w h => hts w (List.mem_cons_of_mem _ h)
  have hown : s.vm.findClass RX5 = some m.cls := findClass_of_methodNamed B.named
  have hlocks := B.notSynchronized
  have hD : ∀ s2 : dd_S, va_D (dd_A 59 ad X s.heap.size) (WC g ad s2 ++ X) := fun s2 => dd_D (dd_A_D hD0)
  have hS : va_S (dd_A 59 ad X s.heap.size) s.heap s.heap [] := va_S.rf
  have hL_29 : ∀ (sg : dd_S) (H : Heap) (locs : List Loc) (ls : Array Slot), f_X5_enter_29 a1 a2 a3 sg = some (s0) → va_P g.1 vwCl (WC g ad sg ++ X) H → va_S (dd_A 59 ad X s.heap.size) s.heap H locs → lv_has ls 4 [] → W p l e (headSpec (lw_ws yX5_enter cX5_enter 4 (none)) ({ frames := 0, cells := 0, slots := 0, locals := 0 } : Room)).room s m ([.ref (ad 30), .int a1, .int a2, .int a3] : List Value).toArray below meth c H locs 0 0 (MQ below (QV g (WC g ad s0 ++ X) (dd_A 59 ad X s.heap.size)) ([.ref (ad 30), .int a1, .int a2, .int a3] : List Value).toArray s 0 0 (dd_A 59 ad X s.heap.size)) (F0 m 29 ls []) := by
    intro sg H locs ls hf hP hS hl
    unfold f_X5_enter_29 at hf
    exact W.vret hx hb hr (fun t ht hW => ⟨⟨(), rfl, trivial, P_at2 (so1 hf) ht hP⟩, hS.F ht⟩) hS.2.2 dX5_enter_29
  unfold f_X5_enter at hf
  have hl := lv_entry ([.ref (ad 30), .int a1, .int a2, .int a3]) (n := 4) (Nat.le_of_ble_eq_true rfl)
  rw [lg_entry_eq]
  generalize (lg_sl ([.ref (ad 30), .int a1, .int a2, .int a3]) ++ List.replicate (4 - (lg_sl ([.ref (ad 30), .int a1, .int a2, .int a3])).length) Slot.unset).toArray = ls at hl ⊢
  have hl : lv_has ls 4 [(0, .ref (ad 30)), (1, .int a1), (2, .int a2), (3, .int a3)] := hl
  refine lv_iload_n hx hb dX5_enter_0 rfl (lv_at hl 1 rfl) ?_
  refine lv_if_lt (tgt := 29) hx hb dX5_enter_1 (by decide) (fun c1 => ?_) (fun c1 => ?_)
  · have hf := if_t c1 hf
    exact hL_29 sg _ _ _ hf hP hS (lv_sub hl [] rfl)
  · have hf := if_f c1 hf
    refine lv_iload_n hx hb dX5_enter_4 rfl (lv_at hl 1 rfl) ?_
    refine lv_bipush (v := (8 : Int32)) hx hb dX5_enter_5 (by decide) ?_
    refine lv_icmp_ge (tgt := 29) hx hb dX5_enter_7 (by decide) (fun c2 => ?_) (fun c2 => ?_)
    · have hf := if_t c2 hf
      exact hL_29 sg _ _ _ hf hP hS (lv_sub hl [] rfl)
    · have hf := if_f c2 hf
      refine lv_iload_n hx hb dX5_enter_10 rfl (lv_at hl 2 rfl) ?_
      refine lv_if_lt (tgt := 29) hx hb dX5_enter_11 (by decide) (fun c3 => ?_) (fun c3 => ?_)
      · have hf := if_t c3 hf
        exact hL_29 sg _ _ _ hf hP hS (lv_sub hl [] rfl)
      · have hf := if_f c3 hf
        refine lv_iload_n hx hb dX5_enter_14 rfl (lv_at hl 2 rfl) ?_
        refine lv_bipush (v := (7 : Int32)) hx hb dX5_enter_15 (by decide) ?_
        refine lv_icmp_ge (tgt := 29) hx hb dX5_enter_17 (by decide) (fun c4 => ?_) (fun c4 => ?_)
        · have hf := if_t c4 hf
          exact hL_29 sg _ _ _ hf hP hS (lv_sub hl [] rfl)
        · have hf := if_f c4 hf
          refine lv_aload_n hx hb dX5_enter_20 rfl (lv_at hl 0 rfl) ?_
          refine gf_X5_35 hx hb hts hown hK hP dX5_enter_21 ?_
          refine lv_iload_n hx hb dX5_enter_24 rfl (lv_at hl 1 rfl) ?_
          obtain ⟨hi5, hf⟩ := gd_so hf
          refine W_aald (b := fun j => 45 + j) hx hb hK hP 35 (by decide) cc_35 2 rfl rfl (ix_in hi5) dX5_enter_25 ?_
          refine lv_iload_n hx hb dX5_enter_26 rfl (lv_at hl 2 rfl) ?_
          refine lv_iload_n hx hb dX5_enter_27 rfl (lv_at hl 3 rfl) ?_
          obtain ⟨hi6, hf⟩ := gd_so hf
          obtain ⟨sg7, esg7, hf⟩ := lt_ex hf
          refine W_iast hx hb hK hP hD hS (45 + a1.toNatClampNeg) (by have := ix_lt (m := 8) hi5 (by decide); omega) (fun _ => (cc_roster (ix_lt hi5 (by decide)))) (ix_in hi6) dX5_enter_28 (fun H locs hP hS => ?_)
          rw [← esg7] at hP
          exact hL_29 sg7 _ _ _ hf hP hS (lv_sub hl [] rfl)
set_option maxHeartbeats 4000000 in
set_option maxRecDepth 100000 in
theorem c_X5_isHadOn (l : Launch) (g : dd_G) (ad : Nat → Nat) (X : va_W) (sz : Nat) (sg : dd_S) (a1 : Int32) (a2 : Int32) (r0 : Int32) (hf : f_X5_isHadOn sg a1 a2 = some (r0)) : Met l yX5_isHadOn (lw_ws yX5_isHadOn cX5_isHadOn 4 (some .boolean)) ({ frames := 1, cells := 0, slots := 0, locals := 22 } : Room) (va_Pc [.ref (ad 30), .int a1, .int a2] (PreW g (WC g ad sg ++ X) sz)) (QI g (WC g ad sg ++ X) (dd_A 59 ad X sz) r0) 0 0 (dd_A 59 ad X sz) := by
  refine Met.ofW (cc := cX5_isHadOn) (maxL := 4) (ret := some .boolean) (by decide) rfl ?_
  intro p e s m args below meth c s₁ B hml hv
  obtain ⟨rfl, rfl, hP, hK, hD0⟩ := hv
  have hx := B.exec
  have hb := B.bytes
  have hr := B.returns
  have hts := atoms_spec (ws := (lw_ws yX5_isHadOn cX5_isHadOn 4 (some .boolean))) B.pre
  have hts : ∀ w ∈ lw_all, w.before _ s = true := fun w h => hts w (List.mem_cons_of_mem _ h)
  have hown : s.vm.findClass RX5 = some m.cls := findClass_of_methodNamed B.named
  have hlocks := B.notSynchronized
  have hD : ∀ s2 : dd_S, va_D (dd_A 59 ad X s.heap.size) (WC g ad s2 ++ X) := fun s2 => dd_D (dd_A_D hD0)
  have hS : va_S (dd_A 59 ad X s.heap.size) s.heap s.heap [] := va_S.rf
  have hL_2 : ∀ (n : Nat), ∀ (v3 : Int32) (H : Heap) (locs : List Loc) (ls : Array Slot), f_X5_isHadOn_2 sg a1 a2 n v3 = some (r0) → va_P g.1 vwCl (WC g ad sg ++ X) H → va_S (dd_A 59 ad X s.heap.size) s.heap H locs → lv_has ls 4 [(0, .ref (ad 30)), (1, .int a1), (2, .int a2), (3, .int v3)] → W p l e (headSpec (lw_ws yX5_isHadOn cX5_isHadOn 4 (some .boolean)) ({ frames := 1, cells := 0, slots := 0, locals := 22 } : Room)).room s m ([.ref (ad 30), .int a1, .int a2] : List Value).toArray below meth c H locs 0 0 (MQ below (QI g (WC g ad sg ++ X) (dd_A 59 ad X s.heap.size) r0) ([.ref (ad 30), .int a1, .int a2] : List Value).toArray s 0 0 (dd_A 59 ad X s.heap.size)) (F0 m 2 ls []) := by
    intro n
    induction n with
    | zero =>
      intro v3 H locs ls hf
      rw [f_X5_isHadOn_2] at hf
      cases hf
    | succ n ih =>
      intro v3 H locs ls hf hP hS hl
      rw [f_X5_isHadOn_2] at hf
      refine lv_iload_n hx hb dX5_isHadOn_2 rfl (lv_at hl 3 rfl) ?_
      refine lv_aload_n hx hb dX5_isHadOn_3 rfl (lv_at hl 0 rfl) ?_
      refine gf_X5_140 hx hb hts hown hK hP dX5_isHadOn_4 ?_
      refine lv_icmp_ge (tgt := 28) hx hb dX5_isHadOn_7 (by decide) (fun c1 => ?_) (fun c1 => ?_)
      · have hf := if_t c1 hf
        refine lv_iconst (v := (0 : Int32)) hx hb dX5_isHadOn_28 (by decide) ?_
        exact W.zret (v := (0 : Int32)) hx hb hr rfl (fun t ht hW => ⟨⟨(0 : Int32), (), rfl, so1 hf, P_at ht hP⟩, hS.F ht⟩) hS.2.2 dX5_isHadOn_29
      · have hf := if_f c1 hf
        refine lv_aload_n hx hb dX5_isHadOn_10 rfl (lv_at hl 0 rfl) ?_
        refine lv_iload_n hx hb dX5_isHadOn_11 rfl (lv_at hl 3 rfl) ?_
        refine lv_iload_n hx hb dX5_isHadOn_12 rfl (lv_at hl 2 rfl) ?_
        obtain ⟨r3, q2, hf⟩ := bd_so hf
        refine cl_i (va_runV (As := [.int v3, .int a2]) (rest := []) ⟨hx, hb, hml, hown, hts⟩ (c_X5_dutyOn l g ad X _ sg v3 a2 r3 q2) (cwV 2 hts gl_X5_288 rfl rfl rfl yd_X5_dutyOn ⟨Nat.le_of_ble_eq_true rfl, Nat.le_of_ble_eq_true rfl⟩) (preV_of hK hP (hD sg) (dd_at (by decide) cc_30) rfl) rfl rfl hl.1 rfl (lv_room (Nat.le_of_ble_eq_true rfl)) dX5_isHadOn_13 ⟨Nat.le_of_ble_eq_true rfl, Nat.le_of_ble_eq_true rfl⟩) hS (fun q h => dd_A_mono hS.1 h) (fun q h => dd_A_mono hS.1 h) (fun H locs hP hS => ?_)
        refine lv_iload_n hx hb dX5_isHadOn_16 rfl (lv_at hl 1 rfl) ?_
        refine lv_icmp_ne (tgt := 22) hx hb dX5_isHadOn_17 (by decide) (fun c4 => ?_) (fun c4 => ?_)
        · have hf := if_f c4 hf
          obtain ⟨x5, ex5, hf⟩ := lt_ex hf
          refine lv_iinc (v := x5) (lv' := [(3, .int x5), (0, .ref (ad 30)), (1, .int a1), (2, .int a2)]) hx hb dX5_isHadOn_22 hl (k := 3) rfl (by rw [ex5]; rfl) (by decide) rfl (fun ls hl => ?_)
          refine lv_goto (tgt := 2) hx hb dX5_isHadOn_25 (by decide) ?_
          exact ih x5 _ _ _ hf hP hS (lv_sub hl [1, 2, 3, 0] rfl)
        · have hf := if_t c4 hf
          refine lv_iconst (v := (1 : Int32)) hx hb dX5_isHadOn_20 (by decide) ?_
          exact W.zret (v := (1 : Int32)) hx hb hr rfl (fun t ht hW => ⟨⟨(1 : Int32), (), rfl, so1 hf, P_at ht hP⟩, hS.F ht⟩) hS.2.2 dX5_isHadOn_21
  unfold f_X5_isHadOn at hf
  have hl := lv_entry ([.ref (ad 30), .int a1, .int a2]) (n := 4) (Nat.le_of_ble_eq_true rfl)
  rw [lg_entry_eq]
  generalize (lg_sl ([.ref (ad 30), .int a1, .int a2]) ++ List.replicate (4 - (lg_sl ([.ref (ad 30), .int a1, .int a2])).length) Slot.unset).toArray = ls at hl ⊢
  have hl : lv_has ls 4 [(0, .ref (ad 30)), (1, .int a1), (2, .int a2)] := hl
  refine lv_iconst (v := (0 : Int32)) hx hb dX5_isHadOn_0 (by decide) ?_
  refine lv_istore_n (lv' := [(3, .int (0 : Int32)), (0, .ref (ad 30)), (1, .int a1), (2, .int a2)]) hx hb dX5_isHadOn_1 rfl hl (by decide) rfl (fun ls hl => ?_)
  exact hL_2 64 (0 : Int32) _ _ _ hf hP hS (lv_sub hl [1, 2, 3, 0] rfl)
set_option maxHeartbeats 4000000 in
set_option maxRecDepth 100000 in
theorem c_X5_isFixed (l : Launch) (g : dd_G) (ad : Nat → Nat) (X : va_W) (sz : Nat) (sg : dd_S) (a1 : Int32) (r0 : Int32) (hf : f_X5_isFixed sg a1 = some (r0)) : Met l yX5_isFixed (lw_ws yX5_isFixed cX5_isFixed 3 (some .boolean)) ({ frames := 2, cells := 0, slots := 0, locals := 45 } : Room) (va_Pc [.ref (ad 30), .int a1] (PreW g (WC g ad sg ++ X) sz)) (QI g (WC g ad sg ++ X) (dd_A 59 ad X sz) r0) 0 0 (dd_A 59 ad X sz) := by
  refine Met.ofW (cc := cX5_isFixed) (maxL := 3) (ret := some .boolean) (by decide) rfl ?_
  intro p e s m args below meth c s₁ B hml hv
  obtain ⟨rfl, rfl, hP, hK, hD0⟩ := hv
  have hx := B.exec
  have hb := B.bytes
  have hr := B.returns
  have hts := atoms_spec (ws := (lw_ws yX5_isFixed cX5_isFixed 3 (some .boolean))) B.pre
  have hts : ∀ w ∈ lw_all, w.before _ s = true := fun w h => hts w (List.mem_cons_of_mem _ h)
  have hown : s.vm.findClass RX5 = some m.cls := findClass_of_methodNamed B.named
  have hlocks := B.notSynchronized
  have hD : ∀ s2 : dd_S, va_D (dd_A 59 ad X s.heap.size) (WC g ad s2 ++ X) := fun s2 => dd_D (dd_A_D hD0)
  have hS : va_S (dd_A 59 ad X s.heap.size) s.heap s.heap [] := va_S.rf
  have hL_2 : ∀ (n : Nat), ∀ (v2 : Int32) (H : Heap) (locs : List Loc) (ls : Array Slot), f_X5_isFixed_2 sg a1 n v2 = some (r0) → va_P g.1 vwCl (WC g ad sg ++ X) H → va_S (dd_A 59 ad X s.heap.size) s.heap H locs → lv_has ls 3 [(0, .ref (ad 30)), (1, .int a1), (2, .int v2)] → W p l e (headSpec (lw_ws yX5_isFixed cX5_isFixed 3 (some .boolean)) ({ frames := 2, cells := 0, slots := 0, locals := 45 } : Room)).room s m ([.ref (ad 30), .int a1] : List Value).toArray below meth c H locs 0 0 (MQ below (QI g (WC g ad sg ++ X) (dd_A 59 ad X s.heap.size) r0) ([.ref (ad 30), .int a1] : List Value).toArray s 0 0 (dd_A 59 ad X s.heap.size)) (F0 m 2 ls []) := by
    intro n
    induction n with
    | zero =>
      intro v2 H locs ls hf
      rw [f_X5_isFixed_2] at hf
      cases hf
    | succ n ih =>
      intro v2 H locs ls hf hP hS hl
      rw [f_X5_isFixed_2] at hf
      refine lv_iload_n hx hb dX5_isFixed_2 rfl (lv_at hl 2 rfl) ?_
      refine lv_bipush (v := (7 : Int32)) hx hb dX5_isFixed_3 (by decide) ?_
      refine lv_icmp_ge (tgt := 25) hx hb dX5_isFixed_5 (by decide) (fun c1 => ?_) (fun c1 => ?_)
      · have hf := if_t c1 hf
        refine lv_iconst (v := (0 : Int32)) hx hb dX5_isFixed_25 (by decide) ?_
        exact W.zret (v := (0 : Int32)) hx hb hr rfl (fun t ht hW => ⟨⟨(0 : Int32), (), rfl, so1 hf, P_at ht hP⟩, hS.F ht⟩) hS.2.2 dX5_isFixed_26
      · have hf := if_f c1 hf
        refine lv_aload_n hx hb dX5_isFixed_8 rfl (lv_at hl 0 rfl) ?_
        refine lv_iload_n hx hb dX5_isFixed_9 rfl (lv_at hl 1 rfl) ?_
        refine lv_iload_n hx hb dX5_isFixed_10 rfl (lv_at hl 2 rfl) ?_
        obtain ⟨r3, q2, hf⟩ := bd_so hf
        refine cl_i (va_runV (As := [.int a1, .int v2]) (rest := []) ⟨hx, hb, hml, hown, hts⟩ (c_X5_isHadOn l g ad X _ sg a1 v2 r3 q2) (cwV 2 hts gl_X5_365 rfl rfl rfl yd_X5_isHadOn ⟨Nat.le_of_ble_eq_true rfl, Nat.le_of_ble_eq_true rfl⟩) (preV_of hK hP (hD sg) (dd_at (by decide) cc_30) rfl) rfl rfl hl.1 rfl (lv_room (Nat.le_of_ble_eq_true rfl)) dX5_isFixed_11 ⟨Nat.le_of_ble_eq_true rfl, Nat.le_of_ble_eq_true rfl⟩) hS (fun q h => dd_A_mono hS.1 h) (fun q h => dd_A_mono hS.1 h) (fun H locs hP hS => ?_)
        refine lv_if_eq (tgt := 19) hx hb dX5_isFixed_14 (by decide) (fun c4 => ?_) (fun c4 => ?_)
        · have hf := if_t c4 hf
          obtain ⟨x5, ex5, hf⟩ := lt_ex hf
          refine lv_iinc (v := x5) (lv' := [(2, .int x5), (0, .ref (ad 30)), (1, .int a1)]) hx hb dX5_isFixed_19 hl (k := 2) rfl (by rw [ex5]; rfl) (by decide) rfl (fun ls hl => ?_)
          refine lv_goto (tgt := 2) hx hb dX5_isFixed_22 (by decide) ?_
          exact ih x5 _ _ _ hf hP hS (lv_sub hl [1, 2, 0] rfl)
        · have hf := if_f c4 hf
          refine lv_iconst (v := (1 : Int32)) hx hb dX5_isFixed_17 (by decide) ?_
          exact W.zret (v := (1 : Int32)) hx hb hr rfl (fun t ht hW => ⟨⟨(1 : Int32), (), rfl, so1 hf, P_at ht hP⟩, hS.F ht⟩) hS.2.2 dX5_isFixed_18
  unfold f_X5_isFixed at hf
  have hl := lv_entry ([.ref (ad 30), .int a1]) (n := 3) (Nat.le_of_ble_eq_true rfl)
  rw [lg_entry_eq]
  generalize (lg_sl ([.ref (ad 30), .int a1]) ++ List.replicate (3 - (lg_sl ([.ref (ad 30), .int a1])).length) Slot.unset).toArray = ls at hl ⊢
  have hl : lv_has ls 3 [(0, .ref (ad 30)), (1, .int a1)] := hl
  refine lv_iconst (v := (0 : Int32)) hx hb dX5_isFixed_0 (by decide) ?_
  refine lv_istore_n (lv' := [(2, .int (0 : Int32)), (0, .ref (ad 30)), (1, .int a1)]) hx hb dX5_isFixed_1 rfl hl (by decide) rfl (fun ls hl => ?_)
  exact hL_2 64 (0 : Int32) _ _ _ hf hP hS (lv_sub hl [1, 2, 0] rfl)
set_option maxHeartbeats 4000000 in
set_option maxRecDepth 100000 in
theorem c_X5_dutyFact (l : Launch) (g : dd_G) (ad : Nat → Nat) (X : va_W) (sz : Nat) (sg : dd_S) (a1 : Int32) (a2 : Int32) (r0 : Int32) (hf : f_X5_dutyFact sg a1 a2 = some (r0)) : Met l yX5_dutyFact (lw_ws yX5_dutyFact cX5_dutyFact 4 (some .int)) ({ frames := 3, cells := 0, slots := 0, locals := 67 } : Room) (va_Pc [.ref (ad 30), .int a1, .int a2] (PreW g (WC g ad sg ++ X) sz)) (QI g (WC g ad sg ++ X) (dd_A 59 ad X sz) r0) 0 0 (dd_A 59 ad X sz) := by
  refine Met.ofW (cc := cX5_dutyFact) (maxL := 4) (ret := some .int) (by decide) rfl ?_
  intro p e s m args below meth c s₁ B hml hv
  obtain ⟨rfl, rfl, hP, hK, hD0⟩ := hv
  have hx := B.exec
  have hb := B.bytes
  have hr := B.returns
  have hts := atoms_spec (ws := (lw_ws yX5_dutyFact cX5_dutyFact 4 (some .int))) B.pre
  have hts : ∀ w ∈ lw_all, w.before _ s = true := fun w h => hts w (List.mem_cons_of_mem _ h)
  have hown : s.vm.findClass RX5 = some m.cls := findClass_of_methodNamed B.named
  have hlocks := B.notSynchronized
  have hD : ∀ s2 : dd_S, va_D (dd_A 59 ad X s.heap.size) (WC g ad s2 ++ X) := fun s2 => dd_D (dd_A_D hD0)
  have hS : va_S (dd_A 59 ad X s.heap.size) s.heap s.heap [] := va_S.rf
  have hL_99 : ∀ (t0 : Int32) (H : Heap) (locs : List Loc) (ls : Array Slot), f_X5_dutyFact_99 sg a1 a2 t0 = some (r0) → va_P g.1 vwCl (WC g ad sg ++ X) H → va_S (dd_A 59 ad X s.heap.size) s.heap H locs → lv_has ls 4 [] → W p l e (headSpec (lw_ws yX5_dutyFact cX5_dutyFact 4 (some .int)) ({ frames := 3, cells := 0, slots := 0, locals := 67 } : Room)).room s m ([.ref (ad 30), .int a1, .int a2] : List Value).toArray below meth c H locs 0 0 (MQ below (QI g (WC g ad sg ++ X) (dd_A 59 ad X s.heap.size) r0) ([.ref (ad 30), .int a1, .int a2] : List Value).toArray s 0 0 (dd_A 59 ad X s.heap.size)) (F0 m 99 ls [.int t0]) := by
    intro t0 H locs ls hf hP hS hl
    unfold f_X5_dutyFact_99 at hf
    exact W.iret (v := t0) hx hb hr (fun t ht hW => ⟨⟨t0, (), rfl, so1 hf, P_at ht hP⟩, hS.F ht⟩) hS.2.2 dX5_dutyFact_99
  have hL_113 : ∀ (t0 : Int32) (H : Heap) (locs : List Loc) (ls : Array Slot), f_X5_dutyFact_113 sg a1 a2 t0 = some (r0) → va_P g.1 vwCl (WC g ad sg ++ X) H → va_S (dd_A 59 ad X s.heap.size) s.heap H locs → lv_has ls 4 [] → W p l e (headSpec (lw_ws yX5_dutyFact cX5_dutyFact 4 (some .int)) ({ frames := 3, cells := 0, slots := 0, locals := 67 } : Room)).room s m ([.ref (ad 30), .int a1, .int a2] : List Value).toArray below meth c H locs 0 0 (MQ below (QI g (WC g ad sg ++ X) (dd_A 59 ad X s.heap.size) r0) ([.ref (ad 30), .int a1, .int a2] : List Value).toArray s 0 0 (dd_A 59 ad X s.heap.size)) (F0 m 113 ls [.int t0]) := by
    intro t0 H locs ls hf hP hS hl
    unfold f_X5_dutyFact_113 at hf
    exact W.iret (v := t0) hx hb hr (fun t ht hW => ⟨⟨t0, (), rfl, so1 hf, P_at ht hP⟩, hS.F ht⟩) hS.2.2 dX5_dutyFact_113
  unfold f_X5_dutyFact at hf
  have hl := lv_entry ([.ref (ad 30), .int a1, .int a2]) (n := 4) (Nat.le_of_ble_eq_true rfl)
  rw [lg_entry_eq]
  generalize (lg_sl ([.ref (ad 30), .int a1, .int a2]) ++ List.replicate (4 - (lg_sl ([.ref (ad 30), .int a1, .int a2])).length) Slot.unset).toArray = ls at hl ⊢
  have hl : lv_has ls 4 [(0, .ref (ad 30)), (1, .int a1), (2, .int a2)] := hl
  refine lv_aload_n hx hb dX5_dutyFact_0 rfl (lv_at hl 0 rfl) ?_
  refine lv_iload_n hx hb dX5_dutyFact_1 rfl (lv_at hl 1 rfl) ?_
  obtain ⟨r2, q1, hf⟩ := bd_so hf
  refine cl_r (va_runV (As := [.int a1]) (rest := []) ⟨hx, hb, hml, hown, hts⟩ (c_X5_dutyAt l g ad X _ sg a1 r2 q1) (cwV 1 hts gl_X5_164 rfl rfl rfl yd_X5_dutyAt ⟨Nat.le_of_ble_eq_true rfl, Nat.le_of_ble_eq_true rfl⟩) (preV_of hK hP (hD sg) (dd_at (by decide) cc_30) rfl) rfl rfl hl.1 rfl (lv_room (Nat.le_of_ble_eq_true rfl)) dX5_dutyFact_2 ⟨Nat.le_of_ble_eq_true rfl, Nat.le_of_ble_eq_true rfl⟩) hS (fun q h => dd_A_mono hS.1 h) (fun q h => dd_A_mono hS.1 h) (fun H locs hP hS => ?_)
  have hr2 := lt_X5_dutyAt q1
  refine lv_astore_n (lv' := [(3, .ref (ad r2)), (0, .ref (ad 30)), (1, .int a1), (2, .int a2)]) hx hb dX5_dutyFact_5 rfl hl (by decide) rfl (fun ls hl => ?_)
  refine lv_iload_n hx hb dX5_dutyFact_6 rfl (lv_at hl 3 rfl) ?_
  by_cases c3 : a2 = (0 : Int32)
  · have hf := if_t c3 hf
    refine lv_tableIn (tgt := 52) (off := 45) hx hb dX5_dutyFact_7 (by rw [c3]; decide) (by rw [c3]; decide) (by rw [c3]; rfl) (by decide) ?_
    refine lv_aload_n hx hb dX5_dutyFact_52 rfl (lv_at hl 0 rfl) ?_
    refine gf_X5_197 hx hb hts hown hK hP hr2 dX5_dutyFact_53 ?_
    exact W.iret (v := (sg r2 1)) hx hb hr (fun t ht hW => ⟨⟨(sg r2 1), (), rfl, so1 hf, P_at ht hP⟩, hS.F ht⟩) hS.2.2 dX5_dutyFact_56
  have hf := if_f c3 hf
  by_cases c4 : a2 = (1 : Int32)
  · have hf := if_t c4 hf
    refine lv_tableIn (tgt := 57) (off := 50) hx hb dX5_dutyFact_7 (by rw [c4]; decide) (by rw [c4]; decide) (by rw [c4]; rfl) (by decide) ?_
    refine lv_aload_n hx hb dX5_dutyFact_57 rfl (lv_at hl 0 rfl) ?_
    refine gf_X5_298 hx hb hts hown hK hP hr2 dX5_dutyFact_58 ?_
    exact W.iret (v := (sg r2 2)) hx hb hr (fun t ht hW => ⟨⟨(sg r2 2), (), rfl, so1 hf, P_at ht hP⟩, hS.F ht⟩) hS.2.2 dX5_dutyFact_61
  have hf := if_f c4 hf
  by_cases c5 : a2 = (2 : Int32)
  · have hf := if_t c5 hf
    refine lv_tableIn (tgt := 62) (off := 55) hx hb dX5_dutyFact_7 (by rw [c5]; decide) (by rw [c5]; decide) (by rw [c5]; rfl) (by decide) ?_
    refine lv_aload_n hx hb dX5_dutyFact_62 rfl (lv_at hl 0 rfl) ?_
    refine gf_X5_327 hx hb hts hown hK hP hr2 dX5_dutyFact_63 ?_
    exact W.iret (v := (sg r2 3)) hx hb hr (fun t ht hW => ⟨⟨(sg r2 3), (), rfl, so1 hf, P_at ht hP⟩, hS.F ht⟩) hS.2.2 dX5_dutyFact_66
  have hf := if_f c5 hf
  by_cases c6 : a2 = (3 : Int32)
  · have hf := if_t c6 hf
    refine lv_tableIn (tgt := 67) (off := 60) hx hb dX5_dutyFact_7 (by rw [c6]; decide) (by rw [c6]; decide) (by rw [c6]; rfl) (by decide) ?_
    refine lv_aload_n hx hb dX5_dutyFact_67 rfl (lv_at hl 0 rfl) ?_
    refine gf_X5_261 hx hb hts hown hK hP hr2 dX5_dutyFact_68 ?_
    exact W.iret (v := (sg r2 4)) hx hb hr (fun t ht hW => ⟨⟨(sg r2 4), (), rfl, so1 hf, P_at ht hP⟩, hS.F ht⟩) hS.2.2 dX5_dutyFact_71
  have hf := if_f c6 hf
  by_cases c7 : a2 = (4 : Int32)
  · have hf := if_t c7 hf
    refine lv_tableIn (tgt := 72) (off := 65) hx hb dX5_dutyFact_7 (by rw [c7]; decide) (by rw [c7]; decide) (by rw [c7]; rfl) (by decide) ?_
    refine lv_aload_n hx hb dX5_dutyFact_72 rfl (lv_at hl 0 rfl) ?_
    refine gf_X5_255 hx hb hts hown hK hP hr2 dX5_dutyFact_73 ?_
    exact W.iret (v := (sg r2 5)) hx hb hr (fun t ht hW => ⟨⟨(sg r2 5), (), rfl, so1 hf, P_at ht hP⟩, hS.F ht⟩) hS.2.2 dX5_dutyFact_76
  have hf := if_f c7 hf
  by_cases c8 : a2 = (5 : Int32)
  · have hf := if_t c8 hf
    refine lv_tableIn (tgt := 77) (off := 70) hx hb dX5_dutyFact_7 (by rw [c8]; decide) (by rw [c8]; decide) (by rw [c8]; rfl) (by decide) ?_
    refine lv_aload_n hx hb dX5_dutyFact_77 rfl (lv_at hl 0 rfl) ?_
    refine gf_X5_330 hx hb hts hown hK hP hr2 dX5_dutyFact_78 ?_
    exact W.iret (v := (sg r2 6)) hx hb hr (fun t ht hW => ⟨⟨(sg r2 6), (), rfl, so1 hf, P_at ht hP⟩, hS.F ht⟩) hS.2.2 dX5_dutyFact_81
  have hf := if_f c8 hf
  by_cases c9 : a2 = (6 : Int32)
  · have hf := if_t c9 hf
    refine lv_tableIn (tgt := 82) (off := 75) hx hb dX5_dutyFact_7 (by rw [c9]; decide) (by rw [c9]; decide) (by rw [c9]; rfl) (by decide) ?_
    refine lv_aload_n hx hb dX5_dutyFact_82 rfl (lv_at hl 0 rfl) ?_
    refine gf_X5_333 hx hb hts hown hK hP hr2 dX5_dutyFact_83 ?_
    exact W.iret (v := (sg r2 7)) hx hb hr (fun t ht hW => ⟨⟨(sg r2 7), (), rfl, so1 hf, P_at ht hP⟩, hS.F ht⟩) hS.2.2 dX5_dutyFact_86
  have hf := if_f c9 hf
  by_cases c10 : a2 = (7 : Int32)
  · have hf := if_t c10 hf
    refine lv_tableIn (tgt := 87) (off := 80) hx hb dX5_dutyFact_7 (by rw [c10]; decide) (by rw [c10]; decide) (by rw [c10]; rfl) (by decide) ?_
    refine lv_aload_n hx hb dX5_dutyFact_87 rfl (lv_at hl 0 rfl) ?_
    refine gf_X5_336 hx hb hts hown hK hP hr2 dX5_dutyFact_88 ?_
    refine lv_if_eq (tgt := 98) hx hb dX5_dutyFact_91 (by decide) (fun c11 => ?_) (fun c11 => ?_)
    · have hf := if_t c11 hf
      refine lv_iconst (v := (0 : Int32)) hx hb dX5_dutyFact_98 (by decide) ?_
      exact hL_99 (0 : Int32) _ _ _ hf hP hS (lv_sub hl [] rfl)
    · have hf := if_f c11 hf
      refine lv_iconst (v := (1 : Int32)) hx hb dX5_dutyFact_94 (by decide) ?_
      refine lv_goto (tgt := 99) hx hb dX5_dutyFact_95 (by decide) ?_
      exact hL_99 (1 : Int32) _ _ _ hf hP hS (lv_sub hl [] rfl)
  have hf := if_f c10 hf
  refine lv_tableOut (tgt := 100) hx hb dX5_dutyFact_7 (dd_out (lo := 0) (hi := 7) (fun k h1 h2 => by rcases (show k = 0 ∨ k = 1 ∨ k = 2 ∨ k = 3 ∨ k = 4 ∨ k = 5 ∨ k = 6 ∨ k = 7 by omega) with h9 | h9 | h9 | h9 | h9 | h9 | h9 | h9 <;> subst h9 <;> first | exact lv_neT c3 (by decide) | exact lv_neT c4 (by decide) | exact lv_neT c5 (by decide) | exact lv_neT c6 (by decide) | exact lv_neT c7 (by decide) | exact lv_neT c8 (by decide) | exact lv_neT c9 (by decide) | exact lv_neT c10 (by decide))) (by decide) ?_
  refine lv_aload_n hx hb dX5_dutyFact_100 rfl (lv_at hl 1 rfl) ?_
  refine lv_iload_n hx hb dX5_dutyFact_101 rfl (lv_at hl 2 rfl) ?_
  obtain ⟨r13, q12, hf⟩ := bd_so hf
  refine cl_i (va_runV (As := [.int a1]) (rest := []) ⟨hx, hb, hml, hown, hts⟩ (c_X5_isFixed l g ad X _ sg a1 r13 q12) (cwV 1 hts gl_X5_177 rfl rfl rfl yd_X5_isFixed ⟨Nat.le_of_ble_eq_true rfl, Nat.le_of_ble_eq_true rfl⟩) (preV_of hK hP (hD sg) (dd_at (by decide) cc_30) rfl) rfl rfl hl.1 rfl (lv_room (Nat.le_of_ble_eq_true rfl)) dX5_dutyFact_102 ⟨Nat.le_of_ble_eq_true rfl, Nat.le_of_ble_eq_true rfl⟩) hS (fun q h => dd_A_mono hS.1 h) (fun q h => dd_A_mono hS.1 h) (fun H locs hP hS => ?_)
  refine lv_if_eq (tgt := 112) hx hb dX5_dutyFact_105 (by decide) (fun c14 => ?_) (fun c14 => ?_)
  · have hf := if_t c14 hf
    refine lv_iconst (v := (0 : Int32)) hx hb dX5_dutyFact_112 (by decide) ?_
    exact hL_113 (0 : Int32) _ _ _ hf hP hS (lv_sub hl [] rfl)
  · have hf := if_f c14 hf
    refine lv_iconst (v := (1 : Int32)) hx hb dX5_dutyFact_108 (by decide) ?_
    refine lv_goto (tgt := 113) hx hb dX5_dutyFact_109 (by decide) ?_
    exact hL_113 (1 : Int32) _ _ _ hf hP hS (lv_sub hl [] rfl)
set_option maxHeartbeats 4000000 in
set_option maxRecDepth 100000 in
theorem c_X5_freeTrips (l : Launch) (g : dd_G) (ad : Nat → Nat) (X : va_W) (sz : Nat) (sg : dd_S) (r0 : Int32) (hf : f_X5_freeTrips sg = some (r0)) : Met l yX5_freeTrips (lw_ws yX5_freeTrips cX5_freeTrips 3 (some .int)) ({ frames := 1, cells := 0, slots := 0, locals := 21 } : Room) (va_Pc [.ref (ad 30)] (PreW g (WC g ad sg ++ X) sz)) (QI g (WC g ad sg ++ X) (dd_A 59 ad X sz) r0) 0 0 (dd_A 59 ad X sz) := by
  refine Met.ofW (cc := cX5_freeTrips) (maxL := 3) (ret := some .int) (by decide) rfl ?_
  intro p e s m args below meth c s₁ B hml hv
  obtain ⟨rfl, rfl, hP, hK, hD0⟩ := hv
  have hx := B.exec
  have hb := B.bytes
  have hr := B.returns
  have hts := atoms_spec (ws := (lw_ws yX5_freeTrips cX5_freeTrips 3 (some .int))) B.pre
  have hts : ∀ w ∈ lw_all, w.before _ s = true := fun w h => hts w (List.mem_cons_of_mem _ h)
  have hown : s.vm.findClass RX5 = some m.cls := findClass_of_methodNamed B.named
  have hlocks := B.notSynchronized
  have hD : ∀ s2 : dd_S, va_D (dd_A 59 ad X s.heap.size) (WC g ad s2 ++ X) := fun s2 => dd_D (dd_A_D hD0)
  have hS : va_S (dd_A 59 ad X s.heap.size) s.heap s.heap [] := va_S.rf
  have hL_27 : ∀ (k_4 : Int32 → Int32 → Option (Int32)) (hk_4 : ∀ (v1 : Int32) (v2 : Int32) (H : Heap) (locs : List Loc) (ls : Array Slot), k_4 v1 v2 = some (r0) → va_P g.1 vwCl (WC g ad sg ++ X) H → va_S (dd_A 59 ad X s.heap.size) s.heap H locs → lv_has ls 3 [(0, .ref (ad 30)), (1, .int v1), (2, .int v2)] → W p l e (headSpec (lw_ws yX5_freeTrips cX5_freeTrips 3 (some .int)) ({ frames := 1, cells := 0, slots := 0, locals := 21 } : Room)).room s m ([.ref (ad 30)] : List Value).toArray below meth c H locs 0 0 (MQ below (QI g (WC g ad sg ++ X) (dd_A 59 ad X s.heap.size) r0) ([.ref (ad 30)] : List Value).toArray s 0 0 (dd_A 59 ad X s.heap.size)) (F0 m 4 ls [])), ∀ (v1 : Int32) (v2 : Int32) (H : Heap) (locs : List Loc) (ls : Array Slot), f_X5_freeTrips_27 sg k_4 v1 v2 = some (r0) → va_P g.1 vwCl (WC g ad sg ++ X) H → va_S (dd_A 59 ad X s.heap.size) s.heap H locs → lv_has ls 3 [(0, .ref (ad 30)), (1, .int v1), (2, .int v2)] → W p l e (headSpec (lw_ws yX5_freeTrips cX5_freeTrips 3 (some .int)) ({ frames := 1, cells := 0, slots := 0, locals := 21 } : Room)).room s m ([.ref (ad 30)] : List Value).toArray below meth c H locs 0 0 (MQ below (QI g (WC g ad sg ++ X) (dd_A 59 ad X s.heap.size) r0) ([.ref (ad 30)] : List Value).toArray s 0 0 (dd_A 59 ad X s.heap.size)) (F0 m 27 ls []) := by
    intro k_4 hk_4 v1 v2 H locs ls hf hP hS hl
    unfold f_X5_freeTrips_27 at hf
    obtain ⟨x6, ex6, hf⟩ := lt_ex hf
    refine lv_iinc (v := x6) (lv' := [(2, .int x6), (0, .ref (ad 30)), (1, .int v1)]) hx hb dX5_freeTrips_27 hl (k := 2) rfl (by rw [ex6]; rfl) (by decide) rfl (fun ls hl => ?_)
    refine lv_goto (tgt := 4) hx hb dX5_freeTrips_30 (by decide) ?_
    exact hk_4 v1 x6 _ _ _ hf hP hS (lv_sub hl [1, 2, 0] rfl)
  have hL_4 : ∀ (n : Nat), ∀ (v1 : Int32) (v2 : Int32) (H : Heap) (locs : List Loc) (ls : Array Slot), f_X5_freeTrips_4 sg n v1 v2 = some (r0) → va_P g.1 vwCl (WC g ad sg ++ X) H → va_S (dd_A 59 ad X s.heap.size) s.heap H locs → lv_has ls 3 [(0, .ref (ad 30)), (1, .int v1), (2, .int v2)] → W p l e (headSpec (lw_ws yX5_freeTrips cX5_freeTrips 3 (some .int)) ({ frames := 1, cells := 0, slots := 0, locals := 21 } : Room)).room s m ([.ref (ad 30)] : List Value).toArray below meth c H locs 0 0 (MQ below (QI g (WC g ad sg ++ X) (dd_A 59 ad X s.heap.size) r0) ([.ref (ad 30)] : List Value).toArray s 0 0 (dd_A 59 ad X s.heap.size)) (F0 m 4 ls []) := by
    intro n
    induction n with
    | zero =>
      intro v1 v2 H locs ls hf
      rw [f_X5_freeTrips_4] at hf
      cases hf
    | succ n ih =>
      intro v1 v2 H locs ls hf hP hS hl
      rw [f_X5_freeTrips_4] at hf
      refine lv_iload_n hx hb dX5_freeTrips_4 rfl (lv_at hl 2 rfl) ?_
      refine lv_aload_n hx hb dX5_freeTrips_5 rfl (lv_at hl 0 rfl) ?_
      refine gf_X5_10 hx hb hts hown hK hP dX5_freeTrips_6 ?_
      refine gf_X5_96 hx hb hts hown hK hP dX5_freeTrips_9 ?_
      refine lv_icmp_ge (tgt := 33) hx hb dX5_freeTrips_12 (by decide) (fun c1 => ?_) (fun c1 => ?_)
      · have hf := if_t c1 hf
        refine lv_iload_n hx hb dX5_freeTrips_33 rfl (lv_at hl 1 rfl) ?_
        exact W.iret (v := v1) hx hb hr (fun t ht hW => ⟨⟨v1, (), rfl, so1 hf, P_at ht hP⟩, hS.F ht⟩) hS.2.2 dX5_freeTrips_34
      · have hf := if_f c1 hf
        refine lv_aload_n hx hb dX5_freeTrips_15 rfl (lv_at hl 0 rfl) ?_
        refine lv_iload_n hx hb dX5_freeTrips_16 rfl (lv_at hl 2 rfl) ?_
        obtain ⟨r3, q2, hf⟩ := bd_so hf
        refine cl_i (va_runV (As := [.int v2]) (rest := []) ⟨hx, hb, hml, hown, hts⟩ (c_X5_dutyOf l g ad X _ sg v2 r3 q2) (cwV 1 hts gl_X5_174 rfl rfl rfl yd_X5_dutyOf ⟨Nat.le_of_ble_eq_true rfl, Nat.le_of_ble_eq_true rfl⟩) (preV_of hK hP (hD sg) (dd_at (by decide) cc_30) rfl) rfl rfl hl.1 rfl (lv_room (Nat.le_of_ble_eq_true rfl)) dX5_freeTrips_17 ⟨Nat.le_of_ble_eq_true rfl, Nat.le_of_ble_eq_true rfl⟩) hS (fun q h => dd_A_mono hS.1 h) (fun q h => dd_A_mono hS.1 h) (fun H locs hP hS => ?_)
        refine lv_iconst (v := (-1 : Int32)) hx hb dX5_freeTrips_20 (by decide) ?_
        refine lv_icmp_ne (tgt := 27) hx hb dX5_freeTrips_21 (by decide) (fun c4 => ?_) (fun c4 => ?_)
        · have hf := if_f c4 hf
          exact hL_27 (fun z0 z1 => f_X5_freeTrips_4 sg n z0 z1) ih v1 v2 _ _ _ hf hP hS (lv_sub hl [0, 1, 2] rfl)
        · have hf := if_t c4 hf
          obtain ⟨x5, ex5, hf⟩ := lt_ex hf
          refine lv_iinc (v := x5) (lv' := [(1, .int x5), (0, .ref (ad 30)), (2, .int v2)]) hx hb dX5_freeTrips_24 hl (k := 1) rfl (by rw [ex5]; rfl) (by decide) rfl (fun ls hl => ?_)
          exact hL_27 (fun z0 z1 => f_X5_freeTrips_4 sg n z0 z1) ih x5 v2 _ _ _ hf hP hS (lv_sub hl [1, 0, 2] rfl)
  unfold f_X5_freeTrips at hf
  have hl := lv_entry ([.ref (ad 30)]) (n := 3) (Nat.le_of_ble_eq_true rfl)
  rw [lg_entry_eq]
  generalize (lg_sl ([.ref (ad 30)]) ++ List.replicate (3 - (lg_sl ([.ref (ad 30)])).length) Slot.unset).toArray = ls at hl ⊢
  have hl : lv_has ls 3 [(0, .ref (ad 30))] := hl
  refine lv_iconst (v := (0 : Int32)) hx hb dX5_freeTrips_0 (by decide) ?_
  refine lv_istore_n (lv' := [(1, .int (0 : Int32)), (0, .ref (ad 30))]) hx hb dX5_freeTrips_1 rfl hl (by decide) rfl (fun ls hl => ?_)
  refine lv_iconst (v := (0 : Int32)) hx hb dX5_freeTrips_2 (by decide) ?_
  refine lv_istore_n (lv' := [(2, .int (0 : Int32)), (1, .int (0 : Int32)), (0, .ref (ad 30))]) hx hb dX5_freeTrips_3 rfl hl (by decide) rfl (fun ls hl => ?_)
  exact hL_4 64 (0 : Int32) (0 : Int32) _ _ _ hf hP hS (lv_sub hl [2, 1, 0] rfl)
set_option maxHeartbeats 4000000 in
set_option maxRecDepth 100000 in
theorem c_X5_tryPut (l : Launch) (g : dd_G) (ad : Nat → Nat) (X : va_W) (sz : Nat) (sg : dd_S) (a1 : Int32) (a2 : Int32) (r0 : Int32) (s0 : dd_S) (hf : f_X5_tryPut sg a1 a2 = some (r0, s0)) : Met l yX5_tryPut (lw_ws yX5_tryPut cX5_tryPut 3 (some .boolean)) ({ frames := 3, cells := 0, slots := 0, locals := 72 } : Room) (va_Pc [.ref (ad 30), .int a1, .int a2] (PreW g (WC g ad sg ++ X) sz)) (QI g (WC g ad s0 ++ X) (dd_A 59 ad X sz) r0) 0 0 (dd_A 59 ad X sz) := by
  refine Met.ofW (cc := cX5_tryPut) (maxL := 3) (ret := some .boolean) (by decide) rfl ?_
  intro p e s m args below meth c s₁ B hml hv
  obtain ⟨rfl, rfl, hP, hK, hD0⟩ := hv
  have hx := B.exec
  have hb := B.bytes
  have hr := B.returns
  have hts := atoms_spec (ws := (lw_ws yX5_tryPut cX5_tryPut 3 (some .boolean))) B.pre
  have hts : ∀ w ∈ lw_all, w.before _ s = true := fun w h => hts w (List.mem_cons_of_mem _ h)
  have hown : s.vm.findClass RX5 = some m.cls := findClass_of_methodNamed B.named
  have hlocks := B.notSynchronized
  have hD : ∀ s2 : dd_S, va_D (dd_A 59 ad X s.heap.size) (WC g ad s2 ++ X) := fun s2 => dd_D (dd_A_D hD0)
  have hS : va_S (dd_A 59 ad X s.heap.size) s.heap s.heap [] := va_S.rf
  have hL_17 : ∀ (sg : dd_S) (H : Heap) (locs : List Loc) (ls : Array Slot), f_X5_tryPut_17 a1 a2 sg = some (r0, s0) → va_P g.1 vwCl (WC g ad sg ++ X) H → va_S (dd_A 59 ad X s.heap.size) s.heap H locs → lv_has ls 3 [] → W p l e (headSpec (lw_ws yX5_tryPut cX5_tryPut 3 (some .boolean)) ({ frames := 3, cells := 0, slots := 0, locals := 72 } : Room)).room s m ([.ref (ad 30), .int a1, .int a2] : List Value).toArray below meth c H locs 0 0 (MQ below (QI g (WC g ad s0 ++ X) (dd_A 59 ad X s.heap.size) r0) ([.ref (ad 30), .int a1, .int a2] : List Value).toArray s 0 0 (dd_A 59 ad X s.heap.size)) (F0 m 17 ls []) := by
    intro sg H locs ls hf hP hS hl
    unfold f_X5_tryPut_17 at hf
    refine lv_iconst (v := (0 : Int32)) hx hb dX5_tryPut_17 (by decide) ?_
    exact W.zret (v := (0 : Int32)) hx hb hr rfl (fun t ht hW => ⟨⟨(0 : Int32), (), rfl, (so2 hf).1, P_at2 (so2 hf).2 ht hP⟩, hS.F ht⟩) hS.2.2 dX5_tryPut_18
  unfold f_X5_tryPut at hf
  have hl := lv_entry ([.ref (ad 30), .int a1, .int a2]) (n := 3) (Nat.le_of_ble_eq_true rfl)
  rw [lg_entry_eq]
  generalize (lg_sl ([.ref (ad 30), .int a1, .int a2]) ++ List.replicate (3 - (lg_sl ([.ref (ad 30), .int a1, .int a2])).length) Slot.unset).toArray = ls at hl ⊢
  have hl : lv_has ls 3 [(0, .ref (ad 30)), (1, .int a1), (2, .int a2)] := hl
  refine lv_aload_n hx hb dX5_tryPut_0 rfl (lv_at hl 0 rfl) ?_
  refine lv_iload_n hx hb dX5_tryPut_1 rfl (lv_at hl 2 rfl) ?_
  obtain ⟨r2, q1, hf⟩ := bd_so hf
  refine cl_i (va_runV (As := [.int a2]) (rest := []) ⟨hx, hb, hml, hown, hts⟩ (c_X5_dutyOf l g ad X _ sg a2 r2 q1) (cwV 1 hts gl_X5_174 rfl rfl rfl yd_X5_dutyOf ⟨Nat.le_of_ble_eq_true rfl, Nat.le_of_ble_eq_true rfl⟩) (preV_of hK hP (hD sg) (dd_at (by decide) cc_30) rfl) rfl rfl hl.1 rfl (lv_room (Nat.le_of_ble_eq_true rfl)) dX5_tryPut_2 ⟨Nat.le_of_ble_eq_true rfl, Nat.le_of_ble_eq_true rfl⟩) hS (fun q h => dd_A_mono hS.1 h) (fun q h => dd_A_mono hS.1 h) (fun H locs hP hS => ?_)
  refine lv_iconst (v := (-1 : Int32)) hx hb dX5_tryPut_5 (by decide) ?_
  refine lv_icmp_ne (tgt := 17) hx hb dX5_tryPut_6 (by decide) (fun c3 => ?_) (fun c3 => ?_)
  · have hf := if_f c3 hf
    exact hL_17 sg _ _ _ hf hP hS (lv_sub hl [] rfl)
  · have hf := if_t c3 hf
    refine lv_aload_n hx hb dX5_tryPut_9 rfl (lv_at hl 0 rfl) ?_
    refine lv_iload_n hx hb dX5_tryPut_10 rfl (lv_at hl 1 rfl) ?_
    obtain ⟨r5, q4, hf⟩ := bd_so hf
    refine cl_i (va_runV (As := [.int a1]) (rest := []) ⟨hx, hb, hml, hown, hts⟩ (c_X5_isFixed l g ad X _ sg a1 r5 q4) (cwV 1 hts gl_X5_177 rfl rfl rfl yd_X5_isFixed ⟨Nat.le_of_ble_eq_true rfl, Nat.le_of_ble_eq_true rfl⟩) (preV_of hK hP (hD sg) (dd_at (by decide) cc_30) rfl) rfl rfl hl.1 rfl (lv_room (Nat.le_of_ble_eq_true rfl)) dX5_tryPut_11 ⟨Nat.le_of_ble_eq_true rfl, Nat.le_of_ble_eq_true rfl⟩) hS (fun q h => dd_A_mono hS.1 h) (fun q h => dd_A_mono hS.1 h) (fun H locs hP hS => ?_)
    refine lv_if_eq (tgt := 19) hx hb dX5_tryPut_14 (by decide) (fun c6 => ?_) (fun c6 => ?_)
    · have hf := if_t c6 hf
      refine lv_aload_n hx hb dX5_tryPut_19 rfl (lv_at hl 0 rfl) ?_
      refine gf_X5_39 hx hb hts hown hK hP dX5_tryPut_20 ?_
      refine lv_aload_n hx hb dX5_tryPut_23 rfl (lv_at hl 0 rfl) ?_
      refine lv_iload_n hx hb dX5_tryPut_24 rfl (lv_at hl 1 rfl) ?_
      obtain ⟨r8, q7, hf⟩ := bd_so hf
      refine cl_r (va_runV (As := [.int a1]) (rest := [.ref (ad 12)]) ⟨hx, hb, hml, hown, hts⟩ (c_X5_dutyAt l g ad X _ sg a1 r8 q7) (cwV 1 hts gl_X5_164 rfl rfl rfl yd_X5_dutyAt ⟨Nat.le_of_ble_eq_true rfl, Nat.le_of_ble_eq_true rfl⟩) (preV_of hK hP (hD sg) (dd_at (by decide) cc_30) rfl) rfl rfl hl.1 rfl (lv_room (Nat.le_of_ble_eq_true rfl)) dX5_tryPut_25 ⟨Nat.le_of_ble_eq_true rfl, Nat.le_of_ble_eq_true rfl⟩) hS (fun q h => dd_A_mono hS.1 h) (fun q h => dd_A_mono hS.1 h) (fun H locs hP hS => ?_)
      have hr8 := lt_X5_dutyAt q7
      obtain ⟨sg10, q9, hf⟩ := bd_so hf
      refine cl_v (va_runV (As := [.ref (ad r8)]) (rest := []) ⟨hx, hb, hml, hown, hts⟩ (c_X0_copy l g ad X _ sg 12 r8 (by decide) hr8 sg10 q9) (cwV 1 hts gl_X5_185 rfl rfl rfl yd_X0_copy ⟨Nat.le_of_ble_eq_true rfl, Nat.le_of_ble_eq_true rfl⟩) (preV_of hK hP (hD sg) (dd_at (by decide) (cc_duty (by decide))) rfl) rfl rfl hl.1 rfl (lv_room (Nat.le_of_ble_eq_true rfl)) dX5_tryPut_28 ⟨Nat.le_of_ble_eq_true rfl, Nat.le_of_ble_eq_true rfl⟩) hS (fun q h => dd_A_mono hS.1 h) (fun q h => dd_A_mono hS.1 h) (fun H locs hP hS => ?_)
      refine lv_aload_n hx hb dX5_tryPut_31 rfl (lv_at hl 0 rfl) ?_
      refine gf_X5_39 hx hb hts hown hK hP dX5_tryPut_32 ?_
      refine lv_iload_n hx hb dX5_tryPut_35 rfl (lv_at hl 2 rfl) ?_
      refine lv_aload_n hx hb dX5_tryPut_36 rfl (lv_at hl 0 rfl) ?_
      refine gf_X5_10 hx hb hts hown hK hP dX5_tryPut_37 ?_
      obtain ⟨r13, sg12, q11, hf⟩ := bd2_so hf
      refine cl_i (va_runV (As := [.int a2, .ref (ad 31)]) (rest := []) ⟨hx, hb, hml, hown, hts⟩ (c_X0_insert l g ad X _ sg10 12 a2 (by decide) r13 sg12 q11) (cwV 2 hts gl_X5_344 rfl rfl rfl yd_X0_insert ⟨Nat.le_of_ble_eq_true rfl, Nat.le_of_ble_eq_true rfl⟩) (preV_of hK hP (hD sg10) (dd_at (by decide) (cc_duty (by decide))) rfl) rfl rfl hl.1 rfl (lv_room (Nat.le_of_ble_eq_true rfl)) dX5_tryPut_40 ⟨Nat.le_of_ble_eq_true rfl, Nat.le_of_ble_eq_true rfl⟩) hS (fun q h => dd_A_mono hS.1 h) (fun q h => dd_A_mono hS.1 h) (fun H locs hP hS => ?_)
      refine lv_if_ne (tgt := 48) hx hb dX5_tryPut_43 (by decide) (fun c14 => ?_) (fun c14 => ?_)
      · have hf := if_f c14 hf
        refine lv_aload_n hx hb dX5_tryPut_48 rfl (lv_at hl 0 rfl) ?_
        refine gf_X5_39 hx hb hts hown hK hP dX5_tryPut_49 ?_
        refine lv_aload_n hx hb dX5_tryPut_52 rfl (lv_at hl 0 rfl) ?_
        refine gf_X5_10 hx hb hts hown hK hP dX5_tryPut_53 ?_
        refine lv_aload_n hx hb dX5_tryPut_56 rfl (lv_at hl 0 rfl) ?_
        refine gf_X5_19 hx hb hts hown hK hP dX5_tryPut_57 ?_
        obtain ⟨sg16, q15, hf⟩ := bd_so hf
        refine cl_v (va_runV (As := [.ref (ad 31), .ref (ad 32)]) (rest := []) ⟨hx, hb, hml, hown, hts⟩ (c_X0_measure l g ad X _ sg12 12 (by decide) sg16 q15) (cwV 2 hts gl_X5_340 rfl rfl rfl yd_X0_measure ⟨Nat.le_of_ble_eq_true rfl, Nat.le_of_ble_eq_true rfl⟩) (preV_of hK hP (hD sg12) (dd_at (by decide) (cc_duty (by decide))) rfl) rfl rfl hl.1 rfl (lv_room (Nat.le_of_ble_eq_true rfl)) dX5_tryPut_60 ⟨Nat.le_of_ble_eq_true rfl, Nat.le_of_ble_eq_true rfl⟩) hS (fun q h => dd_A_mono hS.1 h) (fun q h => dd_A_mono hS.1 h) (fun H locs hP hS => ?_)
        refine lv_aload_n hx hb dX5_tryPut_63 rfl (lv_at hl 0 rfl) ?_
        refine gf_X5_39 hx hb hts hown hK hP dX5_tryPut_64 ?_
        refine gf_X5_336 hx hb hts hown hK hP (by decide) dX5_tryPut_67 ?_
        obtain ⟨hz17, hf⟩ := gd_so hf
        exact W.zret (v := (sg16 12 8)) hx hb hr (bz_z hz17) (fun t ht hW => ⟨⟨(sg16 12 8), (), rfl, (so2 hf).1, P_at2 (so2 hf).2 ht hP⟩, hS.F ht⟩) hS.2.2 dX5_tryPut_70
      · have hf := if_t c14 hf
        refine lv_iconst (v := (0 : Int32)) hx hb dX5_tryPut_46 (by decide) ?_
        exact W.zret (v := (0 : Int32)) hx hb hr rfl (fun t ht hW => ⟨⟨(0 : Int32), (), rfl, (so2 hf).1, P_at2 (so2 hf).2 ht hP⟩, hS.F ht⟩) hS.2.2 dX5_tryPut_47
    · have hf := if_f c6 hf
      exact hL_17 sg _ _ _ hf hP hS (lv_sub hl [] rfl)
set_option maxHeartbeats 4000000 in
set_option maxRecDepth 100000 in
theorem c_X5_keepPut (l : Launch) (g : dd_G) (ad : Nat → Nat) (X : va_W) (sz : Nat) (sg : dd_S) (a1 : Int32) (a2 : Int32) (s0 : dd_S) (hf : f_X5_keepPut sg a1 a2 = some (s0)) : Met l yX5_keepPut (lw_ws yX5_keepPut cX5_keepPut 3 (none)) ({ frames := 2, cells := 0, slots := 0, locals := 43 } : Room) (va_Pc [.ref (ad 30), .int a1, .int a2] (PreW g (WC g ad sg ++ X) sz)) (QV g (WC g ad s0 ++ X) (dd_A 59 ad X sz)) 0 0 (dd_A 59 ad X sz) := by
  refine Met.ofW (cc := cX5_keepPut) (maxL := 3) (ret := none) (by decide) rfl ?_
  intro p e s m args below meth c s₁ B hml hv
  obtain ⟨rfl, rfl, hP, hK, hD0⟩ := hv
  have hx := B.exec
  have hb := B.bytes
  have hr := B.returns
  have hts := atoms_spec (ws := (lw_ws yX5_keepPut cX5_keepPut 3 (none))) B.pre
  have hts : ∀ w ∈ lw_all, w.before _ s = true := fun w h => hts w (List.mem_cons_of_mem _ h)
  have hown : s.vm.findClass RX5 = some m.cls := findClass_of_methodNamed B.named
  have hlocks := B.notSynchronized
  have hD : ∀ s2 : dd_S, va_D (dd_A 59 ad X s.heap.size) (WC g ad s2 ++ X) := fun s2 => dd_D (dd_A_D hD0)
  have hS : va_S (dd_A 59 ad X s.heap.size) s.heap s.heap [] := va_S.rf
  unfold f_X5_keepPut at hf
  have hl := lv_entry ([.ref (ad 30), .int a1, .int a2]) (n := 3) (Nat.le_of_ble_eq_true rfl)
  rw [lg_entry_eq]
  generalize (lg_sl ([.ref (ad 30), .int a1, .int a2]) ++ List.replicate (3 - (lg_sl ([.ref (ad 30), .int a1, .int a2])).length) Slot.unset).toArray = ls at hl ⊢
  have hl : lv_has ls 3 [(0, .ref (ad 30)), (1, .int a1), (2, .int a2)] := hl
  refine lv_aload_n hx hb dX5_keepPut_0 rfl (lv_at hl 0 rfl) ?_
  refine lv_iload_n hx hb dX5_keepPut_1 rfl (lv_at hl 1 rfl) ?_
  obtain ⟨r2, q1, hf⟩ := bd_so hf
  refine cl_r (va_runV (As := [.int a1]) (rest := []) ⟨hx, hb, hml, hown, hts⟩ (c_X5_dutyAt l g ad X _ sg a1 r2 q1) (cwV 1 hts gl_X5_164 rfl rfl rfl yd_X5_dutyAt ⟨Nat.le_of_ble_eq_true rfl, Nat.le_of_ble_eq_true rfl⟩) (preV_of hK hP (hD sg) (dd_at (by decide) cc_30) rfl) rfl rfl hl.1 rfl (lv_room (Nat.le_of_ble_eq_true rfl)) dX5_keepPut_2 ⟨Nat.le_of_ble_eq_true rfl, Nat.le_of_ble_eq_true rfl⟩) hS (fun q h => dd_A_mono hS.1 h) (fun q h => dd_A_mono hS.1 h) (fun H locs hP hS => ?_)
  have hr2 := lt_X5_dutyAt q1
  refine lv_aload_n hx hb dX5_keepPut_5 rfl (lv_at hl 0 rfl) ?_
  refine gf_X5_39 hx hb hts hown hK hP dX5_keepPut_6 ?_
  obtain ⟨sg4, q3, hf⟩ := bd_so hf
  refine cl_v (va_runV (As := [.ref (ad 12)]) (rest := []) ⟨hx, hb, hml, hown, hts⟩ (c_X0_copy l g ad X _ sg r2 12 hr2 (by decide) sg4 q3) (cwV 1 hts gl_X5_185 rfl rfl rfl yd_X0_copy ⟨Nat.le_of_ble_eq_true rfl, Nat.le_of_ble_eq_true rfl⟩) (preV_of hK hP (hD sg) (dd_at (Nat.lt_trans hr2 (by decide)) (cc_duty hr2)) rfl) rfl rfl hl.1 rfl (lv_room (Nat.le_of_ble_eq_true rfl)) dX5_keepPut_9 ⟨Nat.le_of_ble_eq_true rfl, Nat.le_of_ble_eq_true rfl⟩) hS (fun q h => dd_A_mono hS.1 h) (fun q h => dd_A_mono hS.1 h) (fun H locs hP hS => ?_)
  refine lv_aload_n hx hb dX5_keepPut_12 rfl (lv_at hl 0 rfl) ?_
  refine lv_iload_n hx hb dX5_keepPut_13 rfl (lv_at hl 2 rfl) ?_
  refine lv_iload_n hx hb dX5_keepPut_14 rfl (lv_at hl 1 rfl) ?_
  obtain ⟨sg6, q5, hf⟩ := bd_so hf
  refine cl_v (va_runV (As := [.int a2, .int a1]) (rest := []) ⟨hx, hb, hml, hown, hts⟩ (c_X5_assign l g ad X _ sg4 a2 a1 sg6 q5) (cwV 2 hts gl_X5_189 rfl rfl rfl yd_X5_assign ⟨Nat.le_of_ble_eq_true rfl, Nat.le_of_ble_eq_true rfl⟩) (preV_of hK hP (hD sg4) (dd_at (by decide) cc_30) rfl) rfl rfl hl.1 rfl (lv_room (Nat.le_of_ble_eq_true rfl)) dX5_keepPut_15 ⟨Nat.le_of_ble_eq_true rfl, Nat.le_of_ble_eq_true rfl⟩) hS (fun q h => dd_A_mono hS.1 h) (fun q h => dd_A_mono hS.1 h) (fun H locs hP hS => ?_)
  exact W.vret hx hb hr (fun t ht hW => ⟨⟨(), rfl, trivial, P_at2 (so1 hf) ht hP⟩, hS.F ht⟩) hS.2.2 dX5_keepPut_18
set_option maxHeartbeats 4000000 in
set_option maxRecDepth 100000 in
theorem c_X5_cheapestDuty (l : Launch) (g : dd_G) (ad : Nat → Nat) (X : va_W) (sz : Nat) (sg : dd_S) (a1 : Int32) (r0 : Int32) (s0 : dd_S) (hf : f_X5_cheapestDuty sg a1 = some (r0, s0)) : Met l yX5_cheapestDuty (lw_ws yX5_cheapestDuty cX5_cheapestDuty 6 (some .int)) ({ frames := 4, cells := 0, slots := 0, locals := 94 } : Room) (va_Pc [.ref (ad 30), .int a1] (PreW g (WC g ad sg ++ X) sz)) (QI g (WC g ad s0 ++ X) (dd_A 59 ad X sz) r0) 0 0 (dd_A 59 ad X sz) := by
  refine Met.ofW (cc := cX5_cheapestDuty) (maxL := 6) (ret := some .int) (by decide) rfl ?_
  intro p e s m args below meth c s₁ B hml hv
  obtain ⟨rfl, rfl, hP, hK, hD0⟩ := hv
  have hx := B.exec
  have hb := B.bytes
  have hr := B.returns
  have hts := atoms_spec (ws := (lw_ws yX5_cheapestDuty cX5_cheapestDuty 6 (some .int))) B.pre
  have hts : ∀ w ∈ lw_all, w.before _ s = true := fun w h => hts w (List.mem_cons_of_mem _ h)
  have hown : s.vm.findClass RX5 = some m.cls := findClass_of_methodNamed B.named
  have hlocks := B.notSynchronized
  have hD : ∀ s2 : dd_S, va_D (dd_A 59 ad X s.heap.size) (WC g ad s2 ++ X) := fun s2 => dd_D (dd_A_D hD0)
  have hS : va_S (dd_A 59 ad X s.heap.size) s.heap s.heap [] := va_S.rf
  have hL_62 : ∀ (k_7 : dd_S → Int32 → Int32 → Int32 → Option (Int32 × dd_S)) (hk_7 : ∀ (sg : dd_S) (v2 : Int32) (v3 : Int32) (v4 : Int32) (H : Heap) (locs : List Loc) (ls : Array Slot), k_7 sg v2 v3 v4 = some (r0, s0) → va_P g.1 vwCl (WC g ad sg ++ X) H → va_S (dd_A 59 ad X s.heap.size) s.heap H locs → lv_has ls 6 [(0, .ref (ad 30)), (1, .int a1), (2, .int v2), (3, .int v3), (4, .int v4)] → W p l e (headSpec (lw_ws yX5_cheapestDuty cX5_cheapestDuty 6 (some .int)) ({ frames := 4, cells := 0, slots := 0, locals := 94 } : Room)).room s m ([.ref (ad 30), .int a1] : List Value).toArray below meth c H locs 0 0 (MQ below (QI g (WC g ad s0 ++ X) (dd_A 59 ad X s.heap.size) r0) ([.ref (ad 30), .int a1] : List Value).toArray s 0 0 (dd_A 59 ad X s.heap.size)) (F0 m 7 ls [])), ∀ (sg : dd_S) (v2 : Int32) (v3 : Int32) (v4 : Int32) (H : Heap) (locs : List Loc) (ls : Array Slot), f_X5_cheapestDuty_62 a1 k_7 sg v2 v3 v4 = some (r0, s0) → va_P g.1 vwCl (WC g ad sg ++ X) H → va_S (dd_A 59 ad X s.heap.size) s.heap H locs → lv_has ls 6 [(0, .ref (ad 30)), (1, .int a1), (2, .int v2), (3, .int v3), (4, .int v4)] → W p l e (headSpec (lw_ws yX5_cheapestDuty cX5_cheapestDuty 6 (some .int)) ({ frames := 4, cells := 0, slots := 0, locals := 94 } : Room)).room s m ([.ref (ad 30), .int a1] : List Value).toArray below meth c H locs 0 0 (MQ below (QI g (WC g ad s0 ++ X) (dd_A 59 ad X s.heap.size) r0) ([.ref (ad 30), .int a1] : List Value).toArray s 0 0 (dd_A 59 ad X s.heap.size)) (F0 m 62 ls []) := by
    intro k_7 hk_7 sg v2 v3 v4 H locs ls hf hP hS hl
    unfold f_X5_cheapestDuty_62 at hf
    obtain ⟨x11, ex11, hf⟩ := lt_ex hf
    refine lv_iinc (v := x11) (lv' := [(4, .int x11), (0, .ref (ad 30)), (1, .int a1), (2, .int v2), (3, .int v3)]) hx hb dX5_cheapestDuty_62 hl (k := 4) rfl (by rw [ex11]; rfl) (by decide) rfl (fun ls hl => ?_)
    refine lv_goto (tgt := 7) hx hb dX5_cheapestDuty_65 (by decide) ?_
    exact hk_7 sg v2 v3 x11 _ _ _ hf hP hS (lv_sub hl [1, 2, 3, 4, 0] rfl)
  have hL_56 : ∀ (k_7 : dd_S → Int32 → Int32 → Int32 → Option (Int32 × dd_S)) (hk_7 : ∀ (sg : dd_S) (v2 : Int32) (v3 : Int32) (v4 : Int32) (H : Heap) (locs : List Loc) (ls : Array Slot), k_7 sg v2 v3 v4 = some (r0, s0) → va_P g.1 vwCl (WC g ad sg ++ X) H → va_S (dd_A 59 ad X s.heap.size) s.heap H locs → lv_has ls 6 [(0, .ref (ad 30)), (1, .int a1), (2, .int v2), (3, .int v3), (4, .int v4)] → W p l e (headSpec (lw_ws yX5_cheapestDuty cX5_cheapestDuty 6 (some .int)) ({ frames := 4, cells := 0, slots := 0, locals := 94 } : Room)).room s m ([.ref (ad 30), .int a1] : List Value).toArray below meth c H locs 0 0 (MQ below (QI g (WC g ad s0 ++ X) (dd_A 59 ad X s.heap.size) r0) ([.ref (ad 30), .int a1] : List Value).toArray s 0 0 (dd_A 59 ad X s.heap.size)) (F0 m 7 ls [])), ∀ (sg : dd_S) (v4 : Int32) (v5 : Int32) (H : Heap) (locs : List Loc) (ls : Array Slot), f_X5_cheapestDuty_56 a1 k_7 sg v4 v5 = some (r0, s0) → va_P g.1 vwCl (WC g ad sg ++ X) H → va_S (dd_A 59 ad X s.heap.size) s.heap H locs → lv_has ls 6 [(0, .ref (ad 30)), (1, .int a1), (4, .int v4), (5, .int v5)] → W p l e (headSpec (lw_ws yX5_cheapestDuty cX5_cheapestDuty 6 (some .int)) ({ frames := 4, cells := 0, slots := 0, locals := 94 } : Room)).room s m ([.ref (ad 30), .int a1] : List Value).toArray below meth c H locs 0 0 (MQ below (QI g (WC g ad s0 ++ X) (dd_A 59 ad X s.heap.size) r0) ([.ref (ad 30), .int a1] : List Value).toArray s 0 0 (dd_A 59 ad X s.heap.size)) (F0 m 56 ls []) := by
    intro k_7 hk_7 sg v4 v5 H locs ls hf hP hS hl
    unfold f_X5_cheapestDuty_56 at hf
    refine lv_iload hx hb dX5_cheapestDuty_56 (lv_at hl 2 rfl) ?_
    refine lv_istore_n (lv' := [(2, .int v4), (0, .ref (ad 30)), (1, .int a1), (4, .int v4), (5, .int v5)]) hx hb dX5_cheapestDuty_58 rfl hl (by decide) rfl (fun ls hl => ?_)
    refine lv_iload hx hb dX5_cheapestDuty_59 (lv_at hl 4 rfl) ?_
    refine lv_istore_n (lv' := [(3, .int v5), (2, .int v4), (0, .ref (ad 30)), (1, .int a1), (4, .int v4), (5, .int v5)]) hx hb dX5_cheapestDuty_61 rfl hl (by decide) rfl (fun ls hl => ?_)
    exact hL_62 k_7 hk_7 sg v4 v5 v4 _ _ _ hf hP hS (lv_sub hl [2, 3, 1, 0, 4] rfl)
  have hL_7 : ∀ (n : Nat), ∀ (sg : dd_S) (v2 : Int32) (v3 : Int32) (v4 : Int32) (H : Heap) (locs : List Loc) (ls : Array Slot), f_X5_cheapestDuty_7 a1 n sg v2 v3 v4 = some (r0, s0) → va_P g.1 vwCl (WC g ad sg ++ X) H → va_S (dd_A 59 ad X s.heap.size) s.heap H locs → lv_has ls 6 [(0, .ref (ad 30)), (1, .int a1), (2, .int v2), (3, .int v3), (4, .int v4)] → W p l e (headSpec (lw_ws yX5_cheapestDuty cX5_cheapestDuty 6 (some .int)) ({ frames := 4, cells := 0, slots := 0, locals := 94 } : Room)).room s m ([.ref (ad 30), .int a1] : List Value).toArray below meth c H locs 0 0 (MQ below (QI g (WC g ad s0 ++ X) (dd_A 59 ad X s.heap.size) r0) ([.ref (ad 30), .int a1] : List Value).toArray s 0 0 (dd_A 59 ad X s.heap.size)) (F0 m 7 ls []) := by
    intro n
    induction n with
    | zero =>
      intro sg v2 v3 v4 H locs ls hf
      rw [f_X5_cheapestDuty_7] at hf
      cases hf
    | succ n ih =>
      intro sg v2 v3 v4 H locs ls hf hP hS hl
      rw [f_X5_cheapestDuty_7] at hf
      refine lv_iload hx hb dX5_cheapestDuty_7 (lv_at hl 4 rfl) ?_
      refine lv_aload_n hx hb dX5_cheapestDuty_9 rfl (lv_at hl 0 rfl) ?_
      refine gf_X5_137 hx hb hts hown hK hP dX5_cheapestDuty_10 ?_
      refine lv_icmp_ge (tgt := 68) hx hb dX5_cheapestDuty_13 (by decide) (fun c1 => ?_) (fun c1 => ?_)
      · have hf := if_t c1 hf
        refine lv_iload_n hx hb dX5_cheapestDuty_68 rfl (lv_at hl 2 rfl) ?_
        exact W.iret (v := v2) hx hb hr (fun t ht hW => ⟨⟨v2, (), rfl, (so2 hf).1, P_at2 (so2 hf).2 ht hP⟩, hS.F ht⟩) hS.2.2 dX5_cheapestDuty_69
      · have hf := if_f c1 hf
        refine lv_aload_n hx hb dX5_cheapestDuty_16 rfl (lv_at hl 0 rfl) ?_
        refine lv_iload hx hb dX5_cheapestDuty_17 (lv_at hl 4 rfl) ?_
        refine lv_iload_n hx hb dX5_cheapestDuty_19 rfl (lv_at hl 1 rfl) ?_
        obtain ⟨r4, sg3, q2, hf⟩ := bd2_so hf
        refine cl_i (va_runV (As := [.int v4, .int a1]) (rest := []) ⟨hx, hb, hml, hown, hts⟩ (c_X5_tryPut l g ad X _ sg v4 a1 r4 sg3 q2) (cwV 2 hts gl_X5_155 rfl rfl rfl yd_X5_tryPut ⟨Nat.le_of_ble_eq_true rfl, Nat.le_of_ble_eq_true rfl⟩) (preV_of hK hP (hD sg) (dd_at (by decide) cc_30) rfl) rfl rfl hl.1 rfl (lv_room (Nat.le_of_ble_eq_true rfl)) dX5_cheapestDuty_20 ⟨Nat.le_of_ble_eq_true rfl, Nat.le_of_ble_eq_true rfl⟩) hS (fun q h => dd_A_mono hS.1 h) (fun q h => dd_A_mono hS.1 h) (fun H locs hP hS => ?_)
        refine lv_if_eq (tgt := 62) hx hb dX5_cheapestDuty_23 (by decide) (fun c5 => ?_) (fun c5 => ?_)
        · have hf := if_t c5 hf
          exact hL_62 (fun zs z0 z1 z2 => f_X5_cheapestDuty_7 a1 n zs z0 z1 z2) ih sg3 v2 v3 v4 _ _ _ hf hP hS (lv_sub hl [0, 1, 2, 3, 4] rfl)
        · have hf := if_f c5 hf
          refine lv_aload_n hx hb dX5_cheapestDuty_26 rfl (lv_at hl 0 rfl) ?_
          refine gf_X5_39 hx hb hts hown hK hP dX5_cheapestDuty_27 ?_
          refine gf_X5_255 hx hb hts hown hK hP (by decide) dX5_cheapestDuty_30 ?_
          refine lv_aload_n hx hb dX5_cheapestDuty_33 rfl (lv_at hl 0 rfl) ?_
          refine lv_iload hx hb dX5_cheapestDuty_34 (lv_at hl 4 rfl) ?_
          obtain ⟨r7, q6, hf⟩ := bd_so hf
          refine cl_r (va_runV (As := [.int v4]) (rest := [.int (sg3 12 5)]) ⟨hx, hb, hml, hown, hts⟩ (c_X5_dutyAt l g ad X _ sg3 v4 r7 q6) (cwV 1 hts gl_X5_164 rfl rfl rfl yd_X5_dutyAt ⟨Nat.le_of_ble_eq_true rfl, Nat.le_of_ble_eq_true rfl⟩) (preV_of hK hP (hD sg3) (dd_at (by decide) cc_30) rfl) rfl rfl hl.1 rfl (lv_room (Nat.le_of_ble_eq_true rfl)) dX5_cheapestDuty_36 ⟨Nat.le_of_ble_eq_true rfl, Nat.le_of_ble_eq_true rfl⟩) hS (fun q h => dd_A_mono hS.1 h) (fun q h => dd_A_mono hS.1 h) (fun H locs hP hS => ?_)
          have hr7 := lt_X5_dutyAt q6
          refine gf_X5_255 hx hb hts hown hK hP hr7 dX5_cheapestDuty_39 ?_
          refine lv_isub hx hb dX5_cheapestDuty_42 ?_
          refine lv_topi (fun x8 ex8 => ?_)
          have hf := lt_so ex8 hf
          refine lv_istore (lv' := [(5, .int x8), (0, .ref (ad 30)), (1, .int a1), (2, .int v2), (3, .int v3), (4, .int v4)]) hx hb dX5_cheapestDuty_43 hl (by decide) rfl (fun ls hl => ?_)
          refine lv_iload_n hx hb dX5_cheapestDuty_45 rfl (lv_at hl 3 rfl) ?_
          refine lv_iconst (v := (-1 : Int32)) hx hb dX5_cheapestDuty_46 (by decide) ?_
          refine lv_icmp_eq (tgt := 56) hx hb dX5_cheapestDuty_47 (by decide) (fun c9 => ?_) (fun c9 => ?_)
          · have hf := if_t c9 hf
            exact hL_56 (fun zs z0 z1 z2 => f_X5_cheapestDuty_7 a1 n zs z0 z1 z2) ih sg3 v4 x8 _ _ _ hf hP hS (lv_sub hl [1, 2, 5, 0] rfl)
          · have hf := if_f c9 hf
            refine lv_iload hx hb dX5_cheapestDuty_50 (lv_at hl 0 rfl) ?_
            refine lv_iload_n hx hb dX5_cheapestDuty_52 rfl (lv_at hl 4 rfl) ?_
            refine lv_icmp_ge (tgt := 62) hx hb dX5_cheapestDuty_53 (by decide) (fun c10 => ?_) (fun c10 => ?_)
            · have hf := if_t c10 hf
              exact hL_62 (fun zs z0 z1 z2 => f_X5_cheapestDuty_7 a1 n zs z0 z1 z2) ih sg3 v2 v3 v4 _ _ _ hf hP hS (lv_sub hl [1, 2, 3, 4, 5] rfl)
            · have hf := if_f c10 hf
              exact hL_56 (fun zs z0 z1 z2 => f_X5_cheapestDuty_7 a1 n zs z0 z1 z2) ih sg3 v4 x8 _ _ _ hf hP hS (lv_sub hl [1, 2, 5, 0] rfl)
  unfold f_X5_cheapestDuty at hf
  have hl := lv_entry ([.ref (ad 30), .int a1]) (n := 6) (Nat.le_of_ble_eq_true rfl)
  rw [lg_entry_eq]
  generalize (lg_sl ([.ref (ad 30), .int a1]) ++ List.replicate (6 - (lg_sl ([.ref (ad 30), .int a1])).length) Slot.unset).toArray = ls at hl ⊢
  have hl : lv_has ls 6 [(0, .ref (ad 30)), (1, .int a1)] := hl
  refine lv_iconst (v := (-1 : Int32)) hx hb dX5_cheapestDuty_0 (by decide) ?_
  refine lv_istore_n (lv' := [(2, .int (-1 : Int32)), (0, .ref (ad 30)), (1, .int a1)]) hx hb dX5_cheapestDuty_1 rfl hl (by decide) rfl (fun ls hl => ?_)
  refine lv_iconst (v := (0 : Int32)) hx hb dX5_cheapestDuty_2 (by decide) ?_
  refine lv_istore_n (lv' := [(3, .int (0 : Int32)), (2, .int (-1 : Int32)), (0, .ref (ad 30)), (1, .int a1)]) hx hb dX5_cheapestDuty_3 rfl hl (by decide) rfl (fun ls hl => ?_)
  refine lv_iconst (v := (0 : Int32)) hx hb dX5_cheapestDuty_4 (by decide) ?_
  refine lv_istore (lv' := [(4, .int (0 : Int32)), (3, .int (0 : Int32)), (2, .int (-1 : Int32)), (0, .ref (ad 30)), (1, .int a1)]) hx hb dX5_cheapestDuty_5 hl (by decide) rfl (fun ls hl => ?_)
  exact hL_7 64 sg (-1 : Int32) (0 : Int32) (0 : Int32) _ _ _ hf hP hS (lv_sub hl [3, 4, 2, 1, 0] rfl)
set_option maxHeartbeats 4000000 in
set_option maxRecDepth 100000 in
theorem c_X5_planTrip (l : Launch) (g : dd_G) (ad : Nat → Nat) (X : va_W) (sz : Nat) (sg : dd_S) (a1 : Int32) (s0 : dd_S) (hf : f_X5_planTrip sg a1 = some (s0)) : Met l yX5_planTrip (lw_ws yX5_planTrip cX5_planTrip 3 (none)) ({ frames := 5, cells := 0, slots := 0, locals := 119 } : Room) (va_Pc [.ref (ad 30), .int a1] (PreW g (WC g ad sg ++ X) sz)) (QV g (WC g ad s0 ++ X) (dd_A 59 ad X sz)) 0 0 (dd_A 59 ad X sz) := by
  refine Met.ofW (cc := cX5_planTrip) (maxL := 3) (ret := none) (by decide) rfl ?_
  intro p e s m args below meth c s₁ B hml hv
  obtain ⟨rfl, rfl, hP, hK, hD0⟩ := hv
  have hx := B.exec
  have hb := B.bytes
  have hr := B.returns
  have hts := atoms_spec (ws := (lw_ws yX5_planTrip cX5_planTrip 3 (none))) B.pre
  have hts : ∀ w ∈ lw_all, w.before _ s = true := fun w h => hts w (List.mem_cons_of_mem _ h)
  have hown : s.vm.findClass RX5 = some m.cls := findClass_of_methodNamed B.named
  have hlocks := B.notSynchronized
  have hD : ∀ s2 : dd_S, va_D (dd_A 59 ad X s.heap.size) (WC g ad s2 ++ X) := fun s2 => dd_D (dd_A_D hD0)
  have hS : va_S (dd_A 59 ad X s.heap.size) s.heap s.heap [] := va_S.rf
  have hL_69 : ∀ (sg : dd_S) (H : Heap) (locs : List Loc) (ls : Array Slot), f_X5_planTrip_69 a1 sg = some (s0) → va_P g.1 vwCl (WC g ad sg ++ X) H → va_S (dd_A 59 ad X s.heap.size) s.heap H locs → lv_has ls 3 [] → W p l e (headSpec (lw_ws yX5_planTrip cX5_planTrip 3 (none)) ({ frames := 5, cells := 0, slots := 0, locals := 119 } : Room)).room s m ([.ref (ad 30), .int a1] : List Value).toArray below meth c H locs 0 0 (MQ below (QV g (WC g ad s0 ++ X) (dd_A 59 ad X s.heap.size)) ([.ref (ad 30), .int a1] : List Value).toArray s 0 0 (dd_A 59 ad X s.heap.size)) (F0 m 69 ls []) := by
    intro sg H locs ls hf hP hS hl
    unfold f_X5_planTrip_69 at hf
    exact W.vret hx hb hr (fun t ht hW => ⟨⟨(), rfl, trivial, P_at2 (so1 hf) ht hP⟩, hS.F ht⟩) hS.2.2 dX5_planTrip_69
  unfold f_X5_planTrip at hf
  have hl := lv_entry ([.ref (ad 30), .int a1]) (n := 3) (Nat.le_of_ble_eq_true rfl)
  rw [lg_entry_eq]
  generalize (lg_sl ([.ref (ad 30), .int a1]) ++ List.replicate (3 - (lg_sl ([.ref (ad 30), .int a1])).length) Slot.unset).toArray = ls at hl ⊢
  have hl : lv_has ls 3 [(0, .ref (ad 30)), (1, .int a1)] := hl
  refine lv_aload_n hx hb dX5_planTrip_0 rfl (lv_at hl 0 rfl) ?_
  refine lv_iload_n hx hb dX5_planTrip_1 rfl (lv_at hl 1 rfl) ?_
  obtain ⟨r3, sg2, q1, hf⟩ := bd2_so hf
  refine cl_i (va_runV (As := [.int a1]) (rest := []) ⟨hx, hb, hml, hown, hts⟩ (c_X5_cheapestDuty l g ad X _ sg a1 r3 sg2 q1) (cwV 1 hts gl_X5_203 rfl rfl rfl yd_X5_cheapestDuty ⟨Nat.le_of_ble_eq_true rfl, Nat.le_of_ble_eq_true rfl⟩) (preV_of hK hP (hD sg) (dd_at (by decide) cc_30) rfl) rfl rfl hl.1 rfl (lv_room (Nat.le_of_ble_eq_true rfl)) dX5_planTrip_2 ⟨Nat.le_of_ble_eq_true rfl, Nat.le_of_ble_eq_true rfl⟩) hS (fun q h => dd_A_mono hS.1 h) (fun q h => dd_A_mono hS.1 h) (fun H locs hP hS => ?_)
  refine lv_istore_n (lv' := [(2, .int r3), (0, .ref (ad 30)), (1, .int a1)]) hx hb dX5_planTrip_5 rfl hl (by decide) rfl (fun ls hl => ?_)
  refine lv_iload_n hx hb dX5_planTrip_6 rfl (lv_at hl 0 rfl) ?_
  refine lv_iconst (v := (-1 : Int32)) hx hb dX5_planTrip_7 (by decide) ?_
  refine lv_icmp_eq (tgt := 29) hx hb dX5_planTrip_8 (by decide) (fun c4 => ?_) (fun c4 => ?_)
  · have hf := if_t c4 hf
    refine lv_aload_n hx hb dX5_planTrip_29 rfl (lv_at hl 1 rfl) ?_
    refine gf_X5_137 hx hb hts hown hK hP dX5_planTrip_30 ?_
    refine lv_bipush (v := (12 : Int32)) hx hb dX5_planTrip_33 (by decide) ?_
    refine lv_icmp_ge (tgt := 69) hx hb dX5_planTrip_35 (by decide) (fun c5 => ?_) (fun c5 => ?_)
    · have hf := if_t c5 hf
      exact hL_69 sg2 _ _ _ hf hP hS (lv_sub hl [] rfl)
    · have hf := if_f c5 hf
      refine lv_aload_n hx hb dX5_planTrip_38 rfl (lv_at hl 1 rfl) ?_
      refine lv_aload_n hx hb dX5_planTrip_39 rfl (lv_at hl 1 rfl) ?_
      refine gf_X5_137 hx hb hts hown hK hP dX5_planTrip_40 ?_
      refine lv_iload_n hx hb dX5_planTrip_43 rfl (lv_at hl 2 rfl) ?_
      obtain ⟨r8, sg7, q6, hf⟩ := bd2_so hf
      refine cl_i (va_runV (As := [.int (sg2 30 5), .int a1]) (rest := []) ⟨hx, hb, hml, hown, hts⟩ (c_X5_tryPut l g ad X _ sg2 (sg2 30 5) a1 r8 sg7 q6) (cwV 2 hts gl_X5_155 rfl rfl rfl yd_X5_tryPut ⟨Nat.le_of_ble_eq_true rfl, Nat.le_of_ble_eq_true rfl⟩) (preV_of hK hP (hD sg2) (dd_at (by decide) cc_30) rfl) rfl rfl hl.1 rfl (lv_room (Nat.le_of_ble_eq_true rfl)) dX5_planTrip_44 ⟨Nat.le_of_ble_eq_true rfl, Nat.le_of_ble_eq_true rfl⟩) hS (fun q h => dd_A_mono hS.1 h) (fun q h => dd_A_mono hS.1 h) (fun H locs hP hS => ?_)
      refine lv_if_eq (tgt := 69) hx hb dX5_planTrip_47 (by decide) (fun c9 => ?_) (fun c9 => ?_)
      · have hf := if_t c9 hf
        exact hL_69 sg7 _ _ _ hf hP hS (lv_sub hl [] rfl)
      · have hf := if_f c9 hf
        refine lv_aload_n hx hb dX5_planTrip_50 rfl (lv_at hl 1 rfl) ?_
        refine lv_aload_n hx hb dX5_planTrip_51 rfl (lv_at hl 1 rfl) ?_
        refine gf_X5_137 hx hb hts hown hK hP dX5_planTrip_52 ?_
        refine lv_iload_n hx hb dX5_planTrip_55 rfl (lv_at hl 2 rfl) ?_
        obtain ⟨sg11, q10, hf⟩ := bd_so hf
        refine cl_v (va_runV (As := [.int (sg7 30 5), .int a1]) (rest := []) ⟨hx, hb, hml, hown, hts⟩ (c_X5_keepPut l g ad X _ sg7 (sg7 30 5) a1 sg11 q10) (cwV 2 hts gl_X5_160 rfl rfl rfl yd_X5_keepPut ⟨Nat.le_of_ble_eq_true rfl, Nat.le_of_ble_eq_true rfl⟩) (preV_of hK hP (hD sg7) (dd_at (by decide) cc_30) rfl) rfl rfl hl.1 rfl (lv_room (Nat.le_of_ble_eq_true rfl)) dX5_planTrip_56 ⟨Nat.le_of_ble_eq_true rfl, Nat.le_of_ble_eq_true rfl⟩) hS (fun q h => dd_A_mono hS.1 h) (fun q h => dd_A_mono hS.1 h) (fun H locs hP hS => ?_)
        refine lv_aload_n hx hb dX5_planTrip_59 rfl (lv_at hl 1 rfl) ?_
        refine lv_dup hx hb dX5_planTrip_60 rfl ?_
        refine gf_X5_137 hx hb hts hown hK hP dX5_planTrip_61 ?_
        refine lv_iconst (v := (1 : Int32)) hx hb dX5_planTrip_64 (by decide) ?_
        refine lv_iadd hx hb dX5_planTrip_65 ?_
        obtain ⟨sg12, esg12, hf⟩ := lt_ex hf
        refine pf_X5_137 hx hb hts hown hK hP hD hS dX5_planTrip_66 (fun H locs hP hS => ?_)
        rw [← esg12] at hP
        exact hL_69 sg12 _ _ _ hf hP hS (lv_sub hl [] rfl)
  · have hf := if_f c4 hf
    refine lv_aload_n hx hb dX5_planTrip_11 rfl (lv_at hl 1 rfl) ?_
    refine lv_iload_n hx hb dX5_planTrip_12 rfl (lv_at hl 0 rfl) ?_
    refine lv_iload_n hx hb dX5_planTrip_13 rfl (lv_at hl 2 rfl) ?_
    obtain ⟨r15, sg14, q13, hf⟩ := bd2_so hf
    refine cl_i (va_runV (As := [.int r3, .int a1]) (rest := []) ⟨hx, hb, hml, hown, hts⟩ (c_X5_tryPut l g ad X _ sg2 r3 a1 r15 sg14 q13) (cwV 2 hts gl_X5_155 rfl rfl rfl yd_X5_tryPut ⟨Nat.le_of_ble_eq_true rfl, Nat.le_of_ble_eq_true rfl⟩) (preV_of hK hP (hD sg2) (dd_at (by decide) cc_30) rfl) rfl rfl hl.1 rfl (lv_room (Nat.le_of_ble_eq_true rfl)) dX5_planTrip_14 ⟨Nat.le_of_ble_eq_true rfl, Nat.le_of_ble_eq_true rfl⟩) hS (fun q h => dd_A_mono hS.1 h) (fun q h => dd_A_mono hS.1 h) (fun H locs hP hS => ?_)
    refine lv_if_eq (tgt := 69) hx hb dX5_planTrip_17 (by decide) (fun c16 => ?_) (fun c16 => ?_)
    · have hf := if_t c16 hf
      exact hL_69 sg14 _ _ _ hf hP hS (lv_sub hl [] rfl)
    · have hf := if_f c16 hf
      refine lv_aload_n hx hb dX5_planTrip_20 rfl (lv_at hl 1 rfl) ?_
      refine lv_iload_n hx hb dX5_planTrip_21 rfl (lv_at hl 0 rfl) ?_
      refine lv_iload_n hx hb dX5_planTrip_22 rfl (lv_at hl 2 rfl) ?_
      obtain ⟨sg18, q17, hf⟩ := bd_so hf
      refine cl_v (va_runV (As := [.int r3, .int a1]) (rest := []) ⟨hx, hb, hml, hown, hts⟩ (c_X5_keepPut l g ad X _ sg14 r3 a1 sg18 q17) (cwV 2 hts gl_X5_160 rfl rfl rfl yd_X5_keepPut ⟨Nat.le_of_ble_eq_true rfl, Nat.le_of_ble_eq_true rfl⟩) (preV_of hK hP (hD sg14) (dd_at (by decide) cc_30) rfl) rfl rfl hl.1 rfl (lv_room (Nat.le_of_ble_eq_true rfl)) dX5_planTrip_23 ⟨Nat.le_of_ble_eq_true rfl, Nat.le_of_ble_eq_true rfl⟩) hS (fun q h => dd_A_mono hS.1 h) (fun q h => dd_A_mono hS.1 h) (fun H locs hP hS => ?_)
      refine lv_goto (tgt := 69) hx hb dX5_planTrip_26 (by decide) ?_
      exact hL_69 sg18 _ _ _ hf hP hS (lv_sub hl [] rfl)
set_option maxHeartbeats 4000000 in
set_option maxRecDepth 100000 in
theorem c_X5_tryExchange (l : Launch) (g : dd_G) (ad : Nat → Nat) (X : va_W) (sz : Nat) (sg : dd_S) (a1 : Int32) (a2 : Int32) (a3 : Int32) (r0 : Int32) (s0 : dd_S) (hf : f_X5_tryExchange sg a1 a2 a3 = some (r0, s0)) : Met l yX5_tryExchange (lw_ws yX5_tryExchange cX5_tryExchange 4 (some .boolean)) ({ frames := 3, cells := 0, slots := 0, locals := 72 } : Room) (va_Pc [.ref (ad 30), .int a1, .int a2, .int a3] (PreW g (WC g ad sg ++ X) sz)) (QI g (WC g ad s0 ++ X) (dd_A 59 ad X sz) r0) 0 0 (dd_A 59 ad X sz) := by
  refine Met.ofW (cc := cX5_tryExchange) (maxL := 4) (ret := some .boolean) (by decide) rfl ?_
  intro p e s m args below meth c s₁ B hml hv
  obtain ⟨rfl, rfl, hP, hK, hD0⟩ := hv
  have hx := B.exec
  have hb := B.bytes
  have hr := B.returns
  have hts := atoms_spec (ws := (lw_ws yX5_tryExchange cX5_tryExchange 4 (some .boolean))) B.pre
  have hts : ∀ w ∈ lw_all, w.before _ s = true := fun w h => hts w (List.mem_cons_of_mem _ h)
  have hown : s.vm.findClass RX5 = some m.cls := findClass_of_methodNamed B.named
  have hlocks := B.notSynchronized
  have hD : ∀ s2 : dd_S, va_D (dd_A 59 ad X s.heap.size) (WC g ad s2 ++ X) := fun s2 => dd_D (dd_A_D hD0)
  have hS : va_S (dd_A 59 ad X s.heap.size) s.heap s.heap [] := va_S.rf
  have hL_99 : ∀ (sg : dd_S) (t0 : Int32) (H : Heap) (locs : List Loc) (ls : Array Slot), f_X5_tryExchange_99 a1 a2 a3 sg t0 = some (r0, s0) → va_P g.1 vwCl (WC g ad sg ++ X) H → va_S (dd_A 59 ad X s.heap.size) s.heap H locs → lv_has ls 4 [] → W p l e (headSpec (lw_ws yX5_tryExchange cX5_tryExchange 4 (some .boolean)) ({ frames := 3, cells := 0, slots := 0, locals := 72 } : Room)).room s m ([.ref (ad 30), .int a1, .int a2, .int a3] : List Value).toArray below meth c H locs 0 0 (MQ below (QI g (WC g ad s0 ++ X) (dd_A 59 ad X s.heap.size) r0) ([.ref (ad 30), .int a1, .int a2, .int a3] : List Value).toArray s 0 0 (dd_A 59 ad X s.heap.size)) (F0 m 99 ls [.int t0]) := by
    intro sg t0 H locs ls hf hP hS hl
    unfold f_X5_tryExchange_99 at hf
    obtain ⟨hz19, hf⟩ := gd_so hf
    exact W.zret (v := t0) hx hb hr (bz_z hz19) (fun t ht hW => ⟨⟨t0, (), rfl, (so2 hf).1, P_at2 (so2 hf).2 ht hP⟩, hS.F ht⟩) hS.2.2 dX5_tryExchange_99
  have hL_98 : ∀ (sg : dd_S) (H : Heap) (locs : List Loc) (ls : Array Slot), f_X5_tryExchange_98 a1 a2 a3 sg = some (r0, s0) → va_P g.1 vwCl (WC g ad sg ++ X) H → va_S (dd_A 59 ad X s.heap.size) s.heap H locs → lv_has ls 4 [] → W p l e (headSpec (lw_ws yX5_tryExchange cX5_tryExchange 4 (some .boolean)) ({ frames := 3, cells := 0, slots := 0, locals := 72 } : Room)).room s m ([.ref (ad 30), .int a1, .int a2, .int a3] : List Value).toArray below meth c H locs 0 0 (MQ below (QI g (WC g ad s0 ++ X) (dd_A 59 ad X s.heap.size) r0) ([.ref (ad 30), .int a1, .int a2, .int a3] : List Value).toArray s 0 0 (dd_A 59 ad X s.heap.size)) (F0 m 98 ls []) := by
    intro sg H locs ls hf hP hS hl
    unfold f_X5_tryExchange_98 at hf
    refine lv_iconst (v := (0 : Int32)) hx hb dX5_tryExchange_98 (by decide) ?_
    exact hL_99 sg (0 : Int32) _ _ _ hf hP hS (lv_sub hl [] rfl)
  unfold f_X5_tryExchange at hf
  have hl := lv_entry ([.ref (ad 30), .int a1, .int a2, .int a3]) (n := 4) (Nat.le_of_ble_eq_true rfl)
  rw [lg_entry_eq]
  generalize (lg_sl ([.ref (ad 30), .int a1, .int a2, .int a3]) ++ List.replicate (4 - (lg_sl ([.ref (ad 30), .int a1, .int a2, .int a3])).length) Slot.unset).toArray = ls at hl ⊢
  have hl : lv_has ls 4 [(0, .ref (ad 30)), (1, .int a1), (2, .int a2), (3, .int a3)] := hl
  refine lv_aload_n hx hb dX5_tryExchange_0 rfl (lv_at hl 0 rfl) ?_
  refine gf_X5_39 hx hb hts hown hK hP dX5_tryExchange_1 ?_
  refine lv_aload_n hx hb dX5_tryExchange_4 rfl (lv_at hl 0 rfl) ?_
  refine lv_iload_n hx hb dX5_tryExchange_5 rfl (lv_at hl 1 rfl) ?_
  obtain ⟨r2, q1, hf⟩ := bd_so hf
  refine cl_r (va_runV (As := [.int a1]) (rest := [.ref (ad 12)]) ⟨hx, hb, hml, hown, hts⟩ (c_X5_dutyAt l g ad X _ sg a1 r2 q1) (cwV 1 hts gl_X5_164 rfl rfl rfl yd_X5_dutyAt ⟨Nat.le_of_ble_eq_true rfl, Nat.le_of_ble_eq_true rfl⟩) (preV_of hK hP (hD sg) (dd_at (by decide) cc_30) rfl) rfl rfl hl.1 rfl (lv_room (Nat.le_of_ble_eq_true rfl)) dX5_tryExchange_6 ⟨Nat.le_of_ble_eq_true rfl, Nat.le_of_ble_eq_true rfl⟩) hS (fun q h => dd_A_mono hS.1 h) (fun q h => dd_A_mono hS.1 h) (fun H locs hP hS => ?_)
  have hr2 := lt_X5_dutyAt q1
  refine lv_aload_n hx hb dX5_tryExchange_9 rfl (lv_at hl 0 rfl) ?_
  refine lv_iload_n hx hb dX5_tryExchange_10 rfl (lv_at hl 2 rfl) ?_
  obtain ⟨r4, q3, hf⟩ := bd_so hf
  refine cl_r (va_runV (As := [.int a2]) (rest := [.ref (ad r2), .ref (ad 12)]) ⟨hx, hb, hml, hown, hts⟩ (c_X5_dutyAt l g ad X _ sg a2 r4 q3) (cwV 1 hts gl_X5_164 rfl rfl rfl yd_X5_dutyAt ⟨Nat.le_of_ble_eq_true rfl, Nat.le_of_ble_eq_true rfl⟩) (preV_of hK hP (hD sg) (dd_at (by decide) cc_30) rfl) rfl rfl hl.1 rfl (lv_room (Nat.le_of_ble_eq_true rfl)) dX5_tryExchange_11 ⟨Nat.le_of_ble_eq_true rfl, Nat.le_of_ble_eq_true rfl⟩) hS (fun q h => dd_A_mono hS.1 h) (fun q h => dd_A_mono hS.1 h) (fun H locs hP hS => ?_)
  have hr4 := lt_X5_dutyAt q3
  refine lv_iload_n hx hb dX5_tryExchange_14 rfl (lv_at hl 3 rfl) ?_
  refine lv_aload_n hx hb dX5_tryExchange_15 rfl (lv_at hl 0 rfl) ?_
  refine gf_X5_10 hx hb hts hown hK hP dX5_tryExchange_16 ?_
  obtain ⟨sg6, q5, hf⟩ := bd_so hf
  refine cl_v (va_runV (As := [.ref (ad r2), .ref (ad r4), .int a3, .ref (ad 31)]) (rest := []) ⟨hx, hb, hml, hown, hts⟩ (c_X0_join l g ad X _ sg 12 r2 r4 a3 (by decide) hr2 hr4 sg6 q5) (cwV 4 hts gl_X5_351 rfl rfl rfl yd_X0_join ⟨Nat.le_of_ble_eq_true rfl, Nat.le_of_ble_eq_true rfl⟩) (preV_of hK hP (hD sg) (dd_at (by decide) (cc_duty (by decide))) rfl) rfl rfl hl.1 rfl (lv_room (Nat.le_of_ble_eq_true rfl)) dX5_tryExchange_19 ⟨Nat.le_of_ble_eq_true rfl, Nat.le_of_ble_eq_true rfl⟩) hS (fun q h => dd_A_mono hS.1 h) (fun q h => dd_A_mono hS.1 h) (fun H locs hP hS => ?_)
  refine lv_aload_n hx hb dX5_tryExchange_22 rfl (lv_at hl 0 rfl) ?_
  refine gf_X5_43 hx hb hts hown hK hP dX5_tryExchange_23 ?_
  refine lv_aload_n hx hb dX5_tryExchange_26 rfl (lv_at hl 0 rfl) ?_
  refine lv_iload_n hx hb dX5_tryExchange_27 rfl (lv_at hl 2 rfl) ?_
  obtain ⟨r8, q7, hf⟩ := bd_so hf
  refine cl_r (va_runV (As := [.int a2]) (rest := [.ref (ad 13)]) ⟨hx, hb, hml, hown, hts⟩ (c_X5_dutyAt l g ad X _ sg6 a2 r8 q7) (cwV 1 hts gl_X5_164 rfl rfl rfl yd_X5_dutyAt ⟨Nat.le_of_ble_eq_true rfl, Nat.le_of_ble_eq_true rfl⟩) (preV_of hK hP (hD sg6) (dd_at (by decide) cc_30) rfl) rfl rfl hl.1 rfl (lv_room (Nat.le_of_ble_eq_true rfl)) dX5_tryExchange_28 ⟨Nat.le_of_ble_eq_true rfl, Nat.le_of_ble_eq_true rfl⟩) hS (fun q h => dd_A_mono hS.1 h) (fun q h => dd_A_mono hS.1 h) (fun H locs hP hS => ?_)
  have hr8 := lt_X5_dutyAt q7
  refine lv_aload_n hx hb dX5_tryExchange_31 rfl (lv_at hl 0 rfl) ?_
  refine lv_iload_n hx hb dX5_tryExchange_32 rfl (lv_at hl 1 rfl) ?_
  obtain ⟨r10, q9, hf⟩ := bd_so hf
  refine cl_r (va_runV (As := [.int a1]) (rest := [.ref (ad r8), .ref (ad 13)]) ⟨hx, hb, hml, hown, hts⟩ (c_X5_dutyAt l g ad X _ sg6 a1 r10 q9) (cwV 1 hts gl_X5_164 rfl rfl rfl yd_X5_dutyAt ⟨Nat.le_of_ble_eq_true rfl, Nat.le_of_ble_eq_true rfl⟩) (preV_of hK hP (hD sg6) (dd_at (by decide) cc_30) rfl) rfl rfl hl.1 rfl (lv_room (Nat.le_of_ble_eq_true rfl)) dX5_tryExchange_33 ⟨Nat.le_of_ble_eq_true rfl, Nat.le_of_ble_eq_true rfl⟩) hS (fun q h => dd_A_mono hS.1 h) (fun q h => dd_A_mono hS.1 h) (fun H locs hP hS => ?_)
  have hr10 := lt_X5_dutyAt q9
  refine lv_iload_n hx hb dX5_tryExchange_36 rfl (lv_at hl 3 rfl) ?_
  refine lv_aload_n hx hb dX5_tryExchange_37 rfl (lv_at hl 0 rfl) ?_
  refine gf_X5_10 hx hb hts hown hK hP dX5_tryExchange_38 ?_
  obtain ⟨sg12, q11, hf⟩ := bd_so hf
  refine cl_v (va_runV (As := [.ref (ad r8), .ref (ad r10), .int a3, .ref (ad 31)]) (rest := []) ⟨hx, hb, hml, hown, hts⟩ (c_X0_join l g ad X _ sg6 13 r8 r10 a3 (by decide) hr8 hr10 sg12 q11) (cwV 4 hts gl_X5_351 rfl rfl rfl yd_X0_join ⟨Nat.le_of_ble_eq_true rfl, Nat.le_of_ble_eq_true rfl⟩) (preV_of hK hP (hD sg6) (dd_at (by decide) (cc_duty (by decide))) rfl) rfl rfl hl.1 rfl (lv_room (Nat.le_of_ble_eq_true rfl)) dX5_tryExchange_41 ⟨Nat.le_of_ble_eq_true rfl, Nat.le_of_ble_eq_true rfl⟩) hS (fun q h => dd_A_mono hS.1 h) (fun q h => dd_A_mono hS.1 h) (fun H locs hP hS => ?_)
  refine lv_aload_n hx hb dX5_tryExchange_44 rfl (lv_at hl 0 rfl) ?_
  refine gf_X5_39 hx hb hts hown hK hP dX5_tryExchange_45 ?_
  refine lv_aload_n hx hb dX5_tryExchange_48 rfl (lv_at hl 0 rfl) ?_
  refine gf_X5_10 hx hb hts hown hK hP dX5_tryExchange_49 ?_
  refine lv_aload_n hx hb dX5_tryExchange_52 rfl (lv_at hl 0 rfl) ?_
  refine gf_X5_19 hx hb hts hown hK hP dX5_tryExchange_53 ?_
  obtain ⟨sg14, q13, hf⟩ := bd_so hf
  refine cl_v (va_runV (As := [.ref (ad 31), .ref (ad 32)]) (rest := []) ⟨hx, hb, hml, hown, hts⟩ (c_X0_measure l g ad X _ sg12 12 (by decide) sg14 q13) (cwV 2 hts gl_X5_340 rfl rfl rfl yd_X0_measure ⟨Nat.le_of_ble_eq_true rfl, Nat.le_of_ble_eq_true rfl⟩) (preV_of hK hP (hD sg12) (dd_at (by decide) (cc_duty (by decide))) rfl) rfl rfl hl.1 rfl (lv_room (Nat.le_of_ble_eq_true rfl)) dX5_tryExchange_56 ⟨Nat.le_of_ble_eq_true rfl, Nat.le_of_ble_eq_true rfl⟩) hS (fun q h => dd_A_mono hS.1 h) (fun q h => dd_A_mono hS.1 h) (fun H locs hP hS => ?_)
  refine lv_aload_n hx hb dX5_tryExchange_59 rfl (lv_at hl 0 rfl) ?_
  refine gf_X5_43 hx hb hts hown hK hP dX5_tryExchange_60 ?_
  refine lv_aload_n hx hb dX5_tryExchange_63 rfl (lv_at hl 0 rfl) ?_
  refine gf_X5_10 hx hb hts hown hK hP dX5_tryExchange_64 ?_
  refine lv_aload_n hx hb dX5_tryExchange_67 rfl (lv_at hl 0 rfl) ?_
  refine gf_X5_19 hx hb hts hown hK hP dX5_tryExchange_68 ?_
  obtain ⟨sg16, q15, hf⟩ := bd_so hf
  refine cl_v (va_runV (As := [.ref (ad 31), .ref (ad 32)]) (rest := []) ⟨hx, hb, hml, hown, hts⟩ (c_X0_measure l g ad X _ sg14 13 (by decide) sg16 q15) (cwV 2 hts gl_X5_340 rfl rfl rfl yd_X0_measure ⟨Nat.le_of_ble_eq_true rfl, Nat.le_of_ble_eq_true rfl⟩) (preV_of hK hP (hD sg14) (dd_at (by decide) (cc_duty (by decide))) rfl) rfl rfl hl.1 rfl (lv_room (Nat.le_of_ble_eq_true rfl)) dX5_tryExchange_71 ⟨Nat.le_of_ble_eq_true rfl, Nat.le_of_ble_eq_true rfl⟩) hS (fun q h => dd_A_mono hS.1 h) (fun q h => dd_A_mono hS.1 h) (fun H locs hP hS => ?_)
  refine lv_aload_n hx hb dX5_tryExchange_74 rfl (lv_at hl 0 rfl) ?_
  refine gf_X5_39 hx hb hts hown hK hP dX5_tryExchange_75 ?_
  refine gf_X5_336 hx hb hts hown hK hP (by decide) dX5_tryExchange_78 ?_
  refine lv_if_eq (tgt := 98) hx hb dX5_tryExchange_81 (by decide) (fun c17 => ?_) (fun c17 => ?_)
  · have hf := if_t c17 hf
    exact hL_98 sg16 _ _ _ hf hP hS (lv_sub hl [] rfl)
  · have hf := if_f c17 hf
    refine lv_aload_n hx hb dX5_tryExchange_84 rfl (lv_at hl 0 rfl) ?_
    refine gf_X5_43 hx hb hts hown hK hP dX5_tryExchange_85 ?_
    refine gf_X5_336 hx hb hts hown hK hP (by decide) dX5_tryExchange_88 ?_
    refine lv_if_eq (tgt := 98) hx hb dX5_tryExchange_91 (by decide) (fun c18 => ?_) (fun c18 => ?_)
    · have hf := if_t c18 hf
      exact hL_98 sg16 _ _ _ hf hP hS (lv_sub hl [] rfl)
    · have hf := if_f c18 hf
      refine lv_iconst (v := (1 : Int32)) hx hb dX5_tryExchange_94 (by decide) ?_
      refine lv_goto (tgt := 99) hx hb dX5_tryExchange_95 (by decide) ?_
      exact hL_99 sg16 (1 : Int32) _ _ _ hf hP hS (lv_sub hl [] rfl)
set_option maxHeartbeats 4000000 in
set_option maxRecDepth 100000 in
theorem c_X5_changeOfPay (l : Launch) (g : dd_G) (ad : Nat → Nat) (X : va_W) (sz : Nat) (sg : dd_S) (a1 : Int32) (a2 : Int32) (r0 : Int32) (hf : f_X5_changeOfPay sg a1 a2 = some (r0)) : Met l yX5_changeOfPay (lw_ws yX5_changeOfPay cX5_changeOfPay 3 (some .int)) ({ frames := 1, cells := 0, slots := 0, locals := 22 } : Room) (va_Pc [.ref (ad 30), .int a1, .int a2] (PreW g (WC g ad sg ++ X) sz)) (QI g (WC g ad sg ++ X) (dd_A 59 ad X sz) r0) 0 0 (dd_A 59 ad X sz) := by
  refine Met.ofW (cc := cX5_changeOfPay) (maxL := 3) (ret := some .int) (by decide) rfl ?_
  intro p e s m args below meth c s₁ B hml hv
  obtain ⟨rfl, rfl, hP, hK, hD0⟩ := hv
  have hx := B.exec
  have hb := B.bytes
  have hr := B.returns
  have hts := atoms_spec (ws := (lw_ws yX5_changeOfPay cX5_changeOfPay 3 (some .int))) B.pre
  have hts : ∀ w ∈ lw_all, w.before _ s = true := fun w h => hts w (List.mem_cons_of_mem _ h)
  have hown : s.vm.findClass RX5 = some m.cls := findClass_of_methodNamed B.named
  have hlocks := B.notSynchronized
  have hD : ∀ s2 : dd_S, va_D (dd_A 59 ad X s.heap.size) (WC g ad s2 ++ X) := fun s2 => dd_D (dd_A_D hD0)
  have hS : va_S (dd_A 59 ad X s.heap.size) s.heap s.heap [] := va_S.rf
  unfold f_X5_changeOfPay at hf
  have hl := lv_entry ([.ref (ad 30), .int a1, .int a2]) (n := 3) (Nat.le_of_ble_eq_true rfl)
  rw [lg_entry_eq]
  generalize (lg_sl ([.ref (ad 30), .int a1, .int a2]) ++ List.replicate (3 - (lg_sl ([.ref (ad 30), .int a1, .int a2])).length) Slot.unset).toArray = ls at hl ⊢
  have hl : lv_has ls 3 [(0, .ref (ad 30)), (1, .int a1), (2, .int a2)] := hl
  refine lv_aload_n hx hb dX5_changeOfPay_0 rfl (lv_at hl 0 rfl) ?_
  refine gf_X5_39 hx hb hts hown hK hP dX5_changeOfPay_1 ?_
  refine gf_X5_255 hx hb hts hown hK hP (by decide) dX5_changeOfPay_4 ?_
  refine lv_aload_n hx hb dX5_changeOfPay_7 rfl (lv_at hl 0 rfl) ?_
  refine gf_X5_43 hx hb hts hown hK hP dX5_changeOfPay_8 ?_
  refine gf_X5_255 hx hb hts hown hK hP (by decide) dX5_changeOfPay_11 ?_
  refine lv_iadd hx hb dX5_changeOfPay_14 ?_
  refine lv_aload_n hx hb dX5_changeOfPay_15 rfl (lv_at hl 0 rfl) ?_
  refine lv_iload_n hx hb dX5_changeOfPay_16 rfl (lv_at hl 1 rfl) ?_
  obtain ⟨r2, q1, hf⟩ := bd_so hf
  refine cl_r (va_runV (As := [.int a1]) (rest := [.int ((sg 12 5) + (sg 13 5))]) ⟨hx, hb, hml, hown, hts⟩ (c_X5_dutyAt l g ad X _ sg a1 r2 q1) (cwV 1 hts gl_X5_164 rfl rfl rfl yd_X5_dutyAt ⟨Nat.le_of_ble_eq_true rfl, Nat.le_of_ble_eq_true rfl⟩) (preV_of hK hP (hD sg) (dd_at (by decide) cc_30) rfl) rfl rfl hl.1 rfl (lv_room (Nat.le_of_ble_eq_true rfl)) dX5_changeOfPay_17 ⟨Nat.le_of_ble_eq_true rfl, Nat.le_of_ble_eq_true rfl⟩) hS (fun q h => dd_A_mono hS.1 h) (fun q h => dd_A_mono hS.1 h) (fun H locs hP hS => ?_)
  have hr2 := lt_X5_dutyAt q1
  refine gf_X5_255 hx hb hts hown hK hP hr2 dX5_changeOfPay_20 ?_
  refine lv_isub hx hb dX5_changeOfPay_23 ?_
  refine lv_aload_n hx hb dX5_changeOfPay_24 rfl (lv_at hl 0 rfl) ?_
  refine lv_iload_n hx hb dX5_changeOfPay_25 rfl (lv_at hl 2 rfl) ?_
  obtain ⟨r4, q3, hf⟩ := bd_so hf
  refine cl_r (va_runV (As := [.int a2]) (rest := [.int (((sg 12 5) + (sg 13 5)) - (sg r2 5))]) ⟨hx, hb, hml, hown, hts⟩ (c_X5_dutyAt l g ad X _ sg a2 r4 q3) (cwV 1 hts gl_X5_164 rfl rfl rfl yd_X5_dutyAt ⟨Nat.le_of_ble_eq_true rfl, Nat.le_of_ble_eq_true rfl⟩) (preV_of hK hP (hD sg) (dd_at (by decide) cc_30) rfl) rfl rfl hl.1 rfl (lv_room (Nat.le_of_ble_eq_true rfl)) dX5_changeOfPay_26 ⟨Nat.le_of_ble_eq_true rfl, Nat.le_of_ble_eq_true rfl⟩) hS (fun q h => dd_A_mono hS.1 h) (fun q h => dd_A_mono hS.1 h) (fun H locs hP hS => ?_)
  have hr4 := lt_X5_dutyAt q3
  refine gf_X5_255 hx hb hts hown hK hP hr4 dX5_changeOfPay_29 ?_
  refine lv_isub hx hb dX5_changeOfPay_32 ?_
  exact W.iret (v := ((((sg 12 5) + (sg 13 5)) - (sg r2 5)) - (sg r4 5))) hx hb hr (fun t ht hW => ⟨⟨((((sg 12 5) + (sg 13 5)) - (sg r2 5)) - (sg r4 5)), (), rfl, so1 hf, P_at ht hP⟩, hS.F ht⟩) hS.2.2 dX5_changeOfPay_33
set_option maxHeartbeats 4000000 in
set_option maxRecDepth 100000 in
theorem c_X5_assignTripsOf (l : Launch) (g : dd_G) (ad : Nat → Nat) (X : va_W) (sz : Nat) (sg : dd_S) (a1 : Int32) (s0 : dd_S) (hf : f_X5_assignTripsOf sg a1 = some (s0)) : Met l yX5_assignTripsOf (lw_ws yX5_assignTripsOf cX5_assignTripsOf 4 (none)) ({ frames := 1, cells := 0, slots := 0, locals := 22 } : Room) (va_Pc [.ref (ad 30), .int a1] (PreW g (WC g ad sg ++ X) sz)) (QV g (WC g ad s0 ++ X) (dd_A 59 ad X sz)) 0 0 (dd_A 59 ad X sz) := by
  refine Met.ofW (cc := cX5_assignTripsOf) (maxL := 4) (ret := none) (by decide) rfl ?_
  intro p e s m args below meth c s₁ B hml hv
  obtain ⟨rfl, rfl, hP, hK, hD0⟩ := hv
  have hx := B.exec
  have hb := B.bytes
  have hr := B.returns
  have hts := atoms_spec (ws := (lw_ws yX5_assignTripsOf cX5_assignTripsOf 4 (none))) B.pre
  have hts : ∀ w ∈ lw_all, w.before _ s = true := fun w h => hts w (List.mem_cons_of_mem _ h)
  have hown : s.vm.findClass RX5 = some m.cls := findClass_of_methodNamed B.named
  have hlocks := B.notSynchronized
  have hD : ∀ s2 : dd_S, va_D (dd_A 59 ad X s.heap.size) (WC g ad s2 ++ X) := fun s2 => dd_D (dd_A_D hD0)
  have hS : va_S (dd_A 59 ad X s.heap.size) s.heap s.heap [] := va_S.rf
  have hL_8 : ∀ (n : Nat), ∀ (sg : dd_S) (k2 : Nat) (hk2 : k2 < 15) (v3 : Int32) (H : Heap) (locs : List Loc) (ls : Array Slot), f_X5_assignTripsOf_8 a1 n sg k2 v3 = some (s0) → va_P g.1 vwCl (WC g ad sg ++ X) H → va_S (dd_A 59 ad X s.heap.size) s.heap H locs → lv_has ls 4 [(0, .ref (ad 30)), (1, .int a1), (2, .ref (ad k2)), (3, .int v3)] → W p l e (headSpec (lw_ws yX5_assignTripsOf cX5_assignTripsOf 4 (none)) ({ frames := 1, cells := 0, slots := 0, locals := 22 } : Room)).room s m ([.ref (ad 30), .int a1] : List Value).toArray below meth c H locs 0 0 (MQ below (QV g (WC g ad s0 ++ X) (dd_A 59 ad X s.heap.size)) ([.ref (ad 30), .int a1] : List Value).toArray s 0 0 (dd_A 59 ad X s.heap.size)) (F0 m 8 ls []) := by
    intro n
    induction n with
    | zero =>
      intro sg k2 hk2 v3 H locs ls hf
      rw [f_X5_assignTripsOf_8] at hf
      cases hf
    | succ n ih =>
      intro sg k2 hk2 v3 H locs ls hf hP hS hl
      rw [f_X5_assignTripsOf_8] at hf
      refine lv_iload_n hx hb dX5_assignTripsOf_8 rfl (lv_at hl 3 rfl) ?_
      refine lv_aload_n hx hb dX5_assignTripsOf_9 rfl (lv_at hl 2 rfl) ?_
      refine gf_X5_197 hx hb hts hown hK hP hk2 dX5_assignTripsOf_10 ?_
      refine lv_icmp_ge (tgt := 32) hx hb dX5_assignTripsOf_13 (by decide) (fun c3 => ?_) (fun c3 => ?_)
      · have hf := if_t c3 hf
        exact W.vret hx hb hr (fun t ht hW => ⟨⟨(), rfl, trivial, P_at2 (so1 hf) ht hP⟩, hS.F ht⟩) hS.2.2 dX5_assignTripsOf_32
      · have hf := if_f c3 hf
        refine lv_aload_n hx hb dX5_assignTripsOf_16 rfl (lv_at hl 0 rfl) ?_
        refine lv_aload_n hx hb dX5_assignTripsOf_17 rfl (lv_at hl 2 rfl) ?_
        refine lv_iload_n hx hb dX5_assignTripsOf_18 rfl (lv_at hl 3 rfl) ?_
        obtain ⟨r5, q4, hf⟩ := bd_so hf
        refine cl_i (va_runV (As := [.int v3]) (rest := [.ref (ad 30)]) ⟨hx, hb, hml, hown, hts⟩ (c_X0_tripIn l g ad X _ sg k2 v3 hk2 r5 q4) (cwV 1 hts gl_X5_200 rfl rfl rfl yd_X0_tripIn ⟨Nat.le_of_ble_eq_true rfl, Nat.le_of_ble_eq_true rfl⟩) (preV_of hK hP (hD sg) (dd_at (Nat.lt_trans hk2 (by decide)) (cc_duty hk2)) rfl) rfl rfl hl.1 rfl (lv_room (Nat.le_of_ble_eq_true rfl)) dX5_assignTripsOf_19 ⟨Nat.le_of_ble_eq_true rfl, Nat.le_of_ble_eq_true rfl⟩) hS (fun q h => dd_A_mono hS.1 h) (fun q h => dd_A_mono hS.1 h) (fun H locs hP hS => ?_)
        refine lv_iload_n hx hb dX5_assignTripsOf_22 rfl (lv_at hl 1 rfl) ?_
        obtain ⟨sg7, q6, hf⟩ := bd_so hf
        refine cl_v (va_runV (As := [.int r5, .int a1]) (rest := []) ⟨hx, hb, hml, hown, hts⟩ (c_X5_assign l g ad X _ sg r5 a1 sg7 q6) (cwV 2 hts gl_X5_189 rfl rfl rfl yd_X5_assign ⟨Nat.le_of_ble_eq_true rfl, Nat.le_of_ble_eq_true rfl⟩) (preV_of hK hP (hD sg) (dd_at (by decide) cc_30) rfl) rfl rfl hl.1 rfl (lv_room (Nat.le_of_ble_eq_true rfl)) dX5_assignTripsOf_23 ⟨Nat.le_of_ble_eq_true rfl, Nat.le_of_ble_eq_true rfl⟩) hS (fun q h => dd_A_mono hS.1 h) (fun q h => dd_A_mono hS.1 h) (fun H locs hP hS => ?_)
        obtain ⟨x8, ex8, hf⟩ := lt_ex hf
        refine lv_iinc (v := x8) (lv' := [(3, .int x8), (0, .ref (ad 30)), (1, .int a1), (2, .ref (ad k2))]) hx hb dX5_assignTripsOf_26 hl (k := 3) rfl (by rw [ex8]; rfl) (by decide) rfl (fun ls hl => ?_)
        refine lv_goto (tgt := 8) hx hb dX5_assignTripsOf_29 (by decide) ?_
        exact ih sg7 k2 hk2 x8 _ _ _ hf hP hS (lv_sub hl [1, 2, 3, 0] rfl)
  unfold f_X5_assignTripsOf at hf
  have hl := lv_entry ([.ref (ad 30), .int a1]) (n := 4) (Nat.le_of_ble_eq_true rfl)
  rw [lg_entry_eq]
  generalize (lg_sl ([.ref (ad 30), .int a1]) ++ List.replicate (4 - (lg_sl ([.ref (ad 30), .int a1])).length) Slot.unset).toArray = ls at hl ⊢
  have hl : lv_has ls 4 [(0, .ref (ad 30)), (1, .int a1)] := hl
  refine lv_aload_n hx hb dX5_assignTripsOf_0 rfl (lv_at hl 0 rfl) ?_
  refine lv_iload_n hx hb dX5_assignTripsOf_1 rfl (lv_at hl 1 rfl) ?_
  obtain ⟨r2, q1, hf⟩ := bd_so hf
  refine cl_r (va_runV (As := [.int a1]) (rest := []) ⟨hx, hb, hml, hown, hts⟩ (c_X5_dutyAt l g ad X _ sg a1 r2 q1) (cwV 1 hts gl_X5_164 rfl rfl rfl yd_X5_dutyAt ⟨Nat.le_of_ble_eq_true rfl, Nat.le_of_ble_eq_true rfl⟩) (preV_of hK hP (hD sg) (dd_at (by decide) cc_30) rfl) rfl rfl hl.1 rfl (lv_room (Nat.le_of_ble_eq_true rfl)) dX5_assignTripsOf_2 ⟨Nat.le_of_ble_eq_true rfl, Nat.le_of_ble_eq_true rfl⟩) hS (fun q h => dd_A_mono hS.1 h) (fun q h => dd_A_mono hS.1 h) (fun H locs hP hS => ?_)
  have hr2 := lt_X5_dutyAt q1
  refine lv_astore_n (lv' := [(2, .ref (ad r2)), (0, .ref (ad 30)), (1, .int a1)]) hx hb dX5_assignTripsOf_5 rfl hl (by decide) rfl (fun ls hl => ?_)
  refine lv_iconst (v := (0 : Int32)) hx hb dX5_assignTripsOf_6 (by decide) ?_
  refine lv_istore_n (lv' := [(3, .int (0 : Int32)), (2, .ref (ad r2)), (0, .ref (ad 30)), (1, .int a1)]) hx hb dX5_assignTripsOf_7 rfl hl (by decide) rfl (fun ls hl => ?_)
  exact hL_8 64 sg r2 hr2 (0 : Int32) _ _ _ hf hP hS (lv_sub hl [2, 3, 1, 0] rfl)
set_option maxHeartbeats 4000000 in
set_option maxRecDepth 100000 in
theorem c_X5_keepExchange (l : Launch) (g : dd_G) (ad : Nat → Nat) (X : va_W) (sz : Nat) (sg : dd_S) (a1 : Int32) (a2 : Int32) (s0 : dd_S) (hf : f_X5_keepExchange sg a1 a2 = some (s0)) : Met l yX5_keepExchange (lw_ws yX5_keepExchange cX5_keepExchange 3 (none)) ({ frames := 2, cells := 0, slots := 0, locals := 45 } : Room) (va_Pc [.ref (ad 30), .int a1, .int a2] (PreW g (WC g ad sg ++ X) sz)) (QV g (WC g ad s0 ++ X) (dd_A 59 ad X sz)) 0 0 (dd_A 59 ad X sz) := by
  refine Met.ofW (cc := cX5_keepExchange) (maxL := 3) (ret := none) (by decide) rfl ?_
  intro p e s m args below meth c s₁ B hml hv
  obtain ⟨rfl, rfl, hP, hK, hD0⟩ := hv
  have hx := B.exec
  have hb := B.bytes
  have hr := B.returns
  have hts := atoms_spec (ws := (lw_ws yX5_keepExchange cX5_keepExchange 3 (none))) B.pre
  have hts : ∀ w ∈ lw_all, w.before _ s = true := fun w h => hts w (List.mem_cons_of_mem _ h)
  have hown : s.vm.findClass RX5 = some m.cls := findClass_of_methodNamed B.named
  have hlocks := B.notSynchronized
  have hD : ∀ s2 : dd_S, va_D (dd_A 59 ad X s.heap.size) (WC g ad s2 ++ X) := fun s2 => dd_D (dd_A_D hD0)
  have hS : va_S (dd_A 59 ad X s.heap.size) s.heap s.heap [] := va_S.rf
  unfold f_X5_keepExchange at hf
  have hl := lv_entry ([.ref (ad 30), .int a1, .int a2]) (n := 3) (Nat.le_of_ble_eq_true rfl)
  rw [lg_entry_eq]
  generalize (lg_sl ([.ref (ad 30), .int a1, .int a2]) ++ List.replicate (3 - (lg_sl ([.ref (ad 30), .int a1, .int a2])).length) Slot.unset).toArray = ls at hl ⊢
  have hl : lv_has ls 3 [(0, .ref (ad 30)), (1, .int a1), (2, .int a2)] := hl
  refine lv_aload_n hx hb dX5_keepExchange_0 rfl (lv_at hl 0 rfl) ?_
  refine lv_iload_n hx hb dX5_keepExchange_1 rfl (lv_at hl 1 rfl) ?_
  obtain ⟨r2, q1, hf⟩ := bd_so hf
  refine cl_r (va_runV (As := [.int a1]) (rest := []) ⟨hx, hb, hml, hown, hts⟩ (c_X5_dutyAt l g ad X _ sg a1 r2 q1) (cwV 1 hts gl_X5_164 rfl rfl rfl yd_X5_dutyAt ⟨Nat.le_of_ble_eq_true rfl, Nat.le_of_ble_eq_true rfl⟩) (preV_of hK hP (hD sg) (dd_at (by decide) cc_30) rfl) rfl rfl hl.1 rfl (lv_room (Nat.le_of_ble_eq_true rfl)) dX5_keepExchange_2 ⟨Nat.le_of_ble_eq_true rfl, Nat.le_of_ble_eq_true rfl⟩) hS (fun q h => dd_A_mono hS.1 h) (fun q h => dd_A_mono hS.1 h) (fun H locs hP hS => ?_)
  have hr2 := lt_X5_dutyAt q1
  refine lv_aload_n hx hb dX5_keepExchange_5 rfl (lv_at hl 0 rfl) ?_
  refine gf_X5_39 hx hb hts hown hK hP dX5_keepExchange_6 ?_
  obtain ⟨sg4, q3, hf⟩ := bd_so hf
  refine cl_v (va_runV (As := [.ref (ad 12)]) (rest := []) ⟨hx, hb, hml, hown, hts⟩ (c_X0_copy l g ad X _ sg r2 12 hr2 (by decide) sg4 q3) (cwV 1 hts gl_X5_185 rfl rfl rfl yd_X0_copy ⟨Nat.le_of_ble_eq_true rfl, Nat.le_of_ble_eq_true rfl⟩) (preV_of hK hP (hD sg) (dd_at (Nat.lt_trans hr2 (by decide)) (cc_duty hr2)) rfl) rfl rfl hl.1 rfl (lv_room (Nat.le_of_ble_eq_true rfl)) dX5_keepExchange_9 ⟨Nat.le_of_ble_eq_true rfl, Nat.le_of_ble_eq_true rfl⟩) hS (fun q h => dd_A_mono hS.1 h) (fun q h => dd_A_mono hS.1 h) (fun H locs hP hS => ?_)
  refine lv_aload_n hx hb dX5_keepExchange_12 rfl (lv_at hl 0 rfl) ?_
  refine lv_iload_n hx hb dX5_keepExchange_13 rfl (lv_at hl 2 rfl) ?_
  obtain ⟨r6, q5, hf⟩ := bd_so hf
  refine cl_r (va_runV (As := [.int a2]) (rest := []) ⟨hx, hb, hml, hown, hts⟩ (c_X5_dutyAt l g ad X _ sg4 a2 r6 q5) (cwV 1 hts gl_X5_164 rfl rfl rfl yd_X5_dutyAt ⟨Nat.le_of_ble_eq_true rfl, Nat.le_of_ble_eq_true rfl⟩) (preV_of hK hP (hD sg4) (dd_at (by decide) cc_30) rfl) rfl rfl hl.1 rfl (lv_room (Nat.le_of_ble_eq_true rfl)) dX5_keepExchange_14 ⟨Nat.le_of_ble_eq_true rfl, Nat.le_of_ble_eq_true rfl⟩) hS (fun q h => dd_A_mono hS.1 h) (fun q h => dd_A_mono hS.1 h) (fun H locs hP hS => ?_)
  have hr6 := lt_X5_dutyAt q5
  refine lv_aload_n hx hb dX5_keepExchange_17 rfl (lv_at hl 0 rfl) ?_
  refine gf_X5_43 hx hb hts hown hK hP dX5_keepExchange_18 ?_
  obtain ⟨sg8, q7, hf⟩ := bd_so hf
  refine cl_v (va_runV (As := [.ref (ad 13)]) (rest := []) ⟨hx, hb, hml, hown, hts⟩ (c_X0_copy l g ad X _ sg4 r6 13 hr6 (by decide) sg8 q7) (cwV 1 hts gl_X5_185 rfl rfl rfl yd_X0_copy ⟨Nat.le_of_ble_eq_true rfl, Nat.le_of_ble_eq_true rfl⟩) (preV_of hK hP (hD sg4) (dd_at (Nat.lt_trans hr6 (by decide)) (cc_duty hr6)) rfl) rfl rfl hl.1 rfl (lv_room (Nat.le_of_ble_eq_true rfl)) dX5_keepExchange_21 ⟨Nat.le_of_ble_eq_true rfl, Nat.le_of_ble_eq_true rfl⟩) hS (fun q h => dd_A_mono hS.1 h) (fun q h => dd_A_mono hS.1 h) (fun H locs hP hS => ?_)
  refine lv_aload_n hx hb dX5_keepExchange_24 rfl (lv_at hl 0 rfl) ?_
  refine lv_iload_n hx hb dX5_keepExchange_25 rfl (lv_at hl 1 rfl) ?_
  obtain ⟨sg10, q9, hf⟩ := bd_so hf
  refine cl_v (va_runV (As := [.int a1]) (rest := []) ⟨hx, hb, hml, hown, hts⟩ (c_X5_assignTripsOf l g ad X _ sg8 a1 sg10 q9) (cwV 1 hts gl_X5_355 rfl rfl rfl yd_X5_assignTripsOf ⟨Nat.le_of_ble_eq_true rfl, Nat.le_of_ble_eq_true rfl⟩) (preV_of hK hP (hD sg8) (dd_at (by decide) cc_30) rfl) rfl rfl hl.1 rfl (lv_room (Nat.le_of_ble_eq_true rfl)) dX5_keepExchange_26 ⟨Nat.le_of_ble_eq_true rfl, Nat.le_of_ble_eq_true rfl⟩) hS (fun q h => dd_A_mono hS.1 h) (fun q h => dd_A_mono hS.1 h) (fun H locs hP hS => ?_)
  refine lv_aload_n hx hb dX5_keepExchange_29 rfl (lv_at hl 0 rfl) ?_
  refine lv_iload_n hx hb dX5_keepExchange_30 rfl (lv_at hl 2 rfl) ?_
  obtain ⟨sg12, q11, hf⟩ := bd_so hf
  refine cl_v (va_runV (As := [.int a2]) (rest := []) ⟨hx, hb, hml, hown, hts⟩ (c_X5_assignTripsOf l g ad X _ sg10 a2 sg12 q11) (cwV 1 hts gl_X5_355 rfl rfl rfl yd_X5_assignTripsOf ⟨Nat.le_of_ble_eq_true rfl, Nat.le_of_ble_eq_true rfl⟩) (preV_of hK hP (hD sg10) (dd_at (by decide) cc_30) rfl) rfl rfl hl.1 rfl (lv_room (Nat.le_of_ble_eq_true rfl)) dX5_keepExchange_31 ⟨Nat.le_of_ble_eq_true rfl, Nat.le_of_ble_eq_true rfl⟩) hS (fun q h => dd_A_mono hS.1 h) (fun q h => dd_A_mono hS.1 h) (fun H locs hP hS => ?_)
  exact W.vret hx hb hr (fun t ht hW => ⟨⟨(), rfl, trivial, P_at2 (so1 hf) ht hP⟩, hS.F ht⟩) hS.2.2 dX5_keepExchange_34
set_option maxHeartbeats 4000000 in
set_option maxRecDepth 100000 in
theorem c_X5_weighTimesOf (l : Launch) (g : dd_G) (ad : Nat → Nat) (X : va_W) (sz : Nat) (sg : dd_S) (a1 : Int32) (a2 : Int32) (a3 : Int32) (s0 : dd_S) (hf : f_X5_weighTimesOf sg a1 a2 a3 = some (s0)) : Met l yX5_weighTimesOf (lw_ws yX5_weighTimesOf cX5_weighTimesOf 7 (none)) ({ frames := 4, cells := 0, slots := 0, locals := 95 } : Room) (va_Pc [.ref (ad 30), .int a1, .int a2, .int a3] (PreW g (WC g ad sg ++ X) sz)) (QV g (WC g ad s0 ++ X) (dd_A 59 ad X sz)) 0 0 (dd_A 59 ad X sz) := by
  refine Met.ofW (cc := cX5_weighTimesOf) (maxL := 7) (ret := none) (by decide) rfl ?_
  intro p e s m args below meth c s₁ B hml hv
  obtain ⟨rfl, rfl, hP, hK, hD0⟩ := hv
  have hx := B.exec
  have hb := B.bytes
  have hr := B.returns
  have hts := atoms_spec (ws := (lw_ws yX5_weighTimesOf cX5_weighTimesOf 7 (none))) B.pre
  have hts : ∀ w ∈ lw_all, w.before _ s = true := fun w h => hts w (List.mem_cons_of_mem _ h)
  have hown : s.vm.findClass RX5 = some m.cls := findClass_of_methodNamed B.named
  have hlocks := B.notSynchronized
  have hD : ∀ s2 : dd_S, va_D (dd_A 59 ad X s.heap.size) (WC g ad s2 ++ X) := fun s2 => dd_D (dd_A_D hD0)
  have hS : va_S (dd_A 59 ad X s.heap.size) s.heap s.heap [] := va_S.rf
  have hL_64 : ∀ (k_10 : dd_S → Nat → Int32 → Option (dd_S)) (hk_10 : ∀ (sg : dd_S) (k4 : Nat) (hk4 : k4 < 15) (v5 : Int32) (H : Heap) (locs : List Loc) (ls : Array Slot), k_10 sg k4 v5 = some (s0) → va_P g.1 vwCl (WC g ad sg ++ X) H → va_S (dd_A 59 ad X s.heap.size) s.heap H locs → lv_has ls 7 [(0, .ref (ad 30)), (2, .int a2), (3, .int a3), (4, .ref (ad k4)), (5, .int v5)] → W p l e (headSpec (lw_ws yX5_weighTimesOf cX5_weighTimesOf 7 (none)) ({ frames := 4, cells := 0, slots := 0, locals := 95 } : Room)).room s m ([.ref (ad 30), .int a1, .int a2, .int a3] : List Value).toArray below meth c H locs 0 0 (MQ below (QV g (WC g ad s0 ++ X) (dd_A 59 ad X s.heap.size)) ([.ref (ad 30), .int a1, .int a2, .int a3] : List Value).toArray s 0 0 (dd_A 59 ad X s.heap.size)) (F0 m 10 ls [])), ∀ (sg : dd_S) (k4 : Nat) (hk4 : k4 < 15) (v5 : Int32) (H : Heap) (locs : List Loc) (ls : Array Slot), f_X5_weighTimesOf_64 a1 a2 a3 k_10 sg k4 v5 = some (s0) → va_P g.1 vwCl (WC g ad sg ++ X) H → va_S (dd_A 59 ad X s.heap.size) s.heap H locs → lv_has ls 7 [(0, .ref (ad 30)), (2, .int a2), (3, .int a3), (4, .ref (ad k4)), (5, .int v5)] → W p l e (headSpec (lw_ws yX5_weighTimesOf cX5_weighTimesOf 7 (none)) ({ frames := 4, cells := 0, slots := 0, locals := 95 } : Room)).room s m ([.ref (ad 30), .int a1, .int a2, .int a3] : List Value).toArray below meth c H locs 0 0 (MQ below (QV g (WC g ad s0 ++ X) (dd_A 59 ad X s.heap.size)) ([.ref (ad 30), .int a1, .int a2, .int a3] : List Value).toArray s 0 0 (dd_A 59 ad X s.heap.size)) (F0 m 64 ls []) := by
    intro k_10 hk_10 sg k4 hk4 v5 H locs ls hf hP hS hl
    unfold f_X5_weighTimesOf_64 at hf
    obtain ⟨x16, ex16, hf⟩ := lt_ex hf
    refine lv_iinc (v := x16) (lv' := [(5, .int x16), (0, .ref (ad 30)), (2, .int a2), (3, .int a3), (4, .ref (ad k4))]) hx hb dX5_weighTimesOf_64 hl (k := 4) rfl (by rw [ex16]; rfl) (by decide) rfl (fun ls hl => ?_)
    refine lv_goto (tgt := 10) hx hb dX5_weighTimesOf_67 (by decide) ?_
    exact hk_10 sg k4 hk4 x16 _ _ _ hf hP hS (lv_sub hl [1, 2, 3, 4, 0] rfl)
  have hL_10 : ∀ (n : Nat), ∀ (sg : dd_S) (k4 : Nat) (hk4 : k4 < 15) (v5 : Int32) (H : Heap) (locs : List Loc) (ls : Array Slot), f_X5_weighTimesOf_10 a1 a2 a3 n sg k4 v5 = some (s0) → va_P g.1 vwCl (WC g ad sg ++ X) H → va_S (dd_A 59 ad X s.heap.size) s.heap H locs → lv_has ls 7 [(0, .ref (ad 30)), (2, .int a2), (3, .int a3), (4, .ref (ad k4)), (5, .int v5)] → W p l e (headSpec (lw_ws yX5_weighTimesOf cX5_weighTimesOf 7 (none)) ({ frames := 4, cells := 0, slots := 0, locals := 95 } : Room)).room s m ([.ref (ad 30), .int a1, .int a2, .int a3] : List Value).toArray below meth c H locs 0 0 (MQ below (QV g (WC g ad s0 ++ X) (dd_A 59 ad X s.heap.size)) ([.ref (ad 30), .int a1, .int a2, .int a3] : List Value).toArray s 0 0 (dd_A 59 ad X s.heap.size)) (F0 m 10 ls []) := by
    intro n
    induction n with
    | zero =>
      intro sg k4 hk4 v5 H locs ls hf
      rw [f_X5_weighTimesOf_10] at hf
      cases hf
    | succ n ih =>
      intro sg k4 hk4 v5 H locs ls hf hP hS hl
      rw [f_X5_weighTimesOf_10] at hf
      refine lv_iload hx hb dX5_weighTimesOf_10 (lv_at hl 4 rfl) ?_
      refine lv_aload hx hb dX5_weighTimesOf_12 (lv_at hl 3 rfl) ?_
      refine gf_X5_197 hx hb hts hown hK hP hk4 dX5_weighTimesOf_14 ?_
      refine lv_icmp_ge (tgt := 70) hx hb dX5_weighTimesOf_17 (by decide) (fun c3 => ?_) (fun c3 => ?_)
      · have hf := if_t c3 hf
        exact W.vret hx hb hr (fun t ht hW => ⟨⟨(), rfl, trivial, P_at2 (so1 hf) ht hP⟩, hS.F ht⟩) hS.2.2 dX5_weighTimesOf_70
      · have hf := if_f c3 hf
        refine lv_aload_n hx hb dX5_weighTimesOf_20 rfl (lv_at hl 0 rfl) ?_
        refine gf_X5_10 hx hb hts hown hK hP dX5_weighTimesOf_21 ?_
        refine lv_aload hx hb dX5_weighTimesOf_24 (lv_at hl 3 rfl) ?_
        refine lv_iload hx hb dX5_weighTimesOf_26 (lv_at hl 4 rfl) ?_
        obtain ⟨r5, q4, hf⟩ := bd_so hf
        refine cl_i (va_runV (As := [.int v5]) (rest := [.ref (ad 31)]) ⟨hx, hb, hml, hown, hts⟩ (c_X0_tripIn l g ad X _ sg k4 v5 hk4 r5 q4) (cwV 1 hts gl_X5_200 rfl rfl rfl yd_X0_tripIn ⟨Nat.le_of_ble_eq_true rfl, Nat.le_of_ble_eq_true rfl⟩) (preV_of hK hP (hD sg) (dd_at (Nat.lt_trans hk4 (by decide)) (cc_duty hk4)) rfl) rfl rfl hl.1 rfl (lv_room (Nat.le_of_ble_eq_true rfl)) dX5_weighTimesOf_28 ⟨Nat.le_of_ble_eq_true rfl, Nat.le_of_ble_eq_true rfl⟩) hS (fun q h => dd_A_mono hS.1 h) (fun q h => dd_A_mono hS.1 h) (fun H locs hP hS => ?_)
        obtain ⟨r7, q6, hf⟩ := bd_so hf
        refine cl_i (va_runV (As := [.int r5]) (rest := []) ⟨hx, hb, hml, hown, hts⟩ (c_X4_departureOf l g ad X _ sg r5 r7 q6) (cwV 1 hts gl_X5_209 rfl rfl rfl yd_X4_departureOf ⟨Nat.le_of_ble_eq_true rfl, Nat.le_of_ble_eq_true rfl⟩) (preV_of hK hP (hD sg) (dd_at (by decide) cc_31) rfl) rfl rfl hl.1 rfl (lv_room (Nat.le_of_ble_eq_true rfl)) dX5_weighTimesOf_31 ⟨Nat.le_of_ble_eq_true rfl, Nat.le_of_ble_eq_true rfl⟩) hS (fun q h => dd_A_mono hS.1 h) (fun q h => dd_A_mono hS.1 h) (fun H locs hP hS => ?_)
        refine lv_istore (lv' := [(6, .int r7), (0, .ref (ad 30)), (2, .int a2), (3, .int a3), (4, .ref (ad k4)), (5, .int v5)]) hx hb dX5_weighTimesOf_34 hl (by decide) rfl (fun ls hl => ?_)
        refine lv_aload_n hx hb dX5_weighTimesOf_36 rfl (lv_at hl 1 rfl) ?_
        refine lv_iload_n hx hb dX5_weighTimesOf_37 rfl (lv_at hl 2 rfl) ?_
        refine lv_iload_n hx hb dX5_weighTimesOf_38 rfl (lv_at hl 3 rfl) ?_
        refine lv_iload hx hb dX5_weighTimesOf_39 (lv_at hl 0 rfl) ?_
        obtain ⟨r10, sg9, q8, hf⟩ := bd2_so hf
        refine cl_i (va_runV (As := [.int a2, .int a3, .int r7]) (rest := []) ⟨hx, hb, hml, hown, hts⟩ (c_X5_tryExchange l g ad X _ sg a2 a3 r7 r10 sg9 q8) (cwV 3 hts gl_X5_227 rfl rfl rfl yd_X5_tryExchange ⟨Nat.le_of_ble_eq_true rfl, Nat.le_of_ble_eq_true rfl⟩) (preV_of hK hP (hD sg) (dd_at (by decide) cc_30) rfl) rfl rfl hl.1 rfl (lv_room (Nat.le_of_ble_eq_true rfl)) dX5_weighTimesOf_41 ⟨Nat.le_of_ble_eq_true rfl, Nat.le_of_ble_eq_true rfl⟩) hS (fun q h => dd_A_mono hS.1 h) (fun q h => dd_A_mono hS.1 h) (fun H locs hP hS => ?_)
        refine lv_if_eq (tgt := 64) hx hb dX5_weighTimesOf_44 (by decide) (fun c11 => ?_) (fun c11 => ?_)
        · have hf := if_t c11 hf
          exact hL_64 (fun zs z0 z1 => f_X5_weighTimesOf_10 a1 a2 a3 n zs z0 z1) ih sg9 k4 hk4 v5 _ _ _ hf hP hS (lv_sub hl [1, 2, 3, 4, 5] rfl)
        · have hf := if_f c11 hf
          refine lv_aload_n hx hb dX5_weighTimesOf_47 rfl (lv_at hl 1 rfl) ?_
          refine gf_X5_56 hx hb hts hown hK hP dX5_weighTimesOf_48 ?_
          refine lv_iload_n hx hb dX5_weighTimesOf_51 rfl (lv_at hl 2 rfl) ?_
          refine lv_iload_n hx hb dX5_weighTimesOf_52 rfl (lv_at hl 3 rfl) ?_
          refine lv_iload hx hb dX5_weighTimesOf_53 (lv_at hl 0 rfl) ?_
          refine lv_aload_n hx hb dX5_weighTimesOf_55 rfl (lv_at hl 1 rfl) ?_
          refine lv_iload_n hx hb dX5_weighTimesOf_56 rfl (lv_at hl 2 rfl) ?_
          refine lv_iload_n hx hb dX5_weighTimesOf_57 rfl (lv_at hl 3 rfl) ?_
          obtain ⟨r13, q12, hf⟩ := bd_so hf
          refine cl_i (va_runV (As := [.int a2, .int a3]) (rest := [.int r7, .int a3, .int a2, .ref (ad 39)]) ⟨hx, hb, hml, hown, hts⟩ (c_X5_changeOfPay l g ad X _ sg9 a2 a3 r13 q12) (cwV 2 hts gl_X5_233 rfl rfl rfl yd_X5_changeOfPay ⟨Nat.le_of_ble_eq_true rfl, Nat.le_of_ble_eq_true rfl⟩) (preV_of hK hP (hD sg9) (dd_at (by decide) cc_30) rfl) rfl rfl hl.1 rfl (lv_room (Nat.le_of_ble_eq_true rfl)) dX5_weighTimesOf_58 ⟨Nat.le_of_ble_eq_true rfl, Nat.le_of_ble_eq_true rfl⟩) hS (fun q h => dd_A_mono hS.1 h) (fun q h => dd_A_mono hS.1 h) (fun H locs hP hS => ?_)
          obtain ⟨sg15, q14, hf⟩ := bd_so hf
          refine cl_v (va_runV (As := [.int a2, .int a3, .int r7, .int r13]) (rest := []) ⟨hx, hb, hml, hown, hts⟩ (c_X1_offer l g ad X _ sg9 a2 a3 r7 r13 sg15 q14) (cwV 4 hts gl_X5_361 rfl rfl rfl yd_X1_offer ⟨Nat.le_of_ble_eq_true rfl, Nat.le_of_ble_eq_true rfl⟩) (preV_of hK hP (hD sg9) (dd_at (by decide) cc_39) rfl) rfl rfl hl.1 rfl (lv_room (Nat.le_of_ble_eq_true rfl)) dX5_weighTimesOf_61 ⟨Nat.le_of_ble_eq_true rfl, Nat.le_of_ble_eq_true rfl⟩) hS (fun q h => dd_A_mono hS.1 h) (fun q h => dd_A_mono hS.1 h) (fun H locs hP hS => ?_)
          exact hL_64 (fun zs z0 z1 => f_X5_weighTimesOf_10 a1 a2 a3 n zs z0 z1) ih sg15 k4 hk4 v5 _ _ _ hf hP hS (lv_sub hl [1, 2, 3, 4, 5] rfl)
  unfold f_X5_weighTimesOf at hf
  have hl := lv_entry ([.ref (ad 30), .int a1, .int a2, .int a3]) (n := 7) (Nat.le_of_ble_eq_true rfl)
  rw [lg_entry_eq]
  generalize (lg_sl ([.ref (ad 30), .int a1, .int a2, .int a3]) ++ List.replicate (7 - (lg_sl ([.ref (ad 30), .int a1, .int a2, .int a3])).length) Slot.unset).toArray = ls at hl ⊢
  have hl : lv_has ls 7 [(0, .ref (ad 30)), (1, .int a1), (2, .int a2), (3, .int a3)] := hl
  refine lv_aload_n hx hb dX5_weighTimesOf_0 rfl (lv_at hl 0 rfl) ?_
  refine lv_iload_n hx hb dX5_weighTimesOf_1 rfl (lv_at hl 1 rfl) ?_
  obtain ⟨r2, q1, hf⟩ := bd_so hf
  refine cl_r (va_runV (As := [.int a1]) (rest := []) ⟨hx, hb, hml, hown, hts⟩ (c_X5_dutyAt l g ad X _ sg a1 r2 q1) (cwV 1 hts gl_X5_164 rfl rfl rfl yd_X5_dutyAt ⟨Nat.le_of_ble_eq_true rfl, Nat.le_of_ble_eq_true rfl⟩) (preV_of hK hP (hD sg) (dd_at (by decide) cc_30) rfl) rfl rfl hl.1 rfl (lv_room (Nat.le_of_ble_eq_true rfl)) dX5_weighTimesOf_2 ⟨Nat.le_of_ble_eq_true rfl, Nat.le_of_ble_eq_true rfl⟩) hS (fun q h => dd_A_mono hS.1 h) (fun q h => dd_A_mono hS.1 h) (fun H locs hP hS => ?_)
  have hr2 := lt_X5_dutyAt q1
  refine lv_astore (lv' := [(4, .ref (ad r2)), (0, .ref (ad 30)), (1, .int a1), (2, .int a2), (3, .int a3)]) hx hb dX5_weighTimesOf_5 hl (by decide) rfl (fun ls hl => ?_)
  refine lv_iconst (v := (0 : Int32)) hx hb dX5_weighTimesOf_7 (by decide) ?_
  refine lv_istore (lv' := [(5, .int (0 : Int32)), (4, .ref (ad r2)), (0, .ref (ad 30)), (1, .int a1), (2, .int a2), (3, .int a3)]) hx hb dX5_weighTimesOf_8 hl (by decide) rfl (fun ls hl => ?_)
  exact hL_10 64 sg r2 hr2 (0 : Int32) _ _ _ hf hP hS (lv_sub hl [2, 4, 5, 1, 0] rfl)
set_option maxHeartbeats 4000000 in
set_option maxRecDepth 100000 in
theorem c_X5_weighPairsOf (l : Launch) (g : dd_G) (ad : Nat → Nat) (X : va_W) (sz : Nat) (sg : dd_S) (a1 : Int32) (s0 : dd_S) (hf : f_X5_weighPairsOf sg a1 = some (s0)) : Met l yX5_weighPairsOf (lw_ws yX5_weighPairsOf cX5_weighPairsOf 3 (none)) ({ frames := 5, cells := 0, slots := 0, locals := 121 } : Room) (va_Pc [.ref (ad 30), .int a1] (PreW g (WC g ad sg ++ X) sz)) (QV g (WC g ad s0 ++ X) (dd_A 59 ad X sz)) 0 0 (dd_A 59 ad X sz) := by
  refine Met.ofW (cc := cX5_weighPairsOf) (maxL := 3) (ret := none) (by decide) rfl ?_
  intro p e s m args below meth c s₁ B hml hv
  obtain ⟨rfl, rfl, hP, hK, hD0⟩ := hv
  have hx := B.exec
  have hb := B.bytes
  have hr := B.returns
  have hts := atoms_spec (ws := (lw_ws yX5_weighPairsOf cX5_weighPairsOf 3 (none))) B.pre
  have hts : ∀ w ∈ lw_all, w.before _ s = true := fun w h => hts w (List.mem_cons_of_mem _ h)
  have hown : s.vm.findClass RX5 = some m.cls := findClass_of_methodNamed B.named
  have hlocks := B.notSynchronized
  have hD : ∀ s2 : dd_S, va_D (dd_A 59 ad X s.heap.size) (WC g ad s2 ++ X) := fun s2 => dd_D (dd_A_D hD0)
  have hS : va_S (dd_A 59 ad X s.heap.size) s.heap s.heap [] := va_S.rf
  have hL_34 : ∀ (k_4 : dd_S → Int32 → Option (dd_S)) (hk_4 : ∀ (sg : dd_S) (v2 : Int32) (H : Heap) (locs : List Loc) (ls : Array Slot), k_4 sg v2 = some (s0) → va_P g.1 vwCl (WC g ad sg ++ X) H → va_S (dd_A 59 ad X s.heap.size) s.heap H locs → lv_has ls 3 [(0, .ref (ad 30)), (1, .int a1), (2, .int v2)] → W p l e (headSpec (lw_ws yX5_weighPairsOf cX5_weighPairsOf 3 (none)) ({ frames := 5, cells := 0, slots := 0, locals := 121 } : Room)).room s m ([.ref (ad 30), .int a1] : List Value).toArray below meth c H locs 0 0 (MQ below (QV g (WC g ad s0 ++ X) (dd_A 59 ad X s.heap.size)) ([.ref (ad 30), .int a1] : List Value).toArray s 0 0 (dd_A 59 ad X s.heap.size)) (F0 m 4 ls [])), ∀ (sg : dd_S) (v2 : Int32) (H : Heap) (locs : List Loc) (ls : Array Slot), f_X5_weighPairsOf_34 a1 k_4 sg v2 = some (s0) → va_P g.1 vwCl (WC g ad sg ++ X) H → va_S (dd_A 59 ad X s.heap.size) s.heap H locs → lv_has ls 3 [(0, .ref (ad 30)), (1, .int a1), (2, .int v2)] → W p l e (headSpec (lw_ws yX5_weighPairsOf cX5_weighPairsOf 3 (none)) ({ frames := 5, cells := 0, slots := 0, locals := 121 } : Room)).room s m ([.ref (ad 30), .int a1] : List Value).toArray below meth c H locs 0 0 (MQ below (QV g (WC g ad s0 ++ X) (dd_A 59 ad X s.heap.size)) ([.ref (ad 30), .int a1] : List Value).toArray s 0 0 (dd_A 59 ad X s.heap.size)) (F0 m 34 ls []) := by
    intro k_4 hk_4 sg v2 H locs ls hf hP hS hl
    unfold f_X5_weighPairsOf_34 at hf
    obtain ⟨x10, ex10, hf⟩ := lt_ex hf
    refine lv_iinc (v := x10) (lv' := [(2, .int x10), (0, .ref (ad 30)), (1, .int a1)]) hx hb dX5_weighPairsOf_34 hl (k := 2) rfl (by rw [ex10]; rfl) (by decide) rfl (fun ls hl => ?_)
    refine lv_goto (tgt := 4) hx hb dX5_weighPairsOf_37 (by decide) ?_
    exact hk_4 sg x10 _ _ _ hf hP hS (lv_sub hl [1, 2, 0] rfl)
  have hL_4 : ∀ (n : Nat), ∀ (sg : dd_S) (v2 : Int32) (H : Heap) (locs : List Loc) (ls : Array Slot), f_X5_weighPairsOf_4 a1 n sg v2 = some (s0) → va_P g.1 vwCl (WC g ad sg ++ X) H → va_S (dd_A 59 ad X s.heap.size) s.heap H locs → lv_has ls 3 [(0, .ref (ad 30)), (1, .int a1), (2, .int v2)] → W p l e (headSpec (lw_ws yX5_weighPairsOf cX5_weighPairsOf 3 (none)) ({ frames := 5, cells := 0, slots := 0, locals := 121 } : Room)).room s m ([.ref (ad 30), .int a1] : List Value).toArray below meth c H locs 0 0 (MQ below (QV g (WC g ad s0 ++ X) (dd_A 59 ad X s.heap.size)) ([.ref (ad 30), .int a1] : List Value).toArray s 0 0 (dd_A 59 ad X s.heap.size)) (F0 m 4 ls []) := by
    intro n
    induction n with
    | zero =>
      intro sg v2 H locs ls hf
      rw [f_X5_weighPairsOf_4] at hf
      cases hf
    | succ n ih =>
      intro sg v2 H locs ls hf hP hS hl
      rw [f_X5_weighPairsOf_4] at hf
      refine lv_iload_n hx hb dX5_weighPairsOf_4 rfl (lv_at hl 2 rfl) ?_
      refine lv_aload_n hx hb dX5_weighPairsOf_5 rfl (lv_at hl 0 rfl) ?_
      refine gf_X5_137 hx hb hts hown hK hP dX5_weighPairsOf_6 ?_
      refine lv_icmp_ge (tgt := 40) hx hb dX5_weighPairsOf_9 (by decide) (fun c2 => ?_) (fun c2 => ?_)
      · have hf := if_t c2 hf
        exact W.vret hx hb hr (fun t ht hW => ⟨⟨(), rfl, trivial, P_at2 (so1 hf) ht hP⟩, hS.F ht⟩) hS.2.2 dX5_weighPairsOf_40
      · have hf := if_f c2 hf
        refine lv_aload_n hx hb dX5_weighPairsOf_12 rfl (lv_at hl 0 rfl) ?_
        refine lv_iload_n hx hb dX5_weighPairsOf_13 rfl (lv_at hl 2 rfl) ?_
        obtain ⟨r4, q3, hf⟩ := bd_so hf
        refine cl_i (va_runV (As := [.int v2]) (rest := []) ⟨hx, hb, hml, hown, hts⟩ (c_X5_isFixed l g ad X _ sg v2 r4 q3) (cwV 1 hts gl_X5_177 rfl rfl rfl yd_X5_isFixed ⟨Nat.le_of_ble_eq_true rfl, Nat.le_of_ble_eq_true rfl⟩) (preV_of hK hP (hD sg) (dd_at (by decide) cc_30) rfl) rfl rfl hl.1 rfl (lv_room (Nat.le_of_ble_eq_true rfl)) dX5_weighPairsOf_14 ⟨Nat.le_of_ble_eq_true rfl, Nat.le_of_ble_eq_true rfl⟩) hS (fun q h => dd_A_mono hS.1 h) (fun q h => dd_A_mono hS.1 h) (fun H locs hP hS => ?_)
        refine lv_if_ne (tgt := 34) hx hb dX5_weighPairsOf_17 (by decide) (fun c5 => ?_) (fun c5 => ?_)
        · have hf := if_f c5 hf
          exact hL_34 (fun zs z0 => f_X5_weighPairsOf_4 a1 n zs z0) ih sg v2 _ _ _ hf hP hS (lv_sub hl [0, 1, 2] rfl)
        · have hf := if_t c5 hf
          refine lv_aload_n hx hb dX5_weighPairsOf_20 rfl (lv_at hl 0 rfl) ?_
          refine lv_iload_n hx hb dX5_weighPairsOf_21 rfl (lv_at hl 1 rfl) ?_
          refine lv_iload_n hx hb dX5_weighPairsOf_22 rfl (lv_at hl 1 rfl) ?_
          refine lv_iload_n hx hb dX5_weighPairsOf_23 rfl (lv_at hl 2 rfl) ?_
          obtain ⟨sg7, q6, hf⟩ := bd_so hf
          refine cl_v (va_runV (As := [.int a1, .int a1, .int v2]) (rest := []) ⟨hx, hb, hml, hown, hts⟩ (c_X5_weighTimesOf l g ad X _ sg a1 a1 v2 sg7 q6) (cwV 3 hts gl_X5_358 rfl rfl rfl yd_X5_weighTimesOf ⟨Nat.le_of_ble_eq_true rfl, Nat.le_of_ble_eq_true rfl⟩) (preV_of hK hP (hD sg) (dd_at (by decide) cc_30) rfl) rfl rfl hl.1 rfl (lv_room (Nat.le_of_ble_eq_true rfl)) dX5_weighPairsOf_24 ⟨Nat.le_of_ble_eq_true rfl, Nat.le_of_ble_eq_true rfl⟩) hS (fun q h => dd_A_mono hS.1 h) (fun q h => dd_A_mono hS.1 h) (fun H locs hP hS => ?_)
          refine lv_aload_n hx hb dX5_weighPairsOf_27 rfl (lv_at hl 0 rfl) ?_
          refine lv_iload_n hx hb dX5_weighPairsOf_28 rfl (lv_at hl 2 rfl) ?_
          refine lv_iload_n hx hb dX5_weighPairsOf_29 rfl (lv_at hl 1 rfl) ?_
          refine lv_iload_n hx hb dX5_weighPairsOf_30 rfl (lv_at hl 2 rfl) ?_
          obtain ⟨sg9, q8, hf⟩ := bd_so hf
          refine cl_v (va_runV (As := [.int v2, .int a1, .int v2]) (rest := []) ⟨hx, hb, hml, hown, hts⟩ (c_X5_weighTimesOf l g ad X _ sg7 v2 a1 v2 sg9 q8) (cwV 3 hts gl_X5_358 rfl rfl rfl yd_X5_weighTimesOf ⟨Nat.le_of_ble_eq_true rfl, Nat.le_of_ble_eq_true rfl⟩) (preV_of hK hP (hD sg7) (dd_at (by decide) cc_30) rfl) rfl rfl hl.1 rfl (lv_room (Nat.le_of_ble_eq_true rfl)) dX5_weighPairsOf_31 ⟨Nat.le_of_ble_eq_true rfl, Nat.le_of_ble_eq_true rfl⟩) hS (fun q h => dd_A_mono hS.1 h) (fun q h => dd_A_mono hS.1 h) (fun H locs hP hS => ?_)
          exact hL_34 (fun zs z0 => f_X5_weighPairsOf_4 a1 n zs z0) ih sg9 v2 _ _ _ hf hP hS (lv_sub hl [0, 1, 2] rfl)
  unfold f_X5_weighPairsOf at hf
  have hl := lv_entry ([.ref (ad 30), .int a1]) (n := 3) (Nat.le_of_ble_eq_true rfl)
  rw [lg_entry_eq]
  generalize (lg_sl ([.ref (ad 30), .int a1]) ++ List.replicate (3 - (lg_sl ([.ref (ad 30), .int a1])).length) Slot.unset).toArray = ls at hl ⊢
  have hl : lv_has ls 3 [(0, .ref (ad 30)), (1, .int a1)] := hl
  refine lv_iload_n hx hb dX5_weighPairsOf_0 rfl (lv_at hl 1 rfl) ?_
  refine lv_iconst (v := (1 : Int32)) hx hb dX5_weighPairsOf_1 (by decide) ?_
  refine lv_iadd hx hb dX5_weighPairsOf_2 ?_
  refine lv_topi (fun x1 ex1 => ?_)
  have hf := lt_so ex1 hf
  refine lv_istore_n (lv' := [(2, .int x1), (0, .ref (ad 30)), (1, .int a1)]) hx hb dX5_weighPairsOf_3 rfl hl (by decide) rfl (fun ls hl => ?_)
  exact hL_4 64 sg x1 _ _ _ hf hP hS (lv_sub hl [1, 2, 0] rfl)
set_option maxHeartbeats 4000000 in
set_option maxRecDepth 100000 in
theorem c_X5_isOpenOn (l : Launch) (g : dd_G) (ad : Nat → Nat) (X : va_W) (sz : Nat) (sg : dd_S) (a1 : Int32) (a2 : Int32) (r0 : Int32) (hf : f_X5_isOpenOn sg a1 a2 = some (r0)) : Met l yX5_isOpenOn (lw_ws yX5_isOpenOn cX5_isOpenOn 3 (some .boolean)) ({ frames := 2, cells := 0, slots := 0, locals := 45 } : Room) (va_Pc [.ref (ad 30), .int a1, .int a2] (PreW g (WC g ad sg ++ X) sz)) (QI g (WC g ad sg ++ X) (dd_A 59 ad X sz) r0) 0 0 (dd_A 59 ad X sz) := by
  refine Met.ofW (cc := cX5_isOpenOn) (maxL := 3) (ret := some .boolean) (by decide) rfl ?_
  intro p e s m args below meth c s₁ B hml hv
  obtain ⟨rfl, rfl, hP, hK, hD0⟩ := hv
  have hx := B.exec
  have hb := B.bytes
  have hr := B.returns
  have hts := atoms_spec (ws := (lw_ws yX5_isOpenOn cX5_isOpenOn 3 (some .boolean))) B.pre
  have hts : ∀ w ∈ lw_all, w.before _ s = true := fun w h => hts w (List.mem_cons_of_mem _ h)
  have hown : s.vm.findClass RX5 = some m.cls := findClass_of_methodNamed B.named
  have hlocks := B.notSynchronized
  have hD : ∀ s2 : dd_S, va_D (dd_A 59 ad X s.heap.size) (WC g ad s2 ++ X) := fun s2 => dd_D (dd_A_D hD0)
  have hS : va_S (dd_A 59 ad X s.heap.size) s.heap s.heap [] := va_S.rf
  have hL_25 : ∀ (t0 : Int32) (H : Heap) (locs : List Loc) (ls : Array Slot), f_X5_isOpenOn_25 sg a1 a2 t0 = some (r0) → va_P g.1 vwCl (WC g ad sg ++ X) H → va_S (dd_A 59 ad X s.heap.size) s.heap H locs → lv_has ls 3 [] → W p l e (headSpec (lw_ws yX5_isOpenOn cX5_isOpenOn 3 (some .boolean)) ({ frames := 2, cells := 0, slots := 0, locals := 45 } : Room)).room s m ([.ref (ad 30), .int a1, .int a2] : List Value).toArray below meth c H locs 0 0 (MQ below (QI g (WC g ad sg ++ X) (dd_A 59 ad X s.heap.size) r0) ([.ref (ad 30), .int a1, .int a2] : List Value).toArray s 0 0 (dd_A 59 ad X s.heap.size)) (F0 m 25 ls [.int t0]) := by
    intro t0 H locs ls hf hP hS hl
    unfold f_X5_isOpenOn_25 at hf
    obtain ⟨hz7, hf⟩ := gd_so hf
    exact W.zret (v := t0) hx hb hr (bz_z hz7) (fun t ht hW => ⟨⟨t0, (), rfl, so1 hf, P_at ht hP⟩, hS.F ht⟩) hS.2.2 dX5_isOpenOn_25
  have hL_24 : ∀ (H : Heap) (locs : List Loc) (ls : Array Slot), f_X5_isOpenOn_24 sg a1 a2 = some (r0) → va_P g.1 vwCl (WC g ad sg ++ X) H → va_S (dd_A 59 ad X s.heap.size) s.heap H locs → lv_has ls 3 [] → W p l e (headSpec (lw_ws yX5_isOpenOn cX5_isOpenOn 3 (some .boolean)) ({ frames := 2, cells := 0, slots := 0, locals := 45 } : Room)).room s m ([.ref (ad 30), .int a1, .int a2] : List Value).toArray below meth c H locs 0 0 (MQ below (QI g (WC g ad sg ++ X) (dd_A 59 ad X s.heap.size) r0) ([.ref (ad 30), .int a1, .int a2] : List Value).toArray s 0 0 (dd_A 59 ad X s.heap.size)) (F0 m 24 ls []) := by
    intro H locs ls hf hP hS hl
    unfold f_X5_isOpenOn_24 at hf
    refine lv_iconst (v := (0 : Int32)) hx hb dX5_isOpenOn_24 (by decide) ?_
    exact hL_25 (0 : Int32) _ _ _ hf hP hS (lv_sub hl [] rfl)
  unfold f_X5_isOpenOn at hf
  have hl := lv_entry ([.ref (ad 30), .int a1, .int a2]) (n := 3) (Nat.le_of_ble_eq_true rfl)
  rw [lg_entry_eq]
  generalize (lg_sl ([.ref (ad 30), .int a1, .int a2]) ++ List.replicate (3 - (lg_sl ([.ref (ad 30), .int a1, .int a2])).length) Slot.unset).toArray = ls at hl ⊢
  have hl : lv_has ls 3 [(0, .ref (ad 30)), (1, .int a1), (2, .int a2)] := hl
  refine lv_aload_n hx hb dX5_isOpenOn_0 rfl (lv_at hl 0 rfl) ?_
  refine lv_iload_n hx hb dX5_isOpenOn_1 rfl (lv_at hl 1 rfl) ?_
  obtain ⟨r2, q1, hf⟩ := bd_so hf
  refine cl_r (va_runV (As := [.int a1]) (rest := []) ⟨hx, hb, hml, hown, hts⟩ (c_X5_dutyAt l g ad X _ sg a1 r2 q1) (cwV 1 hts gl_X5_164 rfl rfl rfl yd_X5_dutyAt ⟨Nat.le_of_ble_eq_true rfl, Nat.le_of_ble_eq_true rfl⟩) (preV_of hK hP (hD sg) (dd_at (by decide) cc_30) rfl) rfl rfl hl.1 rfl (lv_room (Nat.le_of_ble_eq_true rfl)) dX5_isOpenOn_2 ⟨Nat.le_of_ble_eq_true rfl, Nat.le_of_ble_eq_true rfl⟩) hS (fun q h => dd_A_mono hS.1 h) (fun q h => dd_A_mono hS.1 h) (fun H locs hP hS => ?_)
  have hr2 := lt_X5_dutyAt q1
  refine gf_X5_197 hx hb hts hown hK hP hr2 dX5_isOpenOn_5 ?_
  refine lv_if_le (tgt := 24) hx hb dX5_isOpenOn_8 (by decide) (fun c3 => ?_) (fun c3 => ?_)
  · have hf := if_t c3 hf
    exact hL_24 _ _ _ hf hP hS (lv_sub hl [] rfl)
  · have hf := if_f c3 hf
    refine lv_aload_n hx hb dX5_isOpenOn_11 rfl (lv_at hl 0 rfl) ?_
    refine lv_iload_n hx hb dX5_isOpenOn_12 rfl (lv_at hl 1 rfl) ?_
    refine lv_iload_n hx hb dX5_isOpenOn_13 rfl (lv_at hl 2 rfl) ?_
    obtain ⟨r5, q4, hf⟩ := bd_so hf
    refine cl_i (va_runV (As := [.int a1, .int a2]) (rest := []) ⟨hx, hb, hml, hown, hts⟩ (c_X5_isHadOn l g ad X _ sg a1 a2 r5 q4) (cwV 2 hts gl_X5_365 rfl rfl rfl yd_X5_isHadOn ⟨Nat.le_of_ble_eq_true rfl, Nat.le_of_ble_eq_true rfl⟩) (preV_of hK hP (hD sg) (dd_at (by decide) cc_30) rfl) rfl rfl hl.1 rfl (lv_room (Nat.le_of_ble_eq_true rfl)) dX5_isOpenOn_14 ⟨Nat.le_of_ble_eq_true rfl, Nat.le_of_ble_eq_true rfl⟩) hS (fun q h => dd_A_mono hS.1 h) (fun q h => dd_A_mono hS.1 h) (fun H locs hP hS => ?_)
    refine lv_if_ne (tgt := 24) hx hb dX5_isOpenOn_17 (by decide) (fun c6 => ?_) (fun c6 => ?_)
    · have hf := if_f c6 hf
      exact hL_24 _ _ _ hf hP hS (lv_sub hl [] rfl)
    · have hf := if_t c6 hf
      refine lv_iconst (v := (1 : Int32)) hx hb dX5_isOpenOn_20 (by decide) ?_
      refine lv_goto (tgt := 25) hx hb dX5_isOpenOn_21 (by decide) ?_
      exact hL_25 (1 : Int32) _ _ _ hf hP hS (lv_sub hl [] rfl)
set_option maxHeartbeats 4000000 in
set_option maxRecDepth 100000 in
theorem c_X5_openDuties (l : Launch) (g : dd_G) (ad : Nat → Nat) (X : va_W) (sz : Nat) (sg : dd_S) (a1 : Int32) (r0 : Int32) (hf : f_X5_openDuties sg a1 = some (r0)) : Met l yX5_openDuties (lw_ws yX5_openDuties cX5_openDuties 4 (some .int)) ({ frames := 3, cells := 0, slots := 0, locals := 67 } : Room) (va_Pc [.ref (ad 30), .int a1] (PreW g (WC g ad sg ++ X) sz)) (QI g (WC g ad sg ++ X) (dd_A 59 ad X sz) r0) 0 0 (dd_A 59 ad X sz) := by
  refine Met.ofW (cc := cX5_openDuties) (maxL := 4) (ret := some .int) (by decide) rfl ?_
  intro p e s m args below meth c s₁ B hml hv
  obtain ⟨rfl, rfl, hP, hK, hD0⟩ := hv
  have hx := B.exec
  have hb := B.bytes
  have hr := B.returns
  have hts := atoms_spec (ws := (lw_ws yX5_openDuties cX5_openDuties 4 (some .int))) B.pre
  have hts : ∀ w ∈ lw_all, w.before _ s = true := fun w h => hts w (List.mem_cons_of_mem _ h)
  have hown : s.vm.findClass RX5 = some m.cls := findClass_of_methodNamed B.named
  have hlocks := B.notSynchronized
  have hD : ∀ s2 : dd_S, va_D (dd_A 59 ad X s.heap.size) (WC g ad s2 ++ X) := fun s2 => dd_D (dd_A_D hD0)
  have hS : va_S (dd_A 59 ad X s.heap.size) s.heap s.heap [] := va_S.rf
  have hL_24 : ∀ (k_4 : Int32 → Int32 → Option (Int32)) (hk_4 : ∀ (v2 : Int32) (v3 : Int32) (H : Heap) (locs : List Loc) (ls : Array Slot), k_4 v2 v3 = some (r0) → va_P g.1 vwCl (WC g ad sg ++ X) H → va_S (dd_A 59 ad X s.heap.size) s.heap H locs → lv_has ls 4 [(0, .ref (ad 30)), (1, .int a1), (2, .int v2), (3, .int v3)] → W p l e (headSpec (lw_ws yX5_openDuties cX5_openDuties 4 (some .int)) ({ frames := 3, cells := 0, slots := 0, locals := 67 } : Room)).room s m ([.ref (ad 30), .int a1] : List Value).toArray below meth c H locs 0 0 (MQ below (QI g (WC g ad sg ++ X) (dd_A 59 ad X s.heap.size) r0) ([.ref (ad 30), .int a1] : List Value).toArray s 0 0 (dd_A 59 ad X s.heap.size)) (F0 m 4 ls [])), ∀ (v2 : Int32) (v3 : Int32) (H : Heap) (locs : List Loc) (ls : Array Slot), f_X5_openDuties_24 sg a1 k_4 v2 v3 = some (r0) → va_P g.1 vwCl (WC g ad sg ++ X) H → va_S (dd_A 59 ad X s.heap.size) s.heap H locs → lv_has ls 4 [(0, .ref (ad 30)), (1, .int a1), (2, .int v2), (3, .int v3)] → W p l e (headSpec (lw_ws yX5_openDuties cX5_openDuties 4 (some .int)) ({ frames := 3, cells := 0, slots := 0, locals := 67 } : Room)).room s m ([.ref (ad 30), .int a1] : List Value).toArray below meth c H locs 0 0 (MQ below (QI g (WC g ad sg ++ X) (dd_A 59 ad X s.heap.size) r0) ([.ref (ad 30), .int a1] : List Value).toArray s 0 0 (dd_A 59 ad X s.heap.size)) (F0 m 24 ls []) := by
    intro k_4 hk_4 v2 v3 H locs ls hf hP hS hl
    unfold f_X5_openDuties_24 at hf
    obtain ⟨x6, ex6, hf⟩ := lt_ex hf
    refine lv_iinc (v := x6) (lv' := [(3, .int x6), (0, .ref (ad 30)), (1, .int a1), (2, .int v2)]) hx hb dX5_openDuties_24 hl (k := 3) rfl (by rw [ex6]; rfl) (by decide) rfl (fun ls hl => ?_)
    refine lv_goto (tgt := 4) hx hb dX5_openDuties_27 (by decide) ?_
    exact hk_4 v2 x6 _ _ _ hf hP hS (lv_sub hl [1, 2, 3, 0] rfl)
  have hL_4 : ∀ (n : Nat), ∀ (v2 : Int32) (v3 : Int32) (H : Heap) (locs : List Loc) (ls : Array Slot), f_X5_openDuties_4 sg a1 n v2 v3 = some (r0) → va_P g.1 vwCl (WC g ad sg ++ X) H → va_S (dd_A 59 ad X s.heap.size) s.heap H locs → lv_has ls 4 [(0, .ref (ad 30)), (1, .int a1), (2, .int v2), (3, .int v3)] → W p l e (headSpec (lw_ws yX5_openDuties cX5_openDuties 4 (some .int)) ({ frames := 3, cells := 0, slots := 0, locals := 67 } : Room)).room s m ([.ref (ad 30), .int a1] : List Value).toArray below meth c H locs 0 0 (MQ below (QI g (WC g ad sg ++ X) (dd_A 59 ad X s.heap.size) r0) ([.ref (ad 30), .int a1] : List Value).toArray s 0 0 (dd_A 59 ad X s.heap.size)) (F0 m 4 ls []) := by
    intro n
    induction n with
    | zero =>
      intro v2 v3 H locs ls hf
      rw [f_X5_openDuties_4] at hf
      cases hf
    | succ n ih =>
      intro v2 v3 H locs ls hf hP hS hl
      rw [f_X5_openDuties_4] at hf
      refine lv_iload_n hx hb dX5_openDuties_4 rfl (lv_at hl 3 rfl) ?_
      refine lv_aload_n hx hb dX5_openDuties_5 rfl (lv_at hl 0 rfl) ?_
      refine gf_X5_137 hx hb hts hown hK hP dX5_openDuties_6 ?_
      refine lv_icmp_ge (tgt := 30) hx hb dX5_openDuties_9 (by decide) (fun c1 => ?_) (fun c1 => ?_)
      · have hf := if_t c1 hf
        refine lv_iload_n hx hb dX5_openDuties_30 rfl (lv_at hl 2 rfl) ?_
        exact W.iret (v := v2) hx hb hr (fun t ht hW => ⟨⟨v2, (), rfl, so1 hf, P_at ht hP⟩, hS.F ht⟩) hS.2.2 dX5_openDuties_31
      · have hf := if_f c1 hf
        refine lv_aload_n hx hb dX5_openDuties_12 rfl (lv_at hl 0 rfl) ?_
        refine lv_iload_n hx hb dX5_openDuties_13 rfl (lv_at hl 3 rfl) ?_
        refine lv_iload_n hx hb dX5_openDuties_14 rfl (lv_at hl 1 rfl) ?_
        obtain ⟨r3, q2, hf⟩ := bd_so hf
        refine cl_i (va_runV (As := [.int v3, .int a1]) (rest := []) ⟨hx, hb, hml, hown, hts⟩ (c_X5_isOpenOn l g ad X _ sg v3 a1 r3 q2) (cwV 2 hts gl_X5_295 rfl rfl rfl yd_X5_isOpenOn ⟨Nat.le_of_ble_eq_true rfl, Nat.le_of_ble_eq_true rfl⟩) (preV_of hK hP (hD sg) (dd_at (by decide) cc_30) rfl) rfl rfl hl.1 rfl (lv_room (Nat.le_of_ble_eq_true rfl)) dX5_openDuties_15 ⟨Nat.le_of_ble_eq_true rfl, Nat.le_of_ble_eq_true rfl⟩) hS (fun q h => dd_A_mono hS.1 h) (fun q h => dd_A_mono hS.1 h) (fun H locs hP hS => ?_)
        refine lv_if_eq (tgt := 24) hx hb dX5_openDuties_18 (by decide) (fun c4 => ?_) (fun c4 => ?_)
        · have hf := if_t c4 hf
          exact hL_24 (fun z0 z1 => f_X5_openDuties_4 sg a1 n z0 z1) ih v2 v3 _ _ _ hf hP hS (lv_sub hl [0, 1, 2, 3] rfl)
        · have hf := if_f c4 hf
          obtain ⟨x5, ex5, hf⟩ := lt_ex hf
          refine lv_iinc (v := x5) (lv' := [(2, .int x5), (0, .ref (ad 30)), (1, .int a1), (3, .int v3)]) hx hb dX5_openDuties_21 hl (k := 2) rfl (by rw [ex5]; rfl) (by decide) rfl (fun ls hl => ?_)
          exact hL_24 (fun z0 z1 => f_X5_openDuties_4 sg a1 n z0 z1) ih x5 v3 _ _ _ hf hP hS (lv_sub hl [1, 2, 0, 3] rfl)
  unfold f_X5_openDuties at hf
  have hl := lv_entry ([.ref (ad 30), .int a1]) (n := 4) (Nat.le_of_ble_eq_true rfl)
  rw [lg_entry_eq]
  generalize (lg_sl ([.ref (ad 30), .int a1]) ++ List.replicate (4 - (lg_sl ([.ref (ad 30), .int a1])).length) Slot.unset).toArray = ls at hl ⊢
  have hl : lv_has ls 4 [(0, .ref (ad 30)), (1, .int a1)] := hl
  refine lv_iconst (v := (0 : Int32)) hx hb dX5_openDuties_0 (by decide) ?_
  refine lv_istore_n (lv' := [(2, .int (0 : Int32)), (0, .ref (ad 30)), (1, .int a1)]) hx hb dX5_openDuties_1 rfl hl (by decide) rfl (fun ls hl => ?_)
  refine lv_iconst (v := (0 : Int32)) hx hb dX5_openDuties_2 (by decide) ?_
  refine lv_istore_n (lv' := [(3, .int (0 : Int32)), (2, .int (0 : Int32)), (0, .ref (ad 30)), (1, .int a1)]) hx hb dX5_openDuties_3 rfl hl (by decide) rfl (fun ls hl => ?_)
  exact hL_4 64 (0 : Int32) (0 : Int32) _ _ _ hf hP hS (lv_sub hl [2, 3, 1, 0] rfl)
set_option maxHeartbeats 4000000 in
set_option maxRecDepth 100000 in
theorem c_X5_weekPay (l : Launch) (g : dd_G) (ad : Nat → Nat) (X : va_W) (sz : Nat) (sg : dd_S) (a1 : Int32) (r0 : Int32) (hf : f_X5_weekPay sg a1 = some (r0)) : Met l yX5_weekPay (lw_ws yX5_weekPay cX5_weekPay 4 (some .int)) ({ frames := 1, cells := 0, slots := 0, locals := 22 } : Room) (va_Pc [.ref (ad 30), .int a1] (PreW g (WC g ad sg ++ X) sz)) (QI g (WC g ad sg ++ X) (dd_A 59 ad X sz) r0) 0 0 (dd_A 59 ad X sz) := by
  refine Met.ofW (cc := cX5_weekPay) (maxL := 4) (ret := some .int) (by decide) rfl ?_
  intro p e s m args below meth c s₁ B hml hv
  obtain ⟨rfl, rfl, hP, hK, hD0⟩ := hv
  have hx := B.exec
  have hb := B.bytes
  have hr := B.returns
  have hts := atoms_spec (ws := (lw_ws yX5_weekPay cX5_weekPay 4 (some .int))) B.pre
  have hts : ∀ w ∈ lw_all, w.before _ s = true := fun w h => hts w (List.mem_cons_of_mem _ h)
  have hown : s.vm.findClass RX5 = some m.cls := findClass_of_methodNamed B.named
  have hlocks := B.notSynchronized
  have hD : ∀ s2 : dd_S, va_D (dd_A 59 ad X s.heap.size) (WC g ad s2 ++ X) := fun s2 => dd_D (dd_A_D hD0)
  have hS : va_S (dd_A 59 ad X s.heap.size) s.heap s.heap [] := va_S.rf
  have hL_4 : ∀ (n : Nat), ∀ (v2 : Int32) (v3 : Int32) (H : Heap) (locs : List Loc) (ls : Array Slot), f_X5_weekPay_4 sg a1 n v2 v3 = some (r0) → va_P g.1 vwCl (WC g ad sg ++ X) H → va_S (dd_A 59 ad X s.heap.size) s.heap H locs → lv_has ls 4 [(0, .ref (ad 30)), (1, .int a1), (2, .int v2), (3, .int v3)] → W p l e (headSpec (lw_ws yX5_weekPay cX5_weekPay 4 (some .int)) ({ frames := 1, cells := 0, slots := 0, locals := 22 } : Room)).room s m ([.ref (ad 30), .int a1] : List Value).toArray below meth c H locs 0 0 (MQ below (QI g (WC g ad sg ++ X) (dd_A 59 ad X s.heap.size) r0) ([.ref (ad 30), .int a1] : List Value).toArray s 0 0 (dd_A 59 ad X s.heap.size)) (F0 m 4 ls []) := by
    intro n
    induction n with
    | zero =>
      intro v2 v3 H locs ls hf
      rw [f_X5_weekPay_4] at hf
      cases hf
    | succ n ih =>
      intro v2 v3 H locs ls hf hP hS hl
      rw [f_X5_weekPay_4] at hf
      refine lv_iload_n hx hb dX5_weekPay_4 rfl (lv_at hl 3 rfl) ?_
      refine lv_bipush (v := (7 : Int32)) hx hb dX5_weekPay_5 (by decide) ?_
      refine lv_icmp_ge (tgt := 32) hx hb dX5_weekPay_7 (by decide) (fun c1 => ?_) (fun c1 => ?_)
      · have hf := if_t c1 hf
        refine lv_iload_n hx hb dX5_weekPay_32 rfl (lv_at hl 2 rfl) ?_
        exact W.iret (v := v2) hx hb hr (fun t ht hW => ⟨⟨v2, (), rfl, so1 hf, P_at ht hP⟩, hS.F ht⟩) hS.2.2 dX5_weekPay_33
      · have hf := if_f c1 hf
        refine lv_iload_n hx hb dX5_weekPay_10 rfl (lv_at hl 2 rfl) ?_
        refine lv_aload_n hx hb dX5_weekPay_11 rfl (lv_at hl 0 rfl) ?_
        refine lv_aload_n hx hb dX5_weekPay_12 rfl (lv_at hl 0 rfl) ?_
        refine lv_iload_n hx hb dX5_weekPay_13 rfl (lv_at hl 1 rfl) ?_
        refine lv_iload_n hx hb dX5_weekPay_14 rfl (lv_at hl 3 rfl) ?_
        obtain ⟨r3, q2, hf⟩ := bd_so hf
        refine cl_i (va_runV (As := [.int a1, .int v3]) (rest := [.ref (ad 30), .int v2]) ⟨hx, hb, hml, hown, hts⟩ (c_X5_dutyOn l g ad X _ sg a1 v3 r3 q2) (cwV 2 hts gl_X5_288 rfl rfl rfl yd_X5_dutyOn ⟨Nat.le_of_ble_eq_true rfl, Nat.le_of_ble_eq_true rfl⟩) (preV_of hK hP (hD sg) (dd_at (by decide) cc_30) rfl) rfl rfl hl.1 rfl (lv_room (Nat.le_of_ble_eq_true rfl)) dX5_weekPay_15 ⟨Nat.le_of_ble_eq_true rfl, Nat.le_of_ble_eq_true rfl⟩) hS (fun q h => dd_A_mono hS.1 h) (fun q h => dd_A_mono hS.1 h) (fun H locs hP hS => ?_)
        obtain ⟨r5, q4, hf⟩ := bd_so hf
        refine cl_r (va_runV (As := [.int r3]) (rest := [.int v2]) ⟨hx, hb, hml, hown, hts⟩ (c_X5_dutyAt l g ad X _ sg r3 r5 q4) (cwV 1 hts gl_X5_164 rfl rfl rfl yd_X5_dutyAt ⟨Nat.le_of_ble_eq_true rfl, Nat.le_of_ble_eq_true rfl⟩) (preV_of hK hP (hD sg) (dd_at (by decide) cc_30) rfl) rfl rfl hl.1 rfl (lv_room (Nat.le_of_ble_eq_true rfl)) dX5_weekPay_18 ⟨Nat.le_of_ble_eq_true rfl, Nat.le_of_ble_eq_true rfl⟩) hS (fun q h => dd_A_mono hS.1 h) (fun q h => dd_A_mono hS.1 h) (fun H locs hP hS => ?_)
        have hr5 := lt_X5_dutyAt q4
        refine gf_X5_255 hx hb hts hown hK hP hr5 dX5_weekPay_21 ?_
        refine lv_iadd hx hb dX5_weekPay_24 ?_
        refine lv_topi (fun x6 ex6 => ?_)
        have hf := lt_so ex6 hf
        refine lv_istore_n (lv' := [(2, .int x6), (0, .ref (ad 30)), (1, .int a1), (3, .int v3)]) hx hb dX5_weekPay_25 rfl hl (by decide) rfl (fun ls hl => ?_)
        obtain ⟨x7, ex7, hf⟩ := lt_ex hf
        refine lv_iinc (v := x7) (lv' := [(3, .int x7), (2, .int x6), (0, .ref (ad 30)), (1, .int a1)]) hx hb dX5_weekPay_26 hl (k := 3) rfl (by rw [ex7]; rfl) (by decide) rfl (fun ls hl => ?_)
        refine lv_goto (tgt := 4) hx hb dX5_weekPay_29 (by decide) ?_
        exact ih x6 x7 _ _ _ hf hP hS (lv_sub hl [2, 3, 1, 0] rfl)
  unfold f_X5_weekPay at hf
  have hl := lv_entry ([.ref (ad 30), .int a1]) (n := 4) (Nat.le_of_ble_eq_true rfl)
  rw [lg_entry_eq]
  generalize (lg_sl ([.ref (ad 30), .int a1]) ++ List.replicate (4 - (lg_sl ([.ref (ad 30), .int a1])).length) Slot.unset).toArray = ls at hl ⊢
  have hl : lv_has ls 4 [(0, .ref (ad 30)), (1, .int a1)] := hl
  refine lv_iconst (v := (0 : Int32)) hx hb dX5_weekPay_0 (by decide) ?_
  refine lv_istore_n (lv' := [(2, .int (0 : Int32)), (0, .ref (ad 30)), (1, .int a1)]) hx hb dX5_weekPay_1 rfl hl (by decide) rfl (fun ls hl => ?_)
  refine lv_iconst (v := (0 : Int32)) hx hb dX5_weekPay_2 (by decide) ?_
  refine lv_istore_n (lv' := [(3, .int (0 : Int32)), (2, .int (0 : Int32)), (0, .ref (ad 30)), (1, .int a1)]) hx hb dX5_weekPay_3 rfl hl (by decide) rfl (fun ls hl => ?_)
  exact hL_4 64 (0 : Int32) (0 : Int32) _ _ _ hf hP hS (lv_sub hl [2, 3, 1, 0] rfl)
set_option maxHeartbeats 4000000 in
set_option maxRecDepth 100000 in
theorem c_X5_restBetween (l : Launch) (g : dd_G) (ad : Nat → Nat) (X : va_W) (sz : Nat) (sg : dd_S) (a1 : Int32) (a2 : Int32) (r0 : Int32) (hf : f_X5_restBetween sg a1 a2 = some (r0)) : Met l yX5_restBetween (lw_ws yX5_restBetween cX5_restBetween 3 (some .int)) ({ frames := 1, cells := 0, slots := 0, locals := 22 } : Room) (va_Pc [.ref (ad 30), .int a1, .int a2] (PreW g (WC g ad sg ++ X) sz)) (QI g (WC g ad sg ++ X) (dd_A 59 ad X sz) r0) 0 0 (dd_A 59 ad X sz) := by
  refine Met.ofW (cc := cX5_restBetween) (maxL := 3) (ret := some .int) (by decide) rfl ?_
  intro p e s m args below meth c s₁ B hml hv
  obtain ⟨rfl, rfl, hP, hK, hD0⟩ := hv
  have hx := B.exec
  have hb := B.bytes
  have hr := B.returns
  have hts := atoms_spec (ws := (lw_ws yX5_restBetween cX5_restBetween 3 (some .int))) B.pre
  have hts : ∀ w ∈ lw_all, w.before _ s = true := fun w h => hts w (List.mem_cons_of_mem _ h)
  have hown : s.vm.findClass RX5 = some m.cls := findClass_of_methodNamed B.named
  have hlocks := B.notSynchronized
  have hD : ∀ s2 : dd_S, va_D (dd_A 59 ad X s.heap.size) (WC g ad s2 ++ X) := fun s2 => dd_D (dd_A_D hD0)
  have hS : va_S (dd_A 59 ad X s.heap.size) s.heap s.heap [] := va_S.rf
  unfold f_X5_restBetween at hf
  have hl := lv_entry ([.ref (ad 30), .int a1, .int a2]) (n := 3) (Nat.le_of_ble_eq_true rfl)
  rw [lg_entry_eq]
  generalize (lg_sl ([.ref (ad 30), .int a1, .int a2]) ++ List.replicate (3 - (lg_sl ([.ref (ad 30), .int a1, .int a2])).length) Slot.unset).toArray = ls at hl ⊢
  have hl : lv_has ls 3 [(0, .ref (ad 30)), (1, .int a1), (2, .int a2)] := hl
  refine lv_aload_n hx hb dX5_restBetween_0 rfl (lv_at hl 0 rfl) ?_
  refine lv_iload_n hx hb dX5_restBetween_1 rfl (lv_at hl 2 rfl) ?_
  obtain ⟨r2, q1, hf⟩ := bd_so hf
  refine cl_r (va_runV (As := [.int a2]) (rest := []) ⟨hx, hb, hml, hown, hts⟩ (c_X5_dutyAt l g ad X _ sg a2 r2 q1) (cwV 1 hts gl_X5_164 rfl rfl rfl yd_X5_dutyAt ⟨Nat.le_of_ble_eq_true rfl, Nat.le_of_ble_eq_true rfl⟩) (preV_of hK hP (hD sg) (dd_at (by decide) cc_30) rfl) rfl rfl hl.1 rfl (lv_room (Nat.le_of_ble_eq_true rfl)) dX5_restBetween_2 ⟨Nat.le_of_ble_eq_true rfl, Nat.le_of_ble_eq_true rfl⟩) hS (fun q h => dd_A_mono hS.1 h) (fun q h => dd_A_mono hS.1 h) (fun H locs hP hS => ?_)
  have hr2 := lt_X5_dutyAt q1
  refine gf_X5_298 hx hb hts hown hK hP hr2 dX5_restBetween_5 ?_
  refine lv_sipush (v := (1440 : Int32)) hx hb dX5_restBetween_8 (by decide) ?_
  refine lv_iadd hx hb dX5_restBetween_11 ?_
  refine lv_aload_n hx hb dX5_restBetween_12 rfl (lv_at hl 0 rfl) ?_
  refine lv_iload_n hx hb dX5_restBetween_13 rfl (lv_at hl 1 rfl) ?_
  obtain ⟨r4, q3, hf⟩ := bd_so hf
  refine cl_r (va_runV (As := [.int a1]) (rest := [.int ((sg r2 2) + (1440 : Int32))]) ⟨hx, hb, hml, hown, hts⟩ (c_X5_dutyAt l g ad X _ sg a1 r4 q3) (cwV 1 hts gl_X5_164 rfl rfl rfl yd_X5_dutyAt ⟨Nat.le_of_ble_eq_true rfl, Nat.le_of_ble_eq_true rfl⟩) (preV_of hK hP (hD sg) (dd_at (by decide) cc_30) rfl) rfl rfl hl.1 rfl (lv_room (Nat.le_of_ble_eq_true rfl)) dX5_restBetween_14 ⟨Nat.le_of_ble_eq_true rfl, Nat.le_of_ble_eq_true rfl⟩) hS (fun q h => dd_A_mono hS.1 h) (fun q h => dd_A_mono hS.1 h) (fun H locs hP hS => ?_)
  have hr4 := lt_X5_dutyAt q3
  refine gf_X5_327 hx hb hts hown hK hP hr4 dX5_restBetween_17 ?_
  refine lv_isub hx hb dX5_restBetween_20 ?_
  exact W.iret (v := (((sg r2 2) + (1440 : Int32)) - (sg r4 3))) hx hb hr (fun t ht hW => ⟨⟨(((sg r2 2) + (1440 : Int32)) - (sg r4 3)), (), rfl, so1 hf, P_at ht hP⟩, hS.F ht⟩) hS.2.2 dX5_restBetween_21
set_option maxHeartbeats 4000000 in
set_option maxRecDepth 100000 in
theorem c_X5_hasRest (l : Launch) (g : dd_G) (ad : Nat → Nat) (X : va_W) (sz : Nat) (sg : dd_S) (a1 : Int32) (a2 : Int32) (a3 : Int32) (r0 : Int32) (hf : f_X5_hasRest sg a1 a2 a3 = some (r0)) : Met l yX5_hasRest (lw_ws yX5_hasRest cX5_hasRest 6 (some .boolean)) ({ frames := 2, cells := 0, slots := 0, locals := 44 } : Room) (va_Pc [.ref (ad 30), .int a1, .int a2, .int a3] (PreW g (WC g ad sg ++ X) sz)) (QI g (WC g ad sg ++ X) (dd_A 59 ad X sz) r0) 0 0 (dd_A 59 ad X sz) := by
  refine Met.ofW (cc := cX5_hasRest) (maxL := 6) (ret := some .boolean) (by decide) rfl ?_
  intro p e s m args below meth c s₁ B hml hv
  obtain ⟨rfl, rfl, hP, hK, hD0⟩ := hv
  have hx := B.exec
  have hb := B.bytes
  have hr := B.returns
  have hts := atoms_spec (ws := (lw_ws yX5_hasRest cX5_hasRest 6 (some .boolean))) B.pre
  have hts : ∀ w ∈ lw_all, w.before _ s = true := fun w h => hts w (List.mem_cons_of_mem _ h)
  have hown : s.vm.findClass RX5 = some m.cls := findClass_of_methodNamed B.named
  have hlocks := B.notSynchronized
  have hD : ∀ s2 : dd_S, va_D (dd_A 59 ad X s.heap.size) (WC g ad s2 ++ X) := fun s2 => dd_D (dd_A_D hD0)
  have hS : va_S (dd_A 59 ad X s.heap.size) s.heap s.heap [] := va_S.rf
  have hL_73 : ∀ (t0 : Int32) (H : Heap) (locs : List Loc) (ls : Array Slot), f_X5_hasRest_73 sg a1 a2 a3 t0 = some (r0) → va_P g.1 vwCl (WC g ad sg ++ X) H → va_S (dd_A 59 ad X s.heap.size) s.heap H locs → lv_has ls 6 [] → W p l e (headSpec (lw_ws yX5_hasRest cX5_hasRest 6 (some .boolean)) ({ frames := 2, cells := 0, slots := 0, locals := 44 } : Room)).room s m ([.ref (ad 30), .int a1, .int a2, .int a3] : List Value).toArray below meth c H locs 0 0 (MQ below (QI g (WC g ad sg ++ X) (dd_A 59 ad X s.heap.size) r0) ([.ref (ad 30), .int a1, .int a2, .int a3] : List Value).toArray s 0 0 (dd_A 59 ad X s.heap.size)) (F0 m 73 ls [.int t0]) := by
    intro t0 H locs ls hf hP hS hl
    unfold f_X5_hasRest_73 at hf
    obtain ⟨hz13, hf⟩ := gd_so hf
    exact W.zret (v := t0) hx hb hr (bz_z hz13) (fun t ht hW => ⟨⟨t0, (), rfl, so1 hf, P_at ht hP⟩, hS.F ht⟩) hS.2.2 dX5_hasRest_73
  have hL_68 : ∀ (H : Heap) (locs : List Loc) (ls : Array Slot), f_X5_hasRest_68 sg a1 a2 a3 = some (r0) → va_P g.1 vwCl (WC g ad sg ++ X) H → va_S (dd_A 59 ad X s.heap.size) s.heap H locs → lv_has ls 6 [] → W p l e (headSpec (lw_ws yX5_hasRest cX5_hasRest 6 (some .boolean)) ({ frames := 2, cells := 0, slots := 0, locals := 44 } : Room)).room s m ([.ref (ad 30), .int a1, .int a2, .int a3] : List Value).toArray below meth c H locs 0 0 (MQ below (QI g (WC g ad sg ++ X) (dd_A 59 ad X s.heap.size) r0) ([.ref (ad 30), .int a1, .int a2, .int a3] : List Value).toArray s 0 0 (dd_A 59 ad X s.heap.size)) (F0 m 68 ls []) := by
    intro H locs ls hf hP hS hl
    unfold f_X5_hasRest_68 at hf
    refine lv_iconst (v := (1 : Int32)) hx hb dX5_hasRest_68 (by decide) ?_
    refine lv_goto (tgt := 73) hx hb dX5_hasRest_69 (by decide) ?_
    exact hL_73 (1 : Int32) _ _ _ hf hP hS (lv_sub hl [] rfl)
  have hL_35 : ∀ (H : Heap) (locs : List Loc) (ls : Array Slot), f_X5_hasRest_35 sg a1 a2 a3 = some (r0) → va_P g.1 vwCl (WC g ad sg ++ X) H → va_S (dd_A 59 ad X s.heap.size) s.heap H locs → lv_has ls 6 [(0, .ref (ad 30)), (1, .int a1), (2, .int a2), (3, .int a3)] → W p l e (headSpec (lw_ws yX5_hasRest cX5_hasRest 6 (some .boolean)) ({ frames := 2, cells := 0, slots := 0, locals := 44 } : Room)).room s m ([.ref (ad 30), .int a1, .int a2, .int a3] : List Value).toArray below meth c H locs 0 0 (MQ below (QI g (WC g ad sg ++ X) (dd_A 59 ad X s.heap.size) r0) ([.ref (ad 30), .int a1, .int a2, .int a3] : List Value).toArray s 0 0 (dd_A 59 ad X s.heap.size)) (F0 m 35 ls []) := by
    intro H locs ls hf hP hS hl
    unfold f_X5_hasRest_35 at hf
    refine lv_aload_n hx hb dX5_hasRest_35 rfl (lv_at hl 0 rfl) ?_
    refine lv_iload_n hx hb dX5_hasRest_36 rfl (lv_at hl 1 rfl) ?_
    refine lv_iload_n hx hb dX5_hasRest_37 rfl (lv_at hl 2 rfl) ?_
    refine lv_iconst (v := (1 : Int32)) hx hb dX5_hasRest_38 (by decide) ?_
    refine lv_iadd hx hb dX5_hasRest_39 ?_
    obtain ⟨r8, q7, hf⟩ := bd_so hf
    refine cl_i (va_runV (As := [.int a1, .int (a2 + (1 : Int32))]) (rest := []) ⟨hx, hb, hml, hown, hts⟩ (c_X5_dutyOn l g ad X _ sg a1 (a2 + (1 : Int32)) r8 q7) (cwV 2 hts gl_X5_288 rfl rfl rfl yd_X5_dutyOn ⟨Nat.le_of_ble_eq_true rfl, Nat.le_of_ble_eq_true rfl⟩) (preV_of hK hP (hD sg) (dd_at (by decide) cc_30) rfl) rfl rfl hl.1 rfl (lv_room (Nat.le_of_ble_eq_true rfl)) dX5_hasRest_40 ⟨Nat.le_of_ble_eq_true rfl, Nat.le_of_ble_eq_true rfl⟩) hS (fun q h => dd_A_mono hS.1 h) (fun q h => dd_A_mono hS.1 h) (fun H locs hP hS => ?_)
    refine lv_istore (lv' := [(5, .int r8), (0, .ref (ad 30)), (1, .int a1), (2, .int a2), (3, .int a3)]) hx hb dX5_hasRest_43 hl (by decide) rfl (fun ls hl => ?_)
    refine lv_iload hx hb dX5_hasRest_45 (lv_at hl 0 rfl) ?_
    refine lv_iconst (v := (-1 : Int32)) hx hb dX5_hasRest_47 (by decide) ?_
    refine lv_icmp_eq (tgt := 68) hx hb dX5_hasRest_48 (by decide) (fun c9 => ?_) (fun c9 => ?_)
    · have hf := if_t c9 hf
      exact hL_68 _ _ _ hf hP hS (lv_sub hl [] rfl)
    · have hf := if_f c9 hf
      refine lv_aload_n hx hb dX5_hasRest_51 rfl (lv_at hl 1 rfl) ?_
      refine lv_iload_n hx hb dX5_hasRest_52 rfl (lv_at hl 4 rfl) ?_
      refine lv_iload hx hb dX5_hasRest_53 (lv_at hl 0 rfl) ?_
      obtain ⟨r11, q10, hf⟩ := bd_so hf
      refine cl_i (va_runV (As := [.int a3, .int r8]) (rest := []) ⟨hx, hb, hml, hown, hts⟩ (c_X5_restBetween l g ad X _ sg a3 r8 r11 q10) (cwV 2 hts gl_X5_311 rfl rfl rfl yd_X5_restBetween ⟨Nat.le_of_ble_eq_true rfl, Nat.le_of_ble_eq_true rfl⟩) (preV_of hK hP (hD sg) (dd_at (by decide) cc_30) rfl) rfl rfl hl.1 rfl (lv_room (Nat.le_of_ble_eq_true rfl)) dX5_hasRest_55 ⟨Nat.le_of_ble_eq_true rfl, Nat.le_of_ble_eq_true rfl⟩) hS (fun q h => dd_A_mono hS.1 h) (fun q h => dd_A_mono hS.1 h) (fun H locs hP hS => ?_)
      refine lv_aload_n hx hb dX5_hasRest_58 rfl (lv_at hl 1 rfl) ?_
      refine gf_X5_19 hx hb hts hown hK hP dX5_hasRest_59 ?_
      refine gf_X5_130 hx hb hts hown hK hP dX5_hasRest_62 ?_
      refine lv_icmp_lt (tgt := 72) hx hb dX5_hasRest_65 (by decide) (fun c12 => ?_) (fun c12 => ?_)
      · have hf := if_t c12 hf
        refine lv_iconst (v := (0 : Int32)) hx hb dX5_hasRest_72 (by decide) ?_
        exact hL_73 (0 : Int32) _ _ _ hf hP hS (lv_sub hl [] rfl)
      · have hf := if_f c12 hf
        exact hL_68 _ _ _ hf hP hS (lv_sub hl [] rfl)
  unfold f_X5_hasRest at hf
  have hl := lv_entry ([.ref (ad 30), .int a1, .int a2, .int a3]) (n := 6) (Nat.le_of_ble_eq_true rfl)
  rw [lg_entry_eq]
  generalize (lg_sl ([.ref (ad 30), .int a1, .int a2, .int a3]) ++ List.replicate (6 - (lg_sl ([.ref (ad 30), .int a1, .int a2, .int a3])).length) Slot.unset).toArray = ls at hl ⊢
  have hl : lv_has ls 6 [(0, .ref (ad 30)), (1, .int a1), (2, .int a2), (3, .int a3)] := hl
  refine lv_aload_n hx hb dX5_hasRest_0 rfl (lv_at hl 0 rfl) ?_
  refine lv_iload_n hx hb dX5_hasRest_1 rfl (lv_at hl 1 rfl) ?_
  refine lv_iload_n hx hb dX5_hasRest_2 rfl (lv_at hl 2 rfl) ?_
  refine lv_iconst (v := (1 : Int32)) hx hb dX5_hasRest_3 (by decide) ?_
  refine lv_isub hx hb dX5_hasRest_4 ?_
  obtain ⟨r2, q1, hf⟩ := bd_so hf
  refine cl_i (va_runV (As := [.int a1, .int (a2 - (1 : Int32))]) (rest := []) ⟨hx, hb, hml, hown, hts⟩ (c_X5_dutyOn l g ad X _ sg a1 (a2 - (1 : Int32)) r2 q1) (cwV 2 hts gl_X5_288 rfl rfl rfl yd_X5_dutyOn ⟨Nat.le_of_ble_eq_true rfl, Nat.le_of_ble_eq_true rfl⟩) (preV_of hK hP (hD sg) (dd_at (by decide) cc_30) rfl) rfl rfl hl.1 rfl (lv_room (Nat.le_of_ble_eq_true rfl)) dX5_hasRest_5 ⟨Nat.le_of_ble_eq_true rfl, Nat.le_of_ble_eq_true rfl⟩) hS (fun q h => dd_A_mono hS.1 h) (fun q h => dd_A_mono hS.1 h) (fun H locs hP hS => ?_)
  refine lv_istore (lv' := [(4, .int r2), (0, .ref (ad 30)), (1, .int a1), (2, .int a2), (3, .int a3)]) hx hb dX5_hasRest_8 hl (by decide) rfl (fun ls hl => ?_)
  refine lv_iload hx hb dX5_hasRest_10 (lv_at hl 0 rfl) ?_
  refine lv_iconst (v := (-1 : Int32)) hx hb dX5_hasRest_12 (by decide) ?_
  refine lv_icmp_eq (tgt := 35) hx hb dX5_hasRest_13 (by decide) (fun c3 => ?_) (fun c3 => ?_)
  · have hf := if_t c3 hf
    exact hL_35 _ _ _ hf hP hS (lv_sub hl [1, 2, 3, 4] rfl)
  · have hf := if_f c3 hf
    refine lv_aload_n hx hb dX5_hasRest_16 rfl (lv_at hl 1 rfl) ?_
    refine lv_iload hx hb dX5_hasRest_17 (lv_at hl 0 rfl) ?_
    refine lv_iload_n hx hb dX5_hasRest_19 rfl (lv_at hl 4 rfl) ?_
    obtain ⟨r5, q4, hf⟩ := bd_so hf
    refine cl_i (va_runV (As := [.int r2, .int a3]) (rest := []) ⟨hx, hb, hml, hown, hts⟩ (c_X5_restBetween l g ad X _ sg r2 a3 r5 q4) (cwV 2 hts gl_X5_311 rfl rfl rfl yd_X5_restBetween ⟨Nat.le_of_ble_eq_true rfl, Nat.le_of_ble_eq_true rfl⟩) (preV_of hK hP (hD sg) (dd_at (by decide) cc_30) rfl) rfl rfl hl.1 rfl (lv_room (Nat.le_of_ble_eq_true rfl)) dX5_hasRest_20 ⟨Nat.le_of_ble_eq_true rfl, Nat.le_of_ble_eq_true rfl⟩) hS (fun q h => dd_A_mono hS.1 h) (fun q h => dd_A_mono hS.1 h) (fun H locs hP hS => ?_)
    refine lv_aload_n hx hb dX5_hasRest_23 rfl (lv_at hl 1 rfl) ?_
    refine gf_X5_19 hx hb hts hown hK hP dX5_hasRest_24 ?_
    refine gf_X5_130 hx hb hts hown hK hP dX5_hasRest_27 ?_
    refine lv_icmp_ge (tgt := 35) hx hb dX5_hasRest_30 (by decide) (fun c6 => ?_) (fun c6 => ?_)
    · have hf := if_t c6 hf
      exact hL_35 _ _ _ hf hP hS (lv_sub hl [1, 2, 3, 4] rfl)
    · have hf := if_f c6 hf
      refine lv_iconst (v := (0 : Int32)) hx hb dX5_hasRest_33 (by decide) ?_
      exact W.zret (v := (0 : Int32)) hx hb hr rfl (fun t ht hW => ⟨⟨(0 : Int32), (), rfl, so1 hf, P_at ht hP⟩, hS.F ht⟩) hS.2.2 dX5_hasRest_34
set_option maxHeartbeats 4000000 in
set_option maxRecDepth 100000 in
theorem c_X5_daysInARow (l : Launch) (g : dd_G) (ad : Nat → Nat) (X : va_W) (sz : Nat) (sg : dd_S) (a1 : Int32) (a2 : Int32) (r0 : Int32) (hf : f_X5_daysInARow sg a1 a2 = some (r0)) : Met l yX5_daysInARow (lw_ws yX5_daysInARow cX5_daysInARow 5 (some .int)) ({ frames := 1, cells := 0, slots := 0, locals := 22 } : Room) (va_Pc [.ref (ad 30), .int a1, .int a2] (PreW g (WC g ad sg ++ X) sz)) (QI g (WC g ad sg ++ X) (dd_A 59 ad X sz) r0) 0 0 (dd_A 59 ad X sz) := by
  refine Met.ofW (cc := cX5_daysInARow) (maxL := 5) (ret := some .int) (by decide) rfl ?_
  intro p e s m args below meth c s₁ B hml hv
  obtain ⟨rfl, rfl, hP, hK, hD0⟩ := hv
  have hx := B.exec
  have hb := B.bytes
  have hr := B.returns
  have hts := atoms_spec (ws := (lw_ws yX5_daysInARow cX5_daysInARow 5 (some .int))) B.pre
  have hts : ∀ w ∈ lw_all, w.before _ s = true := fun w h => hts w (List.mem_cons_of_mem _ h)
  have hown : s.vm.findClass RX5 = some m.cls := findClass_of_methodNamed B.named
  have hlocks := B.notSynchronized
  have hD : ∀ s2 : dd_S, va_D (dd_A 59 ad X s.heap.size) (WC g ad s2 ++ X) := fun s2 => dd_D (dd_A_D hD0)
  have hS : va_S (dd_A 59 ad X s.heap.size) s.heap s.heap [] := va_S.rf
  have hL_53 : ∀ (v3 : Int32) (v4 : Int32) (H : Heap) (locs : List Loc) (ls : Array Slot), f_X5_daysInARow_53 sg a1 a2 v3 v4 = some (r0) → va_P g.1 vwCl (WC g ad sg ++ X) H → va_S (dd_A 59 ad X s.heap.size) s.heap H locs → lv_has ls 5 [(3, .int v3), (4, .int v4)] → W p l e (headSpec (lw_ws yX5_daysInARow cX5_daysInARow 5 (some .int)) ({ frames := 1, cells := 0, slots := 0, locals := 22 } : Room)).room s m ([.ref (ad 30), .int a1, .int a2] : List Value).toArray below meth c H locs 0 0 (MQ below (QI g (WC g ad sg ++ X) (dd_A 59 ad X s.heap.size) r0) ([.ref (ad 30), .int a1, .int a2] : List Value).toArray s 0 0 (dd_A 59 ad X s.heap.size)) (F0 m 53 ls []) := by
    intro v3 v4 H locs ls hf hP hS hl
    unfold f_X5_daysInARow_53 at hf
    refine lv_iload hx hb dX5_daysInARow_53 (lv_at hl 1 rfl) ?_
    refine lv_iload_n hx hb dX5_daysInARow_55 rfl (lv_at hl 0 rfl) ?_
    refine lv_isub hx hb dX5_daysInARow_56 ?_
    refine lv_iconst (v := (1 : Int32)) hx hb dX5_daysInARow_57 (by decide) ?_
    refine lv_iadd hx hb dX5_daysInARow_58 ?_
    exact W.iret (v := ((v4 - v3) + (1 : Int32))) hx hb hr (fun t ht hW => ⟨⟨((v4 - v3) + (1 : Int32)), (), rfl, so1 hf, P_at ht hP⟩, hS.F ht⟩) hS.2.2 dX5_daysInARow_59
  have hL_27 : ∀ (n : Nat), ∀ (v3 : Int32) (v4 : Int32) (H : Heap) (locs : List Loc) (ls : Array Slot), f_X5_daysInARow_27 sg a1 a2 n v3 v4 = some (r0) → va_P g.1 vwCl (WC g ad sg ++ X) H → va_S (dd_A 59 ad X s.heap.size) s.heap H locs → lv_has ls 5 [(0, .ref (ad 30)), (1, .int a1), (3, .int v3), (4, .int v4)] → W p l e (headSpec (lw_ws yX5_daysInARow cX5_daysInARow 5 (some .int)) ({ frames := 1, cells := 0, slots := 0, locals := 22 } : Room)).room s m ([.ref (ad 30), .int a1, .int a2] : List Value).toArray below meth c H locs 0 0 (MQ below (QI g (WC g ad sg ++ X) (dd_A 59 ad X s.heap.size) r0) ([.ref (ad 30), .int a1, .int a2] : List Value).toArray s 0 0 (dd_A 59 ad X s.heap.size)) (F0 m 27 ls []) := by
    intro n
    induction n with
    | zero =>
      intro v3 v4 H locs ls hf
      rw [f_X5_daysInARow_27] at hf
      cases hf
    | succ n ih =>
      intro v3 v4 H locs ls hf hP hS hl
      rw [f_X5_daysInARow_27] at hf
      refine lv_iload hx hb dX5_daysInARow_27 (lv_at hl 3 rfl) ?_
      refine lv_bipush (v := (6 : Int32)) hx hb dX5_daysInARow_29 (by decide) ?_
      refine lv_icmp_ge (tgt := 53) hx hb dX5_daysInARow_31 (by decide) (fun c6 => ?_) (fun c6 => ?_)
      · have hf := if_t c6 hf
        exact hL_53 v3 v4 _ _ _ hf hP hS (lv_sub hl [2, 3] rfl)
      · have hf := if_f c6 hf
        refine lv_aload_n hx hb dX5_daysInARow_34 rfl (lv_at hl 0 rfl) ?_
        refine lv_iload_n hx hb dX5_daysInARow_35 rfl (lv_at hl 1 rfl) ?_
        refine lv_iload hx hb dX5_daysInARow_36 (lv_at hl 3 rfl) ?_
        refine lv_iconst (v := (1 : Int32)) hx hb dX5_daysInARow_38 (by decide) ?_
        refine lv_iadd hx hb dX5_daysInARow_39 ?_
        obtain ⟨r8, q7, hf⟩ := bd_so hf
        refine cl_i (va_runV (As := [.int a1, .int (v4 + (1 : Int32))]) (rest := []) ⟨hx, hb, hml, hown, hts⟩ (c_X5_dutyOn l g ad X _ sg a1 (v4 + (1 : Int32)) r8 q7) (cwV 2 hts gl_X5_288 rfl rfl rfl yd_X5_dutyOn ⟨Nat.le_of_ble_eq_true rfl, Nat.le_of_ble_eq_true rfl⟩) (preV_of hK hP (hD sg) (dd_at (by decide) cc_30) rfl) rfl rfl hl.1 rfl (lv_room (Nat.le_of_ble_eq_true rfl)) dX5_daysInARow_40 ⟨Nat.le_of_ble_eq_true rfl, Nat.le_of_ble_eq_true rfl⟩) hS (fun q h => dd_A_mono hS.1 h) (fun q h => dd_A_mono hS.1 h) (fun H locs hP hS => ?_)
        refine lv_iconst (v := (-1 : Int32)) hx hb dX5_daysInARow_43 (by decide) ?_
        refine lv_icmp_eq (tgt := 53) hx hb dX5_daysInARow_44 (by decide) (fun c9 => ?_) (fun c9 => ?_)
        · have hf := if_t c9 hf
          exact hL_53 v3 v4 _ _ _ hf hP hS (lv_sub hl [2, 3] rfl)
        · have hf := if_f c9 hf
          obtain ⟨x10, ex10, hf⟩ := lt_ex hf
          refine lv_iinc (v := x10) (lv' := [(4, .int x10), (0, .ref (ad 30)), (1, .int a1), (3, .int v3)]) hx hb dX5_daysInARow_47 hl (k := 3) rfl (by rw [ex10]; rfl) (by decide) rfl (fun ls hl => ?_)
          refine lv_goto (tgt := 27) hx hb dX5_daysInARow_50 (by decide) ?_
          exact ih v3 x10 _ _ _ hf hP hS (lv_sub hl [1, 2, 3, 0] rfl)
  have hL_24 : ∀ (v3 : Int32) (H : Heap) (locs : List Loc) (ls : Array Slot), f_X5_daysInARow_24 sg a1 a2 v3 = some (r0) → va_P g.1 vwCl (WC g ad sg ++ X) H → va_S (dd_A 59 ad X s.heap.size) s.heap H locs → lv_has ls 5 [(0, .ref (ad 30)), (1, .int a1), (2, .int a2), (3, .int v3)] → W p l e (headSpec (lw_ws yX5_daysInARow cX5_daysInARow 5 (some .int)) ({ frames := 1, cells := 0, slots := 0, locals := 22 } : Room)).room s m ([.ref (ad 30), .int a1, .int a2] : List Value).toArray below meth c H locs 0 0 (MQ below (QI g (WC g ad sg ++ X) (dd_A 59 ad X s.heap.size) r0) ([.ref (ad 30), .int a1, .int a2] : List Value).toArray s 0 0 (dd_A 59 ad X s.heap.size)) (F0 m 24 ls []) := by
    intro v3 H locs ls hf hP hS hl
    unfold f_X5_daysInARow_24 at hf
    refine lv_iload_n hx hb dX5_daysInARow_24 rfl (lv_at hl 2 rfl) ?_
    refine lv_istore (lv' := [(4, .int a2), (0, .ref (ad 30)), (1, .int a1), (2, .int a2), (3, .int v3)]) hx hb dX5_daysInARow_25 hl (by decide) rfl (fun ls hl => ?_)
    exact hL_27 64 v3 a2 _ _ _ hf hP hS (lv_sub hl [1, 2, 4, 0] rfl)
  have hL_2 : ∀ (n : Nat), ∀ (v3 : Int32) (H : Heap) (locs : List Loc) (ls : Array Slot), f_X5_daysInARow_2 sg a1 a2 n v3 = some (r0) → va_P g.1 vwCl (WC g ad sg ++ X) H → va_S (dd_A 59 ad X s.heap.size) s.heap H locs → lv_has ls 5 [(0, .ref (ad 30)), (1, .int a1), (2, .int a2), (3, .int v3)] → W p l e (headSpec (lw_ws yX5_daysInARow cX5_daysInARow 5 (some .int)) ({ frames := 1, cells := 0, slots := 0, locals := 22 } : Room)).room s m ([.ref (ad 30), .int a1, .int a2] : List Value).toArray below meth c H locs 0 0 (MQ below (QI g (WC g ad sg ++ X) (dd_A 59 ad X s.heap.size) r0) ([.ref (ad 30), .int a1, .int a2] : List Value).toArray s 0 0 (dd_A 59 ad X s.heap.size)) (F0 m 2 ls []) := by
    intro n
    induction n with
    | zero =>
      intro v3 H locs ls hf
      rw [f_X5_daysInARow_2] at hf
      cases hf
    | succ n ih =>
      intro v3 H locs ls hf hP hS hl
      rw [f_X5_daysInARow_2] at hf
      refine lv_iload_n hx hb dX5_daysInARow_2 rfl (lv_at hl 3 rfl) ?_
      refine lv_if_le (tgt := 24) hx hb dX5_daysInARow_3 (by decide) (fun c1 => ?_) (fun c1 => ?_)
      · have hf := if_t c1 hf
        exact hL_24 v3 _ _ _ hf hP hS (lv_sub hl [0, 1, 2, 3] rfl)
      · have hf := if_f c1 hf
        refine lv_aload_n hx hb dX5_daysInARow_6 rfl (lv_at hl 0 rfl) ?_
        refine lv_iload_n hx hb dX5_daysInARow_7 rfl (lv_at hl 1 rfl) ?_
        refine lv_iload_n hx hb dX5_daysInARow_8 rfl (lv_at hl 3 rfl) ?_
        refine lv_iconst (v := (1 : Int32)) hx hb dX5_daysInARow_9 (by decide) ?_
        refine lv_isub hx hb dX5_daysInARow_10 ?_
        obtain ⟨r3, q2, hf⟩ := bd_so hf
        refine cl_i (va_runV (As := [.int a1, .int (v3 - (1 : Int32))]) (rest := []) ⟨hx, hb, hml, hown, hts⟩ (c_X5_dutyOn l g ad X _ sg a1 (v3 - (1 : Int32)) r3 q2) (cwV 2 hts gl_X5_288 rfl rfl rfl yd_X5_dutyOn ⟨Nat.le_of_ble_eq_true rfl, Nat.le_of_ble_eq_true rfl⟩) (preV_of hK hP (hD sg) (dd_at (by decide) cc_30) rfl) rfl rfl hl.1 rfl (lv_room (Nat.le_of_ble_eq_true rfl)) dX5_daysInARow_11 ⟨Nat.le_of_ble_eq_true rfl, Nat.le_of_ble_eq_true rfl⟩) hS (fun q h => dd_A_mono hS.1 h) (fun q h => dd_A_mono hS.1 h) (fun H locs hP hS => ?_)
        refine lv_iconst (v := (-1 : Int32)) hx hb dX5_daysInARow_14 (by decide) ?_
        refine lv_icmp_eq (tgt := 24) hx hb dX5_daysInARow_15 (by decide) (fun c4 => ?_) (fun c4 => ?_)
        · have hf := if_t c4 hf
          exact hL_24 v3 _ _ _ hf hP hS (lv_sub hl [0, 1, 2, 3] rfl)
        · have hf := if_f c4 hf
          obtain ⟨x5, ex5, hf⟩ := lt_ex hf
          refine lv_iinc (v := x5) (lv' := [(3, .int x5), (0, .ref (ad 30)), (1, .int a1), (2, .int a2)]) hx hb dX5_daysInARow_18 hl (k := 3) rfl (by rw [ex5]; rfl) (by decide) rfl (fun ls hl => ?_)
          refine lv_goto (tgt := 2) hx hb dX5_daysInARow_21 (by decide) ?_
          exact ih x5 _ _ _ hf hP hS (lv_sub hl [1, 2, 3, 0] rfl)
  unfold f_X5_daysInARow at hf
  have hl := lv_entry ([.ref (ad 30), .int a1, .int a2]) (n := 5) (Nat.le_of_ble_eq_true rfl)
  rw [lg_entry_eq]
  generalize (lg_sl ([.ref (ad 30), .int a1, .int a2]) ++ List.replicate (5 - (lg_sl ([.ref (ad 30), .int a1, .int a2])).length) Slot.unset).toArray = ls at hl ⊢
  have hl : lv_has ls 5 [(0, .ref (ad 30)), (1, .int a1), (2, .int a2)] := hl
  refine lv_iload_n hx hb dX5_daysInARow_0 rfl (lv_at hl 2 rfl) ?_
  refine lv_istore_n (lv' := [(3, .int a2), (0, .ref (ad 30)), (1, .int a1), (2, .int a2)]) hx hb dX5_daysInARow_1 rfl hl (by decide) rfl (fun ls hl => ?_)
  exact hL_2 64 a2 _ _ _ hf hP hS (lv_sub hl [1, 2, 3, 0] rfl)
set_option maxHeartbeats 4000000 in
set_option maxRecDepth 100000 in
theorem c_X5_reasonAgainst (l : Launch) (g : dd_G) (ad : Nat → Nat) (X : va_W) (sz : Nat) (sg : dd_S) (a1 : Int32) (a2 : Int32) (a3 : Int32) (r0 : Int32) (hf : f_X5_reasonAgainst sg a1 a2 a3 = some (r0)) : Met l yX5_reasonAgainst (lw_ws yX5_reasonAgainst cX5_reasonAgainst 5 (some .int)) ({ frames := 3, cells := 0, slots := 0, locals := 69 } : Room) (va_Pc [.ref (ad 30), .int a1, .int a2, .int a3] (PreW g (WC g ad sg ++ X) sz)) (QI g (WC g ad sg ++ X) (dd_A 59 ad X sz) r0) 0 0 (dd_A 59 ad X sz) := by
  refine Met.ofW (cc := cX5_reasonAgainst) (maxL := 5) (ret := some .int) (by decide) rfl ?_
  intro p e s m args below meth c s₁ B hml hv
  obtain ⟨rfl, rfl, hP, hK, hD0⟩ := hv
  have hx := B.exec
  have hb := B.bytes
  have hr := B.returns
  have hts := atoms_spec (ws := (lw_ws yX5_reasonAgainst cX5_reasonAgainst 5 (some .int))) B.pre
  have hts : ∀ w ∈ lw_all, w.before _ s = true := fun w h => hts w (List.mem_cons_of_mem _ h)
  have hown : s.vm.findClass RX5 = some m.cls := findClass_of_methodNamed B.named
  have hlocks := B.notSynchronized
  have hD : ∀ s2 : dd_S, va_D (dd_A 59 ad X s.heap.size) (WC g ad s2 ++ X) := fun s2 => dd_D (dd_A_D hD0)
  have hS : va_S (dd_A 59 ad X s.heap.size) s.heap s.heap [] := va_S.rf
  have hL_99 : ∀ (t0 : Int32) (H : Heap) (locs : List Loc) (ls : Array Slot), f_X5_reasonAgainst_99 sg a1 a2 a3 t0 = some (r0) → va_P g.1 vwCl (WC g ad sg ++ X) H → va_S (dd_A 59 ad X s.heap.size) s.heap H locs → lv_has ls 5 [] → W p l e (headSpec (lw_ws yX5_reasonAgainst cX5_reasonAgainst 5 (some .int)) ({ frames := 3, cells := 0, slots := 0, locals := 69 } : Room)).room s m ([.ref (ad 30), .int a1, .int a2, .int a3] : List Value).toArray below meth c H locs 0 0 (MQ below (QI g (WC g ad sg ++ X) (dd_A 59 ad X s.heap.size) r0) ([.ref (ad 30), .int a1, .int a2, .int a3] : List Value).toArray s 0 0 (dd_A 59 ad X s.heap.size)) (F0 m 99 ls [.int t0]) := by
    intro t0 H locs ls hf hP hS hl
    unfold f_X5_reasonAgainst_99 at hf
    exact W.iret (v := t0) hx hb hr (fun t ht hW => ⟨⟨t0, (), rfl, so1 hf, P_at ht hP⟩, hS.F ht⟩) hS.2.2 dX5_reasonAgainst_99
  unfold f_X5_reasonAgainst at hf
  have hl := lv_entry ([.ref (ad 30), .int a1, .int a2, .int a3]) (n := 5) (Nat.le_of_ble_eq_true rfl)
  rw [lg_entry_eq]
  generalize (lg_sl ([.ref (ad 30), .int a1, .int a2, .int a3]) ++ List.replicate (5 - (lg_sl ([.ref (ad 30), .int a1, .int a2, .int a3])).length) Slot.unset).toArray = ls at hl ⊢
  have hl : lv_has ls 5 [(0, .ref (ad 30)), (1, .int a1), (2, .int a2), (3, .int a3)] := hl
  refine lv_aload_n hx hb dX5_reasonAgainst_0 rfl (lv_at hl 0 rfl) ?_
  refine lv_iload_n hx hb dX5_reasonAgainst_1 rfl (lv_at hl 3 rfl) ?_
  obtain ⟨r2, q1, hf⟩ := bd_so hf
  refine cl_r (va_runV (As := [.int a3]) (rest := []) ⟨hx, hb, hml, hown, hts⟩ (c_X5_dutyAt l g ad X _ sg a3 r2 q1) (cwV 1 hts gl_X5_164 rfl rfl rfl yd_X5_dutyAt ⟨Nat.le_of_ble_eq_true rfl, Nat.le_of_ble_eq_true rfl⟩) (preV_of hK hP (hD sg) (dd_at (by decide) cc_30) rfl) rfl rfl hl.1 rfl (lv_room (Nat.le_of_ble_eq_true rfl)) dX5_reasonAgainst_2 ⟨Nat.le_of_ble_eq_true rfl, Nat.le_of_ble_eq_true rfl⟩) hS (fun q h => dd_A_mono hS.1 h) (fun q h => dd_A_mono hS.1 h) (fun H locs hP hS => ?_)
  have hr2 := lt_X5_dutyAt q1
  refine lv_astore (lv' := [(4, .ref (ad r2)), (0, .ref (ad 30)), (1, .int a1), (2, .int a2), (3, .int a3)]) hx hb dX5_reasonAgainst_5 hl (by decide) rfl (fun ls hl => ?_)
  refine lv_aload hx hb dX5_reasonAgainst_7 (lv_at hl 0 rfl) ?_
  refine gf_X5_197 hx hb hts hown hK hP hr2 dX5_reasonAgainst_9 ?_
  refine lv_if_ne (tgt := 17) hx hb dX5_reasonAgainst_12 (by decide) (fun c3 => ?_) (fun c3 => ?_)
  · have hf := if_f c3 hf
    refine lv_aload hx hb dX5_reasonAgainst_17 (lv_at hl 0 rfl) ?_
    refine gf_X5_336 hx hb hts hown hK hP hr2 dX5_reasonAgainst_19 ?_
    refine lv_if_ne (tgt := 27) hx hb dX5_reasonAgainst_22 (by decide) (fun c4 => ?_) (fun c4 => ?_)
    · have hf := if_f c4 hf
      refine lv_aload_n hx hb dX5_reasonAgainst_27 rfl (lv_at hl 1 rfl) ?_
      refine lv_iload_n hx hb dX5_reasonAgainst_28 rfl (lv_at hl 4 rfl) ?_
      refine lv_iload_n hx hb dX5_reasonAgainst_29 rfl (lv_at hl 3 rfl) ?_
      obtain ⟨r6, q5, hf⟩ := bd_so hf
      refine cl_i (va_runV (As := [.int a3, .int a2]) (rest := []) ⟨hx, hb, hml, hown, hts⟩ (c_X5_isHadOn l g ad X _ sg a3 a2 r6 q5) (cwV 2 hts gl_X5_365 rfl rfl rfl yd_X5_isHadOn ⟨Nat.le_of_ble_eq_true rfl, Nat.le_of_ble_eq_true rfl⟩) (preV_of hK hP (hD sg) (dd_at (by decide) cc_30) rfl) rfl rfl hl.1 rfl (lv_room (Nat.le_of_ble_eq_true rfl)) dX5_reasonAgainst_30 ⟨Nat.le_of_ble_eq_true rfl, Nat.le_of_ble_eq_true rfl⟩) hS (fun q h => dd_A_mono hS.1 h) (fun q h => dd_A_mono hS.1 h) (fun H locs hP hS => ?_)
      refine lv_if_eq (tgt := 38) hx hb dX5_reasonAgainst_33 (by decide) (fun c7 => ?_) (fun c7 => ?_)
      · have hf := if_t c7 hf
        refine lv_aload_n hx hb dX5_reasonAgainst_38 rfl (lv_at hl 1 rfl) ?_
        refine lv_iload_n hx hb dX5_reasonAgainst_39 rfl (lv_at hl 2 rfl) ?_
        refine lv_iload_n hx hb dX5_reasonAgainst_40 rfl (lv_at hl 3 rfl) ?_
        obtain ⟨r9, q8, hf⟩ := bd_so hf
        refine cl_i (va_runV (As := [.int a1, .int a2]) (rest := []) ⟨hx, hb, hml, hown, hts⟩ (c_X5_dutyOn l g ad X _ sg a1 a2 r9 q8) (cwV 2 hts gl_X5_288 rfl rfl rfl yd_X5_dutyOn ⟨Nat.le_of_ble_eq_true rfl, Nat.le_of_ble_eq_true rfl⟩) (preV_of hK hP (hD sg) (dd_at (by decide) cc_30) rfl) rfl rfl hl.1 rfl (lv_room (Nat.le_of_ble_eq_true rfl)) dX5_reasonAgainst_41 ⟨Nat.le_of_ble_eq_true rfl, Nat.le_of_ble_eq_true rfl⟩) hS (fun q h => dd_A_mono hS.1 h) (fun q h => dd_A_mono hS.1 h) (fun H locs hP hS => ?_)
        refine lv_iconst (v := (-1 : Int32)) hx hb dX5_reasonAgainst_44 (by decide) ?_
        refine lv_icmp_eq (tgt := 50) hx hb dX5_reasonAgainst_45 (by decide) (fun c10 => ?_) (fun c10 => ?_)
        · have hf := if_t c10 hf
          refine lv_aload_n hx hb dX5_reasonAgainst_50 rfl (lv_at hl 1 rfl) ?_
          refine lv_iload_n hx hb dX5_reasonAgainst_51 rfl (lv_at hl 2 rfl) ?_
          refine lv_iload_n hx hb dX5_reasonAgainst_52 rfl (lv_at hl 3 rfl) ?_
          obtain ⟨r12, q11, hf⟩ := bd_so hf
          refine cl_i (va_runV (As := [.int a1, .int a2]) (rest := []) ⟨hx, hb, hml, hown, hts⟩ (c_X5_daysInARow l g ad X _ sg a1 a2 r12 q11) (cwV 2 hts gl_X5_368 rfl rfl rfl yd_X5_daysInARow ⟨Nat.le_of_ble_eq_true rfl, Nat.le_of_ble_eq_true rfl⟩) (preV_of hK hP (hD sg) (dd_at (by decide) cc_30) rfl) rfl rfl hl.1 rfl (lv_room (Nat.le_of_ble_eq_true rfl)) dX5_reasonAgainst_53 ⟨Nat.le_of_ble_eq_true rfl, Nat.le_of_ble_eq_true rfl⟩) hS (fun q h => dd_A_mono hS.1 h) (fun q h => dd_A_mono hS.1 h) (fun H locs hP hS => ?_)
          refine lv_bipush (v := (6 : Int32)) hx hb dX5_reasonAgainst_56 (by decide) ?_
          refine lv_icmp_lt (tgt := 63) hx hb dX5_reasonAgainst_58 (by decide) (fun c13 => ?_) (fun c13 => ?_)
          · have hf := if_t c13 hf
            refine lv_aload_n hx hb dX5_reasonAgainst_63 rfl (lv_at hl 1 rfl) ?_
            refine lv_iload_n hx hb dX5_reasonAgainst_64 rfl (lv_at hl 2 rfl) ?_
            obtain ⟨r15, q14, hf⟩ := bd_so hf
            refine cl_i (va_runV (As := [.int a1]) (rest := []) ⟨hx, hb, hml, hown, hts⟩ (c_X5_weekPay l g ad X _ sg a1 r15 q14) (cwV 1 hts gl_X5_283 rfl rfl rfl yd_X5_weekPay ⟨Nat.le_of_ble_eq_true rfl, Nat.le_of_ble_eq_true rfl⟩) (preV_of hK hP (hD sg) (dd_at (by decide) cc_30) rfl) rfl rfl hl.1 rfl (lv_room (Nat.le_of_ble_eq_true rfl)) dX5_reasonAgainst_65 ⟨Nat.le_of_ble_eq_true rfl, Nat.le_of_ble_eq_true rfl⟩) hS (fun q h => dd_A_mono hS.1 h) (fun q h => dd_A_mono hS.1 h) (fun H locs hP hS => ?_)
            refine lv_aload hx hb dX5_reasonAgainst_68 (lv_at hl 0 rfl) ?_
            refine gf_X5_255 hx hb hts hown hK hP hr2 dX5_reasonAgainst_70 ?_
            refine lv_iadd hx hb dX5_reasonAgainst_73 ?_
            refine lv_sipush (v := (2880 : Int32)) hx hb dX5_reasonAgainst_74 (by decide) ?_
            refine lv_icmp_le (tgt := 83) hx hb dX5_reasonAgainst_77 (by decide) (fun c16 => ?_) (fun c16 => ?_)
            · have hf := if_t c16 hf
              refine lv_aload_n hx hb dX5_reasonAgainst_83 rfl (lv_at hl 1 rfl) ?_
              refine lv_iload_n hx hb dX5_reasonAgainst_84 rfl (lv_at hl 2 rfl) ?_
              refine lv_iload_n hx hb dX5_reasonAgainst_85 rfl (lv_at hl 3 rfl) ?_
              refine lv_iload_n hx hb dX5_reasonAgainst_86 rfl (lv_at hl 4 rfl) ?_
              obtain ⟨r18, q17, hf⟩ := bd_so hf
              refine cl_i (va_runV (As := [.int a1, .int a2, .int a3]) (rest := []) ⟨hx, hb, hml, hown, hts⟩ (c_X5_hasRest l g ad X _ sg a1 a2 a3 r18 q17) (cwV 3 hts gl_X5_371 rfl rfl rfl yd_X5_hasRest ⟨Nat.le_of_ble_eq_true rfl, Nat.le_of_ble_eq_true rfl⟩) (preV_of hK hP (hD sg) (dd_at (by decide) cc_30) rfl) rfl rfl hl.1 rfl (lv_room (Nat.le_of_ble_eq_true rfl)) dX5_reasonAgainst_87 ⟨Nat.le_of_ble_eq_true rfl, Nat.le_of_ble_eq_true rfl⟩) hS (fun q h => dd_A_mono hS.1 h) (fun q h => dd_A_mono hS.1 h) (fun H locs hP hS => ?_)
              refine lv_if_eq (tgt := 97) hx hb dX5_reasonAgainst_90 (by decide) (fun c19 => ?_) (fun c19 => ?_)
              · have hf := if_t c19 hf
                refine lv_bipush (v := (7 : Int32)) hx hb dX5_reasonAgainst_97 (by decide) ?_
                exact hL_99 (7 : Int32) _ _ _ hf hP hS (lv_sub hl [] rfl)
              · have hf := if_f c19 hf
                refine lv_iconst (v := (0 : Int32)) hx hb dX5_reasonAgainst_93 (by decide) ?_
                refine lv_goto (tgt := 99) hx hb dX5_reasonAgainst_94 (by decide) ?_
                exact hL_99 (0 : Int32) _ _ _ hf hP hS (lv_sub hl [] rfl)
            · have hf := if_f c16 hf
              refine lv_bipush (v := (6 : Int32)) hx hb dX5_reasonAgainst_80 (by decide) ?_
              exact W.iret (v := (6 : Int32)) hx hb hr (fun t ht hW => ⟨⟨(6 : Int32), (), rfl, so1 hf, P_at ht hP⟩, hS.F ht⟩) hS.2.2 dX5_reasonAgainst_82
          · have hf := if_f c13 hf
            refine lv_iconst (v := (5 : Int32)) hx hb dX5_reasonAgainst_61 (by decide) ?_
            exact W.iret (v := (5 : Int32)) hx hb hr (fun t ht hW => ⟨⟨(5 : Int32), (), rfl, so1 hf, P_at ht hP⟩, hS.F ht⟩) hS.2.2 dX5_reasonAgainst_62
        · have hf := if_f c10 hf
          refine lv_iconst (v := (4 : Int32)) hx hb dX5_reasonAgainst_48 (by decide) ?_
          exact W.iret (v := (4 : Int32)) hx hb hr (fun t ht hW => ⟨⟨(4 : Int32), (), rfl, so1 hf, P_at ht hP⟩, hS.F ht⟩) hS.2.2 dX5_reasonAgainst_49
      · have hf := if_f c7 hf
        refine lv_iconst (v := (3 : Int32)) hx hb dX5_reasonAgainst_36 (by decide) ?_
        exact W.iret (v := (3 : Int32)) hx hb hr (fun t ht hW => ⟨⟨(3 : Int32), (), rfl, so1 hf, P_at ht hP⟩, hS.F ht⟩) hS.2.2 dX5_reasonAgainst_37
    · have hf := if_t c4 hf
      refine lv_iconst (v := (2 : Int32)) hx hb dX5_reasonAgainst_25 (by decide) ?_
      exact W.iret (v := (2 : Int32)) hx hb hr (fun t ht hW => ⟨⟨(2 : Int32), (), rfl, so1 hf, P_at ht hP⟩, hS.F ht⟩) hS.2.2 dX5_reasonAgainst_26
  · have hf := if_t c3 hf
    refine lv_iconst (v := (1 : Int32)) hx hb dX5_reasonAgainst_15 (by decide) ?_
    exact W.iret (v := (1 : Int32)) hx hb hr (fun t ht hW => ⟨⟨(1 : Int32), (), rfl, so1 hf, P_at ht hP⟩, hS.F ht⟩) hS.2.2 dX5_reasonAgainst_16
set_option maxHeartbeats 4000000 in
set_option maxRecDepth 100000 in
theorem c_X5_cheapestDriver (l : Launch) (g : dd_G) (ad : Nat → Nat) (X : va_W) (sz : Nat) (sg : dd_S) (a1 : Int32) (a2 : Int32) (r0 : Int32) (hf : f_X5_cheapestDriver sg a1 a2 = some (r0)) : Met l yX5_cheapestDriver (lw_ws yX5_cheapestDriver cX5_cheapestDriver 7 (some .int)) ({ frames := 4, cells := 0, slots := 0, locals := 93 } : Room) (va_Pc [.ref (ad 30), .int a1, .int a2] (PreW g (WC g ad sg ++ X) sz)) (QI g (WC g ad sg ++ X) (dd_A 59 ad X sz) r0) 0 0 (dd_A 59 ad X sz) := by
  refine Met.ofW (cc := cX5_cheapestDriver) (maxL := 7) (ret := some .int) (by decide) rfl ?_
  intro p e s m args below meth c s₁ B hml hv
  obtain ⟨rfl, rfl, hP, hK, hD0⟩ := hv
  have hx := B.exec
  have hb := B.bytes
  have hr := B.returns
  have hts := atoms_spec (ws := (lw_ws yX5_cheapestDriver cX5_cheapestDriver 7 (some .int))) B.pre
  have hts : ∀ w ∈ lw_all, w.before _ s = true := fun w h => hts w (List.mem_cons_of_mem _ h)
  have hown : s.vm.findClass RX5 = some m.cls := findClass_of_methodNamed B.named
  have hlocks := B.notSynchronized
  have hD : ∀ s2 : dd_S, va_D (dd_A 59 ad X s.heap.size) (WC g ad s2 ++ X) := fun s2 => dd_D (dd_A_D hD0)
  have hS : va_S (dd_A 59 ad X s.heap.size) s.heap s.heap [] := va_S.rf
  have hL_55 : ∀ (k_8 : Int32 → Int32 → Int32 → Option (Int32)) (hk_8 : ∀ (v3 : Int32) (v4 : Int32) (v5 : Int32) (H : Heap) (locs : List Loc) (ls : Array Slot), k_8 v3 v4 v5 = some (r0) → va_P g.1 vwCl (WC g ad sg ++ X) H → va_S (dd_A 59 ad X s.heap.size) s.heap H locs → lv_has ls 7 [(0, .ref (ad 30)), (1, .int a1), (2, .int a2), (3, .int v3), (4, .int v4), (5, .int v5)] → W p l e (headSpec (lw_ws yX5_cheapestDriver cX5_cheapestDriver 7 (some .int)) ({ frames := 4, cells := 0, slots := 0, locals := 93 } : Room)).room s m ([.ref (ad 30), .int a1, .int a2] : List Value).toArray below meth c H locs 0 0 (MQ below (QI g (WC g ad sg ++ X) (dd_A 59 ad X s.heap.size) r0) ([.ref (ad 30), .int a1, .int a2] : List Value).toArray s 0 0 (dd_A 59 ad X s.heap.size)) (F0 m 8 ls [])), ∀ (v3 : Int32) (v4 : Int32) (v5 : Int32) (H : Heap) (locs : List Loc) (ls : Array Slot), f_X5_cheapestDriver_55 sg a1 a2 k_8 v3 v4 v5 = some (r0) → va_P g.1 vwCl (WC g ad sg ++ X) H → va_S (dd_A 59 ad X s.heap.size) s.heap H locs → lv_has ls 7 [(0, .ref (ad 30)), (1, .int a1), (2, .int a2), (3, .int v3), (4, .int v4), (5, .int v5)] → W p l e (headSpec (lw_ws yX5_cheapestDriver cX5_cheapestDriver 7 (some .int)) ({ frames := 4, cells := 0, slots := 0, locals := 93 } : Room)).room s m ([.ref (ad 30), .int a1, .int a2] : List Value).toArray below meth c H locs 0 0 (MQ below (QI g (WC g ad sg ++ X) (dd_A 59 ad X s.heap.size) r0) ([.ref (ad 30), .int a1, .int a2] : List Value).toArray s 0 0 (dd_A 59 ad X s.heap.size)) (F0 m 55 ls []) := by
    intro k_8 hk_8 v3 v4 v5 H locs ls hf hP hS hl
    unfold f_X5_cheapestDriver_55 at hf
    obtain ⟨x9, ex9, hf⟩ := lt_ex hf
    refine lv_iinc (v := x9) (lv' := [(5, .int x9), (0, .ref (ad 30)), (1, .int a1), (2, .int a2), (3, .int v3), (4, .int v4)]) hx hb dX5_cheapestDriver_55 hl (k := 5) rfl (by rw [ex9]; rfl) (by decide) rfl (fun ls hl => ?_)
    refine lv_goto (tgt := 8) hx hb dX5_cheapestDriver_58 (by decide) ?_
    exact hk_8 v3 v4 x9 _ _ _ hf hP hS (lv_sub hl [1, 2, 3, 4, 5, 0] rfl)
  have hL_48 : ∀ (k_8 : Int32 → Int32 → Int32 → Option (Int32)) (hk_8 : ∀ (v3 : Int32) (v4 : Int32) (v5 : Int32) (H : Heap) (locs : List Loc) (ls : Array Slot), k_8 v3 v4 v5 = some (r0) → va_P g.1 vwCl (WC g ad sg ++ X) H → va_S (dd_A 59 ad X s.heap.size) s.heap H locs → lv_has ls 7 [(0, .ref (ad 30)), (1, .int a1), (2, .int a2), (3, .int v3), (4, .int v4), (5, .int v5)] → W p l e (headSpec (lw_ws yX5_cheapestDriver cX5_cheapestDriver 7 (some .int)) ({ frames := 4, cells := 0, slots := 0, locals := 93 } : Room)).room s m ([.ref (ad 30), .int a1, .int a2] : List Value).toArray below meth c H locs 0 0 (MQ below (QI g (WC g ad sg ++ X) (dd_A 59 ad X s.heap.size) r0) ([.ref (ad 30), .int a1, .int a2] : List Value).toArray s 0 0 (dd_A 59 ad X s.heap.size)) (F0 m 8 ls [])), ∀ (v5 : Int32) (v6 : Int32) (H : Heap) (locs : List Loc) (ls : Array Slot), f_X5_cheapestDriver_48 sg a1 a2 k_8 v5 v6 = some (r0) → va_P g.1 vwCl (WC g ad sg ++ X) H → va_S (dd_A 59 ad X s.heap.size) s.heap H locs → lv_has ls 7 [(0, .ref (ad 30)), (1, .int a1), (2, .int a2), (5, .int v5), (6, .int v6)] → W p l e (headSpec (lw_ws yX5_cheapestDriver cX5_cheapestDriver 7 (some .int)) ({ frames := 4, cells := 0, slots := 0, locals := 93 } : Room)).room s m ([.ref (ad 30), .int a1, .int a2] : List Value).toArray below meth c H locs 0 0 (MQ below (QI g (WC g ad sg ++ X) (dd_A 59 ad X s.heap.size) r0) ([.ref (ad 30), .int a1, .int a2] : List Value).toArray s 0 0 (dd_A 59 ad X s.heap.size)) (F0 m 48 ls []) := by
    intro k_8 hk_8 v5 v6 H locs ls hf hP hS hl
    unfold f_X5_cheapestDriver_48 at hf
    refine lv_iload hx hb dX5_cheapestDriver_48 (lv_at hl 3 rfl) ?_
    refine lv_istore_n (lv' := [(3, .int v5), (0, .ref (ad 30)), (1, .int a1), (2, .int a2), (5, .int v5), (6, .int v6)]) hx hb dX5_cheapestDriver_50 rfl hl (by decide) rfl (fun ls hl => ?_)
    refine lv_iload hx hb dX5_cheapestDriver_51 (lv_at hl 5 rfl) ?_
    refine lv_istore (lv' := [(4, .int v6), (3, .int v5), (0, .ref (ad 30)), (1, .int a1), (2, .int a2), (5, .int v5), (6, .int v6)]) hx hb dX5_cheapestDriver_53 hl (by decide) rfl (fun ls hl => ?_)
    exact hL_55 k_8 hk_8 v5 v6 v5 _ _ _ hf hP hS (lv_sub hl [2, 3, 4, 1, 0, 5] rfl)
  have hL_8 : ∀ (n : Nat), ∀ (v3 : Int32) (v4 : Int32) (v5 : Int32) (H : Heap) (locs : List Loc) (ls : Array Slot), f_X5_cheapestDriver_8 sg a1 a2 n v3 v4 v5 = some (r0) → va_P g.1 vwCl (WC g ad sg ++ X) H → va_S (dd_A 59 ad X s.heap.size) s.heap H locs → lv_has ls 7 [(0, .ref (ad 30)), (1, .int a1), (2, .int a2), (3, .int v3), (4, .int v4), (5, .int v5)] → W p l e (headSpec (lw_ws yX5_cheapestDriver cX5_cheapestDriver 7 (some .int)) ({ frames := 4, cells := 0, slots := 0, locals := 93 } : Room)).room s m ([.ref (ad 30), .int a1, .int a2] : List Value).toArray below meth c H locs 0 0 (MQ below (QI g (WC g ad sg ++ X) (dd_A 59 ad X s.heap.size) r0) ([.ref (ad 30), .int a1, .int a2] : List Value).toArray s 0 0 (dd_A 59 ad X s.heap.size)) (F0 m 8 ls []) := by
    intro n
    induction n with
    | zero =>
      intro v3 v4 v5 H locs ls hf
      rw [f_X5_cheapestDriver_8] at hf
      cases hf
    | succ n ih =>
      intro v3 v4 v5 H locs ls hf hP hS hl
      rw [f_X5_cheapestDriver_8] at hf
      refine lv_iload hx hb dX5_cheapestDriver_8 (lv_at hl 5 rfl) ?_
      refine lv_aload_n hx hb dX5_cheapestDriver_10 rfl (lv_at hl 0 rfl) ?_
      refine gf_X5_140 hx hb hts hown hK hP dX5_cheapestDriver_11 ?_
      refine lv_icmp_ge (tgt := 61) hx hb dX5_cheapestDriver_14 (by decide) (fun c1 => ?_) (fun c1 => ?_)
      · have hf := if_t c1 hf
        refine lv_iload_n hx hb dX5_cheapestDriver_61 rfl (lv_at hl 3 rfl) ?_
        exact W.iret (v := v3) hx hb hr (fun t ht hW => ⟨⟨v3, (), rfl, so1 hf, P_at ht hP⟩, hS.F ht⟩) hS.2.2 dX5_cheapestDriver_62
      · have hf := if_f c1 hf
        refine lv_aload_n hx hb dX5_cheapestDriver_17 rfl (lv_at hl 0 rfl) ?_
        refine lv_iload hx hb dX5_cheapestDriver_18 (lv_at hl 5 rfl) ?_
        refine lv_iload_n hx hb dX5_cheapestDriver_20 rfl (lv_at hl 1 rfl) ?_
        refine lv_iload_n hx hb dX5_cheapestDriver_21 rfl (lv_at hl 2 rfl) ?_
        obtain ⟨r3, q2, hf⟩ := bd_so hf
        refine cl_i (va_runV (As := [.int v5, .int a1, .int a2]) (rest := []) ⟨hx, hb, hml, hown, hts⟩ (c_X5_reasonAgainst l g ad X _ sg v5 a1 a2 r3 q2) (cwV 3 hts gl_X5_274 rfl rfl rfl yd_X5_reasonAgainst ⟨Nat.le_of_ble_eq_true rfl, Nat.le_of_ble_eq_true rfl⟩) (preV_of hK hP (hD sg) (dd_at (by decide) cc_30) rfl) rfl rfl hl.1 rfl (lv_room (Nat.le_of_ble_eq_true rfl)) dX5_cheapestDriver_22 ⟨Nat.le_of_ble_eq_true rfl, Nat.le_of_ble_eq_true rfl⟩) hS (fun q h => dd_A_mono hS.1 h) (fun q h => dd_A_mono hS.1 h) (fun H locs hP hS => ?_)
        refine lv_if_ne (tgt := 55) hx hb dX5_cheapestDriver_25 (by decide) (fun c4 => ?_) (fun c4 => ?_)
        · have hf := if_f c4 hf
          exact hL_55 (fun z0 z1 z2 => f_X5_cheapestDriver_8 sg a1 a2 n z0 z1 z2) ih v3 v4 v5 _ _ _ hf hP hS (lv_sub hl [0, 1, 2, 3, 4, 5] rfl)
        · have hf := if_t c4 hf
          refine lv_aload_n hx hb dX5_cheapestDriver_28 rfl (lv_at hl 0 rfl) ?_
          refine lv_iload hx hb dX5_cheapestDriver_29 (lv_at hl 5 rfl) ?_
          obtain ⟨r6, q5, hf⟩ := bd_so hf
          refine cl_i (va_runV (As := [.int v5]) (rest := []) ⟨hx, hb, hml, hown, hts⟩ (c_X5_weekPay l g ad X _ sg v5 r6 q5) (cwV 1 hts gl_X5_283 rfl rfl rfl yd_X5_weekPay ⟨Nat.le_of_ble_eq_true rfl, Nat.le_of_ble_eq_true rfl⟩) (preV_of hK hP (hD sg) (dd_at (by decide) cc_30) rfl) rfl rfl hl.1 rfl (lv_room (Nat.le_of_ble_eq_true rfl)) dX5_cheapestDriver_31 ⟨Nat.le_of_ble_eq_true rfl, Nat.le_of_ble_eq_true rfl⟩) hS (fun q h => dd_A_mono hS.1 h) (fun q h => dd_A_mono hS.1 h) (fun H locs hP hS => ?_)
          refine lv_istore (lv' := [(6, .int r6), (0, .ref (ad 30)), (1, .int a1), (2, .int a2), (3, .int v3), (4, .int v4), (5, .int v5)]) hx hb dX5_cheapestDriver_34 hl (by decide) rfl (fun ls hl => ?_)
          refine lv_iload_n hx hb dX5_cheapestDriver_36 rfl (lv_at hl 4 rfl) ?_
          refine lv_iconst (v := (-1 : Int32)) hx hb dX5_cheapestDriver_37 (by decide) ?_
          refine lv_icmp_eq (tgt := 48) hx hb dX5_cheapestDriver_38 (by decide) (fun c7 => ?_) (fun c7 => ?_)
          · have hf := if_t c7 hf
            exact hL_48 (fun z0 z1 z2 => f_X5_cheapestDriver_8 sg a1 a2 n z0 z1 z2) ih v5 r6 _ _ _ hf hP hS (lv_sub hl [1, 2, 3, 6, 0] rfl)
          · have hf := if_f c7 hf
            refine lv_iload hx hb dX5_cheapestDriver_41 (lv_at hl 0 rfl) ?_
            refine lv_iload hx hb dX5_cheapestDriver_43 (lv_at hl 5 rfl) ?_
            refine lv_icmp_ge (tgt := 55) hx hb dX5_cheapestDriver_45 (by decide) (fun c8 => ?_) (fun c8 => ?_)
            · have hf := if_t c8 hf
              exact hL_55 (fun z0 z1 z2 => f_X5_cheapestDriver_8 sg a1 a2 n z0 z1 z2) ih v3 v4 v5 _ _ _ hf hP hS (lv_sub hl [1, 2, 3, 4, 5, 6] rfl)
            · have hf := if_f c8 hf
              exact hL_48 (fun z0 z1 z2 => f_X5_cheapestDriver_8 sg a1 a2 n z0 z1 z2) ih v5 r6 _ _ _ hf hP hS (lv_sub hl [1, 2, 3, 6, 0] rfl)
  unfold f_X5_cheapestDriver at hf
  have hl := lv_entry ([.ref (ad 30), .int a1, .int a2]) (n := 7) (Nat.le_of_ble_eq_true rfl)
  rw [lg_entry_eq]
  generalize (lg_sl ([.ref (ad 30), .int a1, .int a2]) ++ List.replicate (7 - (lg_sl ([.ref (ad 30), .int a1, .int a2])).length) Slot.unset).toArray = ls at hl ⊢
  have hl : lv_has ls 7 [(0, .ref (ad 30)), (1, .int a1), (2, .int a2)] := hl
  refine lv_iconst (v := (-1 : Int32)) hx hb dX5_cheapestDriver_0 (by decide) ?_
  refine lv_istore_n (lv' := [(3, .int (-1 : Int32)), (0, .ref (ad 30)), (1, .int a1), (2, .int a2)]) hx hb dX5_cheapestDriver_1 rfl hl (by decide) rfl (fun ls hl => ?_)
  refine lv_iconst (v := (0 : Int32)) hx hb dX5_cheapestDriver_2 (by decide) ?_
  refine lv_istore (lv' := [(4, .int (0 : Int32)), (3, .int (-1 : Int32)), (0, .ref (ad 30)), (1, .int a1), (2, .int a2)]) hx hb dX5_cheapestDriver_3 hl (by decide) rfl (fun ls hl => ?_)
  refine lv_iconst (v := (0 : Int32)) hx hb dX5_cheapestDriver_5 (by decide) ?_
  refine lv_istore (lv' := [(5, .int (0 : Int32)), (4, .int (0 : Int32)), (3, .int (-1 : Int32)), (0, .ref (ad 30)), (1, .int a1), (2, .int a2)]) hx hb dX5_cheapestDriver_6 hl (by decide) rfl (fun ls hl => ?_)
  exact hL_8 64 (-1 : Int32) (0 : Int32) (0 : Int32) _ _ _ hf hP hS (lv_sub hl [3, 4, 5, 2, 1, 0] rfl)
set_option maxHeartbeats 4000000 in
set_option maxRecDepth 100000 in
theorem c_X5_fillWith (l : Launch) (g : dd_G) (ad : Nat → Nat) (X : va_W) (sz : Nat) (sg : dd_S) (a1 : Int32) (a2 : Int32) (s0 : dd_S) (hf : f_X5_fillWith sg a1 a2 = some (s0)) : Met l yX5_fillWith (lw_ws yX5_fillWith cX5_fillWith 4 (none)) ({ frames := 5, cells := 0, slots := 0, locals := 119 } : Room) (va_Pc [.ref (ad 30), .int a1, .int a2] (PreW g (WC g ad sg ++ X) sz)) (QV g (WC g ad s0 ++ X) (dd_A 59 ad X sz)) 0 0 (dd_A 59 ad X sz) := by
  refine Met.ofW (cc := cX5_fillWith) (maxL := 4) (ret := none) (by decide) rfl ?_
  intro p e s m args below meth c s₁ B hml hv
  obtain ⟨rfl, rfl, hP, hK, hD0⟩ := hv
  have hx := B.exec
  have hb := B.bytes
  have hr := B.returns
  have hts := atoms_spec (ws := (lw_ws yX5_fillWith cX5_fillWith 4 (none))) B.pre
  have hts : ∀ w ∈ lw_all, w.before _ s = true := fun w h => hts w (List.mem_cons_of_mem _ h)
  have hown : s.vm.findClass RX5 = some m.cls := findClass_of_methodNamed B.named
  have hlocks := B.notSynchronized
  have hD : ∀ s2 : dd_S, va_D (dd_A 59 ad X s.heap.size) (WC g ad s2 ++ X) := fun s2 => dd_D (dd_A_D hD0)
  have hS : va_S (dd_A 59 ad X s.heap.size) s.heap s.heap [] := va_S.rf
  have hL_19 : ∀ (sg : dd_S) (H : Heap) (locs : List Loc) (ls : Array Slot), f_X5_fillWith_19 a1 a2 sg = some (s0) → va_P g.1 vwCl (WC g ad sg ++ X) H → va_S (dd_A 59 ad X s.heap.size) s.heap H locs → lv_has ls 4 [] → W p l e (headSpec (lw_ws yX5_fillWith cX5_fillWith 4 (none)) ({ frames := 5, cells := 0, slots := 0, locals := 119 } : Room)).room s m ([.ref (ad 30), .int a1, .int a2] : List Value).toArray below meth c H locs 0 0 (MQ below (QV g (WC g ad s0 ++ X) (dd_A 59 ad X s.heap.size)) ([.ref (ad 30), .int a1, .int a2] : List Value).toArray s 0 0 (dd_A 59 ad X s.heap.size)) (F0 m 19 ls []) := by
    intro sg H locs ls hf hP hS hl
    unfold f_X5_fillWith_19 at hf
    exact W.vret hx hb hr (fun t ht hW => ⟨⟨(), rfl, trivial, P_at2 (so1 hf) ht hP⟩, hS.F ht⟩) hS.2.2 dX5_fillWith_19
  unfold f_X5_fillWith at hf
  have hl := lv_entry ([.ref (ad 30), .int a1, .int a2]) (n := 4) (Nat.le_of_ble_eq_true rfl)
  rw [lg_entry_eq]
  generalize (lg_sl ([.ref (ad 30), .int a1, .int a2]) ++ List.replicate (4 - (lg_sl ([.ref (ad 30), .int a1, .int a2])).length) Slot.unset).toArray = ls at hl ⊢
  have hl : lv_has ls 4 [(0, .ref (ad 30)), (1, .int a1), (2, .int a2)] := hl
  refine lv_aload_n hx hb dX5_fillWith_0 rfl (lv_at hl 0 rfl) ?_
  refine lv_iload_n hx hb dX5_fillWith_1 rfl (lv_at hl 2 rfl) ?_
  refine lv_iload_n hx hb dX5_fillWith_2 rfl (lv_at hl 1 rfl) ?_
  obtain ⟨r2, q1, hf⟩ := bd_so hf
  refine cl_i (va_runV (As := [.int a2, .int a1]) (rest := []) ⟨hx, hb, hml, hown, hts⟩ (c_X5_cheapestDriver l g ad X _ sg a2 a1 r2 q1) (cwV 2 hts gl_X5_374 rfl rfl rfl yd_X5_cheapestDriver ⟨Nat.le_of_ble_eq_true rfl, Nat.le_of_ble_eq_true rfl⟩) (preV_of hK hP (hD sg) (dd_at (by decide) cc_30) rfl) rfl rfl hl.1 rfl (lv_room (Nat.le_of_ble_eq_true rfl)) dX5_fillWith_3 ⟨Nat.le_of_ble_eq_true rfl, Nat.le_of_ble_eq_true rfl⟩) hS (fun q h => dd_A_mono hS.1 h) (fun q h => dd_A_mono hS.1 h) (fun H locs hP hS => ?_)
  refine lv_istore_n (lv' := [(3, .int r2), (0, .ref (ad 30)), (1, .int a1), (2, .int a2)]) hx hb dX5_fillWith_6 rfl hl (by decide) rfl (fun ls hl => ?_)
  refine lv_iload_n hx hb dX5_fillWith_7 rfl (lv_at hl 0 rfl) ?_
  refine lv_iconst (v := (-1 : Int32)) hx hb dX5_fillWith_8 (by decide) ?_
  refine lv_icmp_eq (tgt := 19) hx hb dX5_fillWith_9 (by decide) (fun c3 => ?_) (fun c3 => ?_)
  · have hf := if_t c3 hf
    exact hL_19 sg _ _ _ hf hP hS (lv_sub hl [] rfl)
  · have hf := if_f c3 hf
    refine lv_aload_n hx hb dX5_fillWith_12 rfl (lv_at hl 1 rfl) ?_
    refine lv_iload_n hx hb dX5_fillWith_13 rfl (lv_at hl 0 rfl) ?_
    refine lv_iload_n hx hb dX5_fillWith_14 rfl (lv_at hl 3 rfl) ?_
    refine lv_iload_n hx hb dX5_fillWith_15 rfl (lv_at hl 2 rfl) ?_
    obtain ⟨sg5, q4, hf⟩ := bd_so hf
    refine cl_v (va_runV (As := [.int r2, .int a2, .int a1]) (rest := []) ⟨hx, hb, hml, hown, hts⟩ (c_X5_enter l g ad X _ sg r2 a2 a1 sg5 q4) (cwV 3 hts gl_X5_280 rfl rfl rfl yd_X5_enter ⟨Nat.le_of_ble_eq_true rfl, Nat.le_of_ble_eq_true rfl⟩) (preV_of hK hP (hD sg) (dd_at (by decide) cc_30) rfl) rfl rfl hl.1 rfl (lv_room (Nat.le_of_ble_eq_true rfl)) dX5_fillWith_16 ⟨Nat.le_of_ble_eq_true rfl, Nat.le_of_ble_eq_true rfl⟩) hS (fun q h => dd_A_mono hS.1 h) (fun q h => dd_A_mono hS.1 h) (fun H locs hP hS => ?_)
    exact hL_19 sg5 _ _ _ hf hP hS (lv_sub hl [] rfl)
set_option maxHeartbeats 4000000 in
set_option maxRecDepth 100000 in
theorem c_X5_plan (l : Launch) (g : dd_G) (ad : Nat → Nat) (X : va_W) (sz : Nat) (sg : dd_S) (r0 : Int32) (s0 : dd_S) (hf : f_X5_plan sg = some (r0, s0)) : Met l yX5_plan (lw_ws yX5_plan cX5_plan 2 (some .int)) ({ frames := 6, cells := 0, slots := 0, locals := 141 } : Room) (va_Pc [.ref (ad 30)] (PreW g (WC g ad sg ++ X) sz)) (QI g (WC g ad s0 ++ X) (dd_A 59 ad X sz) r0) 0 0 (dd_A 59 ad X sz) := by
  refine Met.ofW (cc := cX5_plan) (maxL := 2) (ret := some .int) (by decide) rfl ?_
  intro p e s m args below meth c s₁ B hml hv
  obtain ⟨rfl, rfl, hP, hK, hD0⟩ := hv
  have hx := B.exec
  have hb := B.bytes
  have hr := B.returns
  have hts := atoms_spec (ws := (lw_ws yX5_plan cX5_plan 2 (some .int))) B.pre
  have hts : ∀ w ∈ lw_all, w.before _ s = true := fun w h => hts w (List.mem_cons_of_mem _ h)
  have hown : s.vm.findClass RX5 = some m.cls := findClass_of_methodNamed B.named
  have hlocks := B.notSynchronized
  have hD : ∀ s2 : dd_S, va_D (dd_A 59 ad X s.heap.size) (WC g ad s2 ++ X) := fun s2 => dd_D (dd_A_D hD0)
  have hS : va_S (dd_A 59 ad X s.heap.size) s.heap s.heap [] := va_S.rf
  have hL_45 : ∀ (k_9 : dd_S → Int32 → Option (Int32 × dd_S)) (hk_9 : ∀ (sg : dd_S) (v1 : Int32) (H : Heap) (locs : List Loc) (ls : Array Slot), k_9 sg v1 = some (r0, s0) → va_P g.1 vwCl (WC g ad sg ++ X) H → va_S (dd_A 59 ad X s.heap.size) s.heap H locs → lv_has ls 2 [(0, .ref (ad 30)), (1, .int v1)] → W p l e (headSpec (lw_ws yX5_plan cX5_plan 2 (some .int)) ({ frames := 6, cells := 0, slots := 0, locals := 141 } : Room)).room s m ([.ref (ad 30)] : List Value).toArray below meth c H locs 0 0 (MQ below (QI g (WC g ad s0 ++ X) (dd_A 59 ad X s.heap.size) r0) ([.ref (ad 30)] : List Value).toArray s 0 0 (dd_A 59 ad X s.heap.size)) (F0 m 9 ls [])), ∀ (sg : dd_S) (v1 : Int32) (H : Heap) (locs : List Loc) (ls : Array Slot), f_X5_plan_45 k_9 sg v1 = some (r0, s0) → va_P g.1 vwCl (WC g ad sg ++ X) H → va_S (dd_A 59 ad X s.heap.size) s.heap H locs → lv_has ls 2 [(0, .ref (ad 30)), (1, .int v1)] → W p l e (headSpec (lw_ws yX5_plan cX5_plan 2 (some .int)) ({ frames := 6, cells := 0, slots := 0, locals := 141 } : Room)).room s m ([.ref (ad 30)] : List Value).toArray below meth c H locs 0 0 (MQ below (QI g (WC g ad s0 ++ X) (dd_A 59 ad X s.heap.size) r0) ([.ref (ad 30)] : List Value).toArray s 0 0 (dd_A 59 ad X s.heap.size)) (F0 m 45 ls []) := by
    intro k_9 hk_9 sg v1 H locs ls hf hP hS hl
    unfold f_X5_plan_45 at hf
    obtain ⟨x19, ex19, hf⟩ := lt_ex hf
    refine lv_iinc (v := x19) (lv' := [(1, .int x19), (0, .ref (ad 30))]) hx hb dX5_plan_45 hl (k := 1) rfl (by rw [ex19]; rfl) (by decide) rfl (fun ls hl => ?_)
    refine lv_goto (tgt := 9) hx hb dX5_plan_48 (by decide) ?_
    exact hk_9 sg x19 _ _ _ hf hP hS (lv_sub hl [1, 0] rfl)
  have hL_53 : ∀ (n : Nat), ∀ (sg : dd_S) (v1 : Int32) (H : Heap) (locs : List Loc) (ls : Array Slot), f_X5_plan_53 n sg v1 = some (r0, s0) → va_P g.1 vwCl (WC g ad sg ++ X) H → va_S (dd_A 59 ad X s.heap.size) s.heap H locs → lv_has ls 2 [(0, .ref (ad 30)), (1, .int v1)] → W p l e (headSpec (lw_ws yX5_plan cX5_plan 2 (some .int)) ({ frames := 6, cells := 0, slots := 0, locals := 141 } : Room)).room s m ([.ref (ad 30)] : List Value).toArray below meth c H locs 0 0 (MQ below (QI g (WC g ad s0 ++ X) (dd_A 59 ad X s.heap.size) r0) ([.ref (ad 30)] : List Value).toArray s 0 0 (dd_A 59 ad X s.heap.size)) (F0 m 53 ls []) := by
    intro n
    induction n with
    | zero =>
      intro sg v1 H locs ls hf
      rw [f_X5_plan_53] at hf
      cases hf
    | succ n ih =>
      intro sg v1 H locs ls hf hP hS hl
      rw [f_X5_plan_53] at hf
      refine lv_iload_n hx hb dX5_plan_53 rfl (lv_at hl 1 rfl) ?_
      refine lv_aload_n hx hb dX5_plan_54 rfl (lv_at hl 0 rfl) ?_
      refine gf_X5_49 hx hb hts hown hK hP dX5_plan_55 ?_
      refine gf_X5_215 hx hb hts hown hK hP dX5_plan_58 ?_
      refine lv_icmp_ge (tgt := 82) hx hb dX5_plan_61 (by decide) (fun c11 => ?_) (fun c11 => ?_)
      · have hf := if_t c11 hf
        refine lv_aload_n hx hb dX5_plan_82 rfl (lv_at hl 0 rfl) ?_
        obtain ⟨r13, q12, hf⟩ := bd_so hf
        refine cl_i (va_runV (As := []) (rest := []) ⟨hx, hb, hml, hown, hts⟩ (c_X5_freeTrips l g ad X _ sg r13 q12) (cwV 0 hts gl_X5_143 rfl rfl rfl yd_X5_freeTrips ⟨Nat.le_of_ble_eq_true rfl, Nat.le_of_ble_eq_true rfl⟩) (preV_of hK hP (hD sg) (dd_at (by decide) cc_30) rfl) rfl rfl hl.1 rfl (lv_room (Nat.le_of_ble_eq_true rfl)) dX5_plan_83 ⟨Nat.le_of_ble_eq_true rfl, Nat.le_of_ble_eq_true rfl⟩) hS (fun q h => dd_A_mono hS.1 h) (fun q h => dd_A_mono hS.1 h) (fun H locs hP hS => ?_)
        exact W.iret (v := r13) hx hb hr (fun t ht hW => ⟨⟨r13, (), rfl, (so2 hf).1, P_at2 (so2 hf).2 ht hP⟩, hS.F ht⟩) hS.2.2 dX5_plan_86
      · have hf := if_f c11 hf
        refine lv_aload_n hx hb dX5_plan_64 rfl (lv_at hl 0 rfl) ?_
        refine lv_aload_n hx hb dX5_plan_65 rfl (lv_at hl 0 rfl) ?_
        refine gf_X5_49 hx hb hts hown hK hP dX5_plan_66 ?_
        refine lv_iload_n hx hb dX5_plan_69 rfl (lv_at hl 1 rfl) ?_
        obtain ⟨r15, q14, hf⟩ := bd_so hf
        refine cl_i (va_runV (As := [.int v1]) (rest := [.ref (ad 30)]) ⟨hx, hb, hml, hown, hts⟩ (c_X2_numberIn l g ad X _ sg v1 r15 q14) (cwV 1 hts gl_X5_216 rfl rfl rfl yd_X2_numberIn ⟨Nat.le_of_ble_eq_true rfl, Nat.le_of_ble_eq_true rfl⟩) (preV_of hK hP (hD sg) (dd_at (by decide) cc_36) rfl) rfl rfl hl.1 rfl (lv_room (Nat.le_of_ble_eq_true rfl)) dX5_plan_70 ⟨Nat.le_of_ble_eq_true rfl, Nat.le_of_ble_eq_true rfl⟩) hS (fun q h => dd_A_mono hS.1 h) (fun q h => dd_A_mono hS.1 h) (fun H locs hP hS => ?_)
        obtain ⟨sg17, q16, hf⟩ := bd_so hf
        refine cl_v (va_runV (As := [.int r15]) (rest := []) ⟨hx, hb, hml, hown, hts⟩ (c_X5_planTrip l g ad X _ sg r15 sg17 q16) (cwV 1 hts gl_X5_219 rfl rfl rfl yd_X5_planTrip ⟨Nat.le_of_ble_eq_true rfl, Nat.le_of_ble_eq_true rfl⟩) (preV_of hK hP (hD sg) (dd_at (by decide) cc_30) rfl) rfl rfl hl.1 rfl (lv_room (Nat.le_of_ble_eq_true rfl)) dX5_plan_73 ⟨Nat.le_of_ble_eq_true rfl, Nat.le_of_ble_eq_true rfl⟩) hS (fun q h => dd_A_mono hS.1 h) (fun q h => dd_A_mono hS.1 h) (fun H locs hP hS => ?_)
        obtain ⟨x18, ex18, hf⟩ := lt_ex hf
        refine lv_iinc (v := x18) (lv' := [(1, .int x18), (0, .ref (ad 30))]) hx hb dX5_plan_76 hl (k := 1) rfl (by rw [ex18]; rfl) (by decide) rfl (fun ls hl => ?_)
        refine lv_goto (tgt := 53) hx hb dX5_plan_79 (by decide) ?_
        exact ih sg17 x18 _ _ _ hf hP hS (lv_sub hl [1, 0] rfl)
  have hL_9 : ∀ (n : Nat), ∀ (sg : dd_S) (v1 : Int32) (H : Heap) (locs : List Loc) (ls : Array Slot), f_X5_plan_9 n sg v1 = some (r0, s0) → va_P g.1 vwCl (WC g ad sg ++ X) H → va_S (dd_A 59 ad X s.heap.size) s.heap H locs → lv_has ls 2 [(0, .ref (ad 30)), (1, .int v1)] → W p l e (headSpec (lw_ws yX5_plan cX5_plan 2 (some .int)) ({ frames := 6, cells := 0, slots := 0, locals := 141 } : Room)).room s m ([.ref (ad 30)] : List Value).toArray below meth c H locs 0 0 (MQ below (QI g (WC g ad s0 ++ X) (dd_A 59 ad X s.heap.size) r0) ([.ref (ad 30)] : List Value).toArray s 0 0 (dd_A 59 ad X s.heap.size)) (F0 m 9 ls []) := by
    intro n
    induction n with
    | zero =>
      intro sg v1 H locs ls hf
      rw [f_X5_plan_9] at hf
      cases hf
    | succ n ih =>
      intro sg v1 H locs ls hf hP hS hl
      rw [f_X5_plan_9] at hf
      refine lv_iload_n hx hb dX5_plan_9 rfl (lv_at hl 1 rfl) ?_
      refine lv_aload_n hx hb dX5_plan_10 rfl (lv_at hl 0 rfl) ?_
      refine gf_X5_10 hx hb hts hown hK hP dX5_plan_11 ?_
      refine gf_X5_96 hx hb hts hown hK hP dX5_plan_14 ?_
      refine lv_icmp_ge (tgt := 51) hx hb dX5_plan_17 (by decide) (fun c3 => ?_) (fun c3 => ?_)
      · have hf := if_t c3 hf
        refine lv_iconst (v := (0 : Int32)) hx hb dX5_plan_51 (by decide) ?_
        refine lv_istore_n (lv' := [(1, .int (0 : Int32)), (0, .ref (ad 30))]) hx hb dX5_plan_52 rfl hl (by decide) rfl (fun ls hl => ?_)
        exact hL_53 64 sg (0 : Int32) _ _ _ hf hP hS (lv_sub hl [1, 0] rfl)
      · have hf := if_f c3 hf
        refine lv_aload_n hx hb dX5_plan_20 rfl (lv_at hl 0 rfl) ?_
        refine lv_iload_n hx hb dX5_plan_21 rfl (lv_at hl 1 rfl) ?_
        obtain ⟨r5, q4, hf⟩ := bd_so hf
        refine cl_i (va_runV (As := [.int v1]) (rest := []) ⟨hx, hb, hml, hown, hts⟩ (c_X5_dutyOf l g ad X _ sg v1 r5 q4) (cwV 1 hts gl_X5_174 rfl rfl rfl yd_X5_dutyOf ⟨Nat.le_of_ble_eq_true rfl, Nat.le_of_ble_eq_true rfl⟩) (preV_of hK hP (hD sg) (dd_at (by decide) cc_30) rfl) rfl rfl hl.1 rfl (lv_room (Nat.le_of_ble_eq_true rfl)) dX5_plan_22 ⟨Nat.le_of_ble_eq_true rfl, Nat.le_of_ble_eq_true rfl⟩) hS (fun q h => dd_A_mono hS.1 h) (fun q h => dd_A_mono hS.1 h) (fun H locs hP hS => ?_)
        refine lv_iconst (v := (-1 : Int32)) hx hb dX5_plan_25 (by decide) ?_
        refine lv_icmp_ne (tgt := 45) hx hb dX5_plan_26 (by decide) (fun c6 => ?_) (fun c6 => ?_)
        · have hf := if_f c6 hf
          exact hL_45 (fun zs z0 => f_X5_plan_9 n zs z0) ih sg v1 _ _ _ hf hP hS (lv_sub hl [0, 1] rfl)
        · have hf := if_t c6 hf
          refine lv_aload_n hx hb dX5_plan_29 rfl (lv_at hl 0 rfl) ?_
          refine gf_X5_49 hx hb hts hown hK hP dX5_plan_30 ?_
          refine lv_aload_n hx hb dX5_plan_33 rfl (lv_at hl 0 rfl) ?_
          refine gf_X5_10 hx hb hts hown hK hP dX5_plan_34 ?_
          refine lv_iload_n hx hb dX5_plan_37 rfl (lv_at hl 1 rfl) ?_
          obtain ⟨r8, q7, hf⟩ := bd_so hf
          refine cl_i (va_runV (As := [.int v1]) (rest := [.ref (ad 36)]) ⟨hx, hb, hml, hown, hts⟩ (c_X4_departureOf l g ad X _ sg v1 r8 q7) (cwV 1 hts gl_X5_209 rfl rfl rfl yd_X4_departureOf ⟨Nat.le_of_ble_eq_true rfl, Nat.le_of_ble_eq_true rfl⟩) (preV_of hK hP (hD sg) (dd_at (by decide) cc_31) rfl) rfl rfl hl.1 rfl (lv_room (Nat.le_of_ble_eq_true rfl)) dX5_plan_38 ⟨Nat.le_of_ble_eq_true rfl, Nat.le_of_ble_eq_true rfl⟩) hS (fun q h => dd_A_mono hS.1 h) (fun q h => dd_A_mono hS.1 h) (fun H locs hP hS => ?_)
          refine lv_iload_n hx hb dX5_plan_41 rfl (lv_at hl 1 rfl) ?_
          obtain ⟨sg10, q9, hf⟩ := bd_so hf
          refine cl_v (va_runV (As := [.int r8, .int v1]) (rest := []) ⟨hx, hb, hml, hown, hts⟩ (c_X2_insert l g ad X _ sg r8 v1 sg10 q9) (cwV 2 hts gl_X5_212 rfl rfl rfl yd_X2_insert ⟨Nat.le_of_ble_eq_true rfl, Nat.le_of_ble_eq_true rfl⟩) (preV_of hK hP (hD sg) (dd_at (by decide) cc_36) rfl) rfl rfl hl.1 rfl (lv_room (Nat.le_of_ble_eq_true rfl)) dX5_plan_42 ⟨Nat.le_of_ble_eq_true rfl, Nat.le_of_ble_eq_true rfl⟩) hS (fun q h => dd_A_mono hS.1 h) (fun q h => dd_A_mono hS.1 h) (fun H locs hP hS => ?_)
          exact hL_45 (fun zs z0 => f_X5_plan_9 n zs z0) ih sg10 v1 _ _ _ hf hP hS (lv_sub hl [0, 1] rfl)
  unfold f_X5_plan at hf
  have hl := lv_entry ([.ref (ad 30)]) (n := 2) (Nat.le_of_ble_eq_true rfl)
  rw [lg_entry_eq]
  generalize (lg_sl ([.ref (ad 30)]) ++ List.replicate (2 - (lg_sl ([.ref (ad 30)])).length) Slot.unset).toArray = ls at hl ⊢
  have hl : lv_has ls 2 [(0, .ref (ad 30))] := hl
  refine lv_aload_n hx hb dX5_plan_0 rfl (lv_at hl 0 rfl) ?_
  refine gf_X5_49 hx hb hts hown hK hP dX5_plan_1 ?_
  obtain ⟨sg2, q1, hf⟩ := bd_so hf
  refine cl_v (va_runV (As := []) (rest := []) ⟨hx, hb, hml, hown, hts⟩ (c_X2_clear l g ad X _ sg sg2 q1) (cwV 0 hts gl_X5_206 rfl rfl rfl yd_X2_clear ⟨Nat.le_of_ble_eq_true rfl, Nat.le_of_ble_eq_true rfl⟩) (preV_of hK hP (hD sg) (dd_at (by decide) cc_36) rfl) rfl rfl hl.1 rfl (lv_room (Nat.le_of_ble_eq_true rfl)) dX5_plan_4 ⟨Nat.le_of_ble_eq_true rfl, Nat.le_of_ble_eq_true rfl⟩) hS (fun q h => dd_A_mono hS.1 h) (fun q h => dd_A_mono hS.1 h) (fun H locs hP hS => ?_)
  refine lv_iconst (v := (0 : Int32)) hx hb dX5_plan_7 (by decide) ?_
  refine lv_istore_n (lv' := [(1, .int (0 : Int32)), (0, .ref (ad 30))]) hx hb dX5_plan_8 rfl hl (by decide) rfl (fun ls hl => ?_)
  exact hL_9 64 sg2 (0 : Int32) _ _ _ hf hP hS (lv_sub hl [1, 0] rfl)
set_option maxHeartbeats 4000000 in
set_option maxRecDepth 100000 in
theorem c_X5_improve (l : Launch) (g : dd_G) (ad : Nat → Nat) (X : va_W) (sz : Nat) (sg : dd_S) (r0 : Int32) (s0 : dd_S) (hf : f_X5_improve sg = some (r0, s0)) : Met l yX5_improve (lw_ws yX5_improve cX5_improve 2 (some .int)) ({ frames := 6, cells := 0, slots := 0, locals := 143 } : Room) (va_Pc [.ref (ad 30)] (PreW g (WC g ad sg ++ X) sz)) (QI g (WC g ad s0 ++ X) (dd_A 59 ad X sz) r0) 0 0 (dd_A 59 ad X sz) := by
  refine Met.ofW (cc := cX5_improve) (maxL := 2) (ret := some .int) (by decide) rfl ?_
  intro p e s m args below meth c s₁ B hml hv
  obtain ⟨rfl, rfl, hP, hK, hD0⟩ := hv
  have hx := B.exec
  have hb := B.bytes
  have hr := B.returns
  have hts := atoms_spec (ws := (lw_ws yX5_improve cX5_improve 2 (some .int))) B.pre
  have hts : ∀ w ∈ lw_all, w.before _ s = true := fun w h => hts w (List.mem_cons_of_mem _ h)
  have hown : s.vm.findClass RX5 = some m.cls := findClass_of_methodNamed B.named
  have hlocks := B.notSynchronized
  have hD : ∀ s2 : dd_S, va_D (dd_A 59 ad X s.heap.size) (WC g ad s2 ++ X) := fun s2 => dd_D (dd_A_D hD0)
  have hS : va_S (dd_A 59 ad X s.heap.size) s.heap s.heap [] := va_S.rf
  have hL_30 : ∀ (k_9 : dd_S → Int32 → Option (Int32 × dd_S)) (hk_9 : ∀ (sg : dd_S) (v1 : Int32) (H : Heap) (locs : List Loc) (ls : Array Slot), k_9 sg v1 = some (r0, s0) → va_P g.1 vwCl (WC g ad sg ++ X) H → va_S (dd_A 59 ad X s.heap.size) s.heap H locs → lv_has ls 2 [(0, .ref (ad 30)), (1, .int v1)] → W p l e (headSpec (lw_ws yX5_improve cX5_improve 2 (some .int)) ({ frames := 6, cells := 0, slots := 0, locals := 143 } : Room)).room s m ([.ref (ad 30)] : List Value).toArray below meth c H locs 0 0 (MQ below (QI g (WC g ad s0 ++ X) (dd_A 59 ad X s.heap.size) r0) ([.ref (ad 30)] : List Value).toArray s 0 0 (dd_A 59 ad X s.heap.size)) (F0 m 9 ls [])), ∀ (sg : dd_S) (v1 : Int32) (H : Heap) (locs : List Loc) (ls : Array Slot), f_X5_improve_30 k_9 sg v1 = some (r0, s0) → va_P g.1 vwCl (WC g ad sg ++ X) H → va_S (dd_A 59 ad X s.heap.size) s.heap H locs → lv_has ls 2 [(0, .ref (ad 30)), (1, .int v1)] → W p l e (headSpec (lw_ws yX5_improve cX5_improve 2 (some .int)) ({ frames := 6, cells := 0, slots := 0, locals := 143 } : Room)).room s m ([.ref (ad 30)] : List Value).toArray below meth c H locs 0 0 (MQ below (QI g (WC g ad s0 ++ X) (dd_A 59 ad X s.heap.size) r0) ([.ref (ad 30)] : List Value).toArray s 0 0 (dd_A 59 ad X s.heap.size)) (F0 m 30 ls []) := by
    intro k_9 hk_9 sg v1 H locs ls hf hP hS hl
    unfold f_X5_improve_30 at hf
    obtain ⟨x16, ex16, hf⟩ := lt_ex hf
    refine lv_iinc (v := x16) (lv' := [(1, .int x16), (0, .ref (ad 30))]) hx hb dX5_improve_30 hl (k := 1) rfl (by rw [ex16]; rfl) (by decide) rfl (fun ls hl => ?_)
    refine lv_goto (tgt := 9) hx hb dX5_improve_33 (by decide) ?_
    exact hk_9 sg x16 _ _ _ hf hP hS (lv_sub hl [1, 0] rfl)
  have hL_92 : ∀ (sg : dd_S) (H : Heap) (locs : List Loc) (ls : Array Slot), f_X5_improve_92 sg = some (r0, s0) → va_P g.1 vwCl (WC g ad sg ++ X) H → va_S (dd_A 59 ad X s.heap.size) s.heap H locs → lv_has ls 2 [(0, .ref (ad 30))] → W p l e (headSpec (lw_ws yX5_improve cX5_improve 2 (some .int)) ({ frames := 6, cells := 0, slots := 0, locals := 143 } : Room)).room s m ([.ref (ad 30)] : List Value).toArray below meth c H locs 0 0 (MQ below (QI g (WC g ad s0 ++ X) (dd_A 59 ad X s.heap.size) r0) ([.ref (ad 30)] : List Value).toArray s 0 0 (dd_A 59 ad X s.heap.size)) (F0 m 92 ls []) := by
    intro sg H locs ls hf hP hS hl
    unfold f_X5_improve_92 at hf
    refine lv_aload_n hx hb dX5_improve_92 rfl (lv_at hl 0 rfl) ?_
    refine gf_X5_56 hx hb hts hown hK hP dX5_improve_93 ?_
    refine gf_X5_243 hx hb hts hown hK hP dX5_improve_96 ?_
    exact W.iret (v := (sg 39 3)) hx hb hr (fun t ht hW => ⟨⟨(sg 39 3), (), rfl, (so2 hf).1, P_at2 (so2 hf).2 ht hP⟩, hS.F ht⟩) hS.2.2 dX5_improve_99
  have hL_9 : ∀ (n : Nat), ∀ (sg : dd_S) (v1 : Int32) (H : Heap) (locs : List Loc) (ls : Array Slot), f_X5_improve_9 n sg v1 = some (r0, s0) → va_P g.1 vwCl (WC g ad sg ++ X) H → va_S (dd_A 59 ad X s.heap.size) s.heap H locs → lv_has ls 2 [(0, .ref (ad 30)), (1, .int v1)] → W p l e (headSpec (lw_ws yX5_improve cX5_improve 2 (some .int)) ({ frames := 6, cells := 0, slots := 0, locals := 143 } : Room)).room s m ([.ref (ad 30)] : List Value).toArray below meth c H locs 0 0 (MQ below (QI g (WC g ad s0 ++ X) (dd_A 59 ad X s.heap.size) r0) ([.ref (ad 30)] : List Value).toArray s 0 0 (dd_A 59 ad X s.heap.size)) (F0 m 9 ls []) := by
    intro n
    induction n with
    | zero =>
      intro sg v1 H locs ls hf
      rw [f_X5_improve_9] at hf
      cases hf
    | succ n ih =>
      intro sg v1 H locs ls hf hP hS hl
      rw [f_X5_improve_9] at hf
      refine lv_iload_n hx hb dX5_improve_9 rfl (lv_at hl 1 rfl) ?_
      refine lv_aload_n hx hb dX5_improve_10 rfl (lv_at hl 0 rfl) ?_
      refine gf_X5_137 hx hb hts hown hK hP dX5_improve_11 ?_
      refine lv_icmp_ge (tgt := 36) hx hb dX5_improve_14 (by decide) (fun c3 => ?_) (fun c3 => ?_)
      · have hf := if_t c3 hf
        refine lv_aload_n hx hb dX5_improve_36 rfl (lv_at hl 0 rfl) ?_
        refine gf_X5_56 hx hb hts hown hK hP dX5_improve_37 ?_
        refine gf_X5_243 hx hb hts hown hK hP dX5_improve_40 ?_
        refine lv_if_ge (tgt := 92) hx hb dX5_improve_43 (by decide) (fun c4 => ?_) (fun c4 => ?_)
        · have hf := if_t c4 hf
          exact hL_92 sg _ _ _ hf hP hS (lv_sub hl [0] rfl)
        · have hf := if_f c4 hf
          refine lv_aload_n hx hb dX5_improve_46 rfl (lv_at hl 0 rfl) ?_
          refine lv_aload_n hx hb dX5_improve_47 rfl (lv_at hl 0 rfl) ?_
          refine gf_X5_56 hx hb hts hown hK hP dX5_improve_48 ?_
          refine gf_X5_246 hx hb hts hown hK hP dX5_improve_51 ?_
          refine lv_aload_n hx hb dX5_improve_54 rfl (lv_at hl 0 rfl) ?_
          refine gf_X5_56 hx hb hts hown hK hP dX5_improve_55 ?_
          refine gf_X5_249 hx hb hts hown hK hP dX5_improve_58 ?_
          refine lv_aload_n hx hb dX5_improve_61 rfl (lv_at hl 0 rfl) ?_
          refine gf_X5_56 hx hb hts hown hK hP dX5_improve_62 ?_
          refine gf_X5_252 hx hb hts hown hK hP dX5_improve_65 ?_
          obtain ⟨r7, sg6, q5, hf⟩ := bd2_so hf
          refine cl_i (va_runV (As := [.int (sg 39 0), .int (sg 39 1), .int (sg 39 2)]) (rest := []) ⟨hx, hb, hml, hown, hts⟩ (c_X5_tryExchange l g ad X _ sg (sg 39 0) (sg 39 1) (sg 39 2) r7 sg6 q5) (cwV 3 hts gl_X5_227 rfl rfl rfl yd_X5_tryExchange ⟨Nat.le_of_ble_eq_true rfl, Nat.le_of_ble_eq_true rfl⟩) (preV_of hK hP (hD sg) (dd_at (by decide) cc_30) rfl) rfl rfl hl.1 rfl (lv_room (Nat.le_of_ble_eq_true rfl)) dX5_improve_68 ⟨Nat.le_of_ble_eq_true rfl, Nat.le_of_ble_eq_true rfl⟩) hS (fun q h => dd_A_mono hS.1 h) (fun q h => dd_A_mono hS.1 h) (fun H locs hP hS => ?_)
          refine lv_if_eq (tgt := 92) hx hb dX5_improve_71 (by decide) (fun c8 => ?_) (fun c8 => ?_)
          · have hf := if_t c8 hf
            exact hL_92 sg6 _ _ _ hf hP hS (lv_sub hl [0] rfl)
          · have hf := if_f c8 hf
            refine lv_aload_n hx hb dX5_improve_74 rfl (lv_at hl 0 rfl) ?_
            refine lv_aload_n hx hb dX5_improve_75 rfl (lv_at hl 0 rfl) ?_
            refine gf_X5_56 hx hb hts hown hK hP dX5_improve_76 ?_
            refine gf_X5_246 hx hb hts hown hK hP dX5_improve_79 ?_
            refine lv_aload_n hx hb dX5_improve_82 rfl (lv_at hl 0 rfl) ?_
            refine gf_X5_56 hx hb hts hown hK hP dX5_improve_83 ?_
            refine gf_X5_249 hx hb hts hown hK hP dX5_improve_86 ?_
            obtain ⟨sg10, q9, hf⟩ := bd_so hf
            refine cl_v (va_runV (As := [.int (sg6 39 0), .int (sg6 39 1)]) (rest := []) ⟨hx, hb, hml, hown, hts⟩ (c_X5_keepExchange l g ad X _ sg6 (sg6 39 0) (sg6 39 1) sg10 q9) (cwV 2 hts gl_X5_236 rfl rfl rfl yd_X5_keepExchange ⟨Nat.le_of_ble_eq_true rfl, Nat.le_of_ble_eq_true rfl⟩) (preV_of hK hP (hD sg6) (dd_at (by decide) cc_30) rfl) rfl rfl hl.1 rfl (lv_room (Nat.le_of_ble_eq_true rfl)) dX5_improve_89 ⟨Nat.le_of_ble_eq_true rfl, Nat.le_of_ble_eq_true rfl⟩) hS (fun q h => dd_A_mono hS.1 h) (fun q h => dd_A_mono hS.1 h) (fun H locs hP hS => ?_)
            exact hL_92 sg10 _ _ _ hf hP hS (lv_sub hl [0] rfl)
      · have hf := if_f c3 hf
        refine lv_aload_n hx hb dX5_improve_17 rfl (lv_at hl 0 rfl) ?_
        refine lv_iload_n hx hb dX5_improve_18 rfl (lv_at hl 1 rfl) ?_
        obtain ⟨r12, q11, hf⟩ := bd_so hf
        refine cl_i (va_runV (As := [.int v1]) (rest := []) ⟨hx, hb, hml, hown, hts⟩ (c_X5_isFixed l g ad X _ sg v1 r12 q11) (cwV 1 hts gl_X5_177 rfl rfl rfl yd_X5_isFixed ⟨Nat.le_of_ble_eq_true rfl, Nat.le_of_ble_eq_true rfl⟩) (preV_of hK hP (hD sg) (dd_at (by decide) cc_30) rfl) rfl rfl hl.1 rfl (lv_room (Nat.le_of_ble_eq_true rfl)) dX5_improve_19 ⟨Nat.le_of_ble_eq_true rfl, Nat.le_of_ble_eq_true rfl⟩) hS (fun q h => dd_A_mono hS.1 h) (fun q h => dd_A_mono hS.1 h) (fun H locs hP hS => ?_)
        refine lv_if_ne (tgt := 30) hx hb dX5_improve_22 (by decide) (fun c13 => ?_) (fun c13 => ?_)
        · have hf := if_f c13 hf
          exact hL_30 (fun zs z0 => f_X5_improve_9 n zs z0) ih sg v1 _ _ _ hf hP hS (lv_sub hl [0, 1] rfl)
        · have hf := if_t c13 hf
          refine lv_aload_n hx hb dX5_improve_25 rfl (lv_at hl 0 rfl) ?_
          refine lv_iload_n hx hb dX5_improve_26 rfl (lv_at hl 1 rfl) ?_
          obtain ⟨sg15, q14, hf⟩ := bd_so hf
          refine cl_v (va_runV (As := [.int v1]) (rest := []) ⟨hx, hb, hml, hown, hts⟩ (c_X5_weighPairsOf l g ad X _ sg v1 sg15 q14) (cwV 1 hts gl_X5_240 rfl rfl rfl yd_X5_weighPairsOf ⟨Nat.le_of_ble_eq_true rfl, Nat.le_of_ble_eq_true rfl⟩) (preV_of hK hP (hD sg) (dd_at (by decide) cc_30) rfl) rfl rfl hl.1 rfl (lv_room (Nat.le_of_ble_eq_true rfl)) dX5_improve_27 ⟨Nat.le_of_ble_eq_true rfl, Nat.le_of_ble_eq_true rfl⟩) hS (fun q h => dd_A_mono hS.1 h) (fun q h => dd_A_mono hS.1 h) (fun H locs hP hS => ?_)
          exact hL_30 (fun zs z0 => f_X5_improve_9 n zs z0) ih sg15 v1 _ _ _ hf hP hS (lv_sub hl [0, 1] rfl)
  unfold f_X5_improve at hf
  have hl := lv_entry ([.ref (ad 30)]) (n := 2) (Nat.le_of_ble_eq_true rfl)
  rw [lg_entry_eq]
  generalize (lg_sl ([.ref (ad 30)]) ++ List.replicate (2 - (lg_sl ([.ref (ad 30)])).length) Slot.unset).toArray = ls at hl ⊢
  have hl : lv_has ls 2 [(0, .ref (ad 30))] := hl
  refine lv_aload_n hx hb dX5_improve_0 rfl (lv_at hl 0 rfl) ?_
  refine gf_X5_56 hx hb hts hown hK hP dX5_improve_1 ?_
  obtain ⟨sg2, q1, hf⟩ := bd_so hf
  refine cl_v (va_runV (As := []) (rest := []) ⟨hx, hb, hml, hown, hts⟩ (c_X1_clear l g ad X _ sg sg2 q1) (cwV 0 hts gl_X5_239 rfl rfl rfl yd_X1_clear ⟨Nat.le_of_ble_eq_true rfl, Nat.le_of_ble_eq_true rfl⟩) (preV_of hK hP (hD sg) (dd_at (by decide) cc_39) rfl) rfl rfl hl.1 rfl (lv_room (Nat.le_of_ble_eq_true rfl)) dX5_improve_4 ⟨Nat.le_of_ble_eq_true rfl, Nat.le_of_ble_eq_true rfl⟩) hS (fun q h => dd_A_mono hS.1 h) (fun q h => dd_A_mono hS.1 h) (fun H locs hP hS => ?_)
  refine lv_iconst (v := (0 : Int32)) hx hb dX5_improve_7 (by decide) ?_
  refine lv_istore_n (lv' := [(1, .int (0 : Int32)), (0, .ref (ad 30))]) hx hb dX5_improve_8 rfl hl (by decide) rfl (fun ls hl => ?_)
  exact hL_9 64 sg2 (0 : Int32) _ _ _ hf hP hS (lv_sub hl [1, 0] rfl)
set_option maxHeartbeats 4000000 in
set_option maxRecDepth 100000 in
theorem c_X5_pay (l : Launch) (g : dd_G) (ad : Nat → Nat) (X : va_W) (sz : Nat) (sg : dd_S) (r0 : Int32) (hf : f_X5_pay sg = some (r0)) : Met l yX5_pay (lw_ws yX5_pay cX5_pay 3 (some .int)) ({ frames := 1, cells := 0, slots := 0, locals := 22 } : Room) (va_Pc [.ref (ad 30)] (PreW g (WC g ad sg ++ X) sz)) (QI g (WC g ad sg ++ X) (dd_A 59 ad X sz) r0) 0 0 (dd_A 59 ad X sz) := by
  refine Met.ofW (cc := cX5_pay) (maxL := 3) (ret := some .int) (by decide) rfl ?_
  intro p e s m args below meth c s₁ B hml hv
  obtain ⟨rfl, rfl, hP, hK, hD0⟩ := hv
  have hx := B.exec
  have hb := B.bytes
  have hr := B.returns
  have hts := atoms_spec (ws := (lw_ws yX5_pay cX5_pay 3 (some .int))) B.pre
  have hts : ∀ w ∈ lw_all, w.before _ s = true := fun w h => hts w (List.mem_cons_of_mem _ h)
  have hown : s.vm.findClass RX5 = some m.cls := findClass_of_methodNamed B.named
  have hlocks := B.notSynchronized
  have hD : ∀ s2 : dd_S, va_D (dd_A 59 ad X s.heap.size) (WC g ad s2 ++ X) := fun s2 => dd_D (dd_A_D hD0)
  have hS : va_S (dd_A 59 ad X s.heap.size) s.heap s.heap [] := va_S.rf
  have hL_4 : ∀ (n : Nat), ∀ (v1 : Int32) (v2 : Int32) (H : Heap) (locs : List Loc) (ls : Array Slot), f_X5_pay_4 sg n v1 v2 = some (r0) → va_P g.1 vwCl (WC g ad sg ++ X) H → va_S (dd_A 59 ad X s.heap.size) s.heap H locs → lv_has ls 3 [(0, .ref (ad 30)), (1, .int v1), (2, .int v2)] → W p l e (headSpec (lw_ws yX5_pay cX5_pay 3 (some .int)) ({ frames := 1, cells := 0, slots := 0, locals := 22 } : Room)).room s m ([.ref (ad 30)] : List Value).toArray below meth c H locs 0 0 (MQ below (QI g (WC g ad sg ++ X) (dd_A 59 ad X s.heap.size) r0) ([.ref (ad 30)] : List Value).toArray s 0 0 (dd_A 59 ad X s.heap.size)) (F0 m 4 ls []) := by
    intro n
    induction n with
    | zero =>
      intro v1 v2 H locs ls hf
      rw [f_X5_pay_4] at hf
      cases hf
    | succ n ih =>
      intro v1 v2 H locs ls hf hP hS hl
      rw [f_X5_pay_4] at hf
      refine lv_iload_n hx hb dX5_pay_4 rfl (lv_at hl 2 rfl) ?_
      refine lv_aload_n hx hb dX5_pay_5 rfl (lv_at hl 0 rfl) ?_
      refine gf_X5_137 hx hb hts hown hK hP dX5_pay_6 ?_
      refine lv_icmp_ge (tgt := 29) hx hb dX5_pay_9 (by decide) (fun c1 => ?_) (fun c1 => ?_)
      · have hf := if_t c1 hf
        refine lv_iload_n hx hb dX5_pay_29 rfl (lv_at hl 1 rfl) ?_
        exact W.iret (v := v1) hx hb hr (fun t ht hW => ⟨⟨v1, (), rfl, so1 hf, P_at ht hP⟩, hS.F ht⟩) hS.2.2 dX5_pay_30
      · have hf := if_f c1 hf
        refine lv_iload_n hx hb dX5_pay_12 rfl (lv_at hl 1 rfl) ?_
        refine lv_aload_n hx hb dX5_pay_13 rfl (lv_at hl 0 rfl) ?_
        refine lv_iload_n hx hb dX5_pay_14 rfl (lv_at hl 2 rfl) ?_
        obtain ⟨r3, q2, hf⟩ := bd_so hf
        refine cl_r (va_runV (As := [.int v2]) (rest := [.int v1]) ⟨hx, hb, hml, hown, hts⟩ (c_X5_dutyAt l g ad X _ sg v2 r3 q2) (cwV 1 hts gl_X5_164 rfl rfl rfl yd_X5_dutyAt ⟨Nat.le_of_ble_eq_true rfl, Nat.le_of_ble_eq_true rfl⟩) (preV_of hK hP (hD sg) (dd_at (by decide) cc_30) rfl) rfl rfl hl.1 rfl (lv_room (Nat.le_of_ble_eq_true rfl)) dX5_pay_15 ⟨Nat.le_of_ble_eq_true rfl, Nat.le_of_ble_eq_true rfl⟩) hS (fun q h => dd_A_mono hS.1 h) (fun q h => dd_A_mono hS.1 h) (fun H locs hP hS => ?_)
        have hr3 := lt_X5_dutyAt q2
        refine gf_X5_255 hx hb hts hown hK hP hr3 dX5_pay_18 ?_
        refine lv_iadd hx hb dX5_pay_21 ?_
        refine lv_topi (fun x4 ex4 => ?_)
        have hf := lt_so ex4 hf
        refine lv_istore_n (lv' := [(1, .int x4), (0, .ref (ad 30)), (2, .int v2)]) hx hb dX5_pay_22 rfl hl (by decide) rfl (fun ls hl => ?_)
        obtain ⟨x5, ex5, hf⟩ := lt_ex hf
        refine lv_iinc (v := x5) (lv' := [(2, .int x5), (1, .int x4), (0, .ref (ad 30))]) hx hb dX5_pay_23 hl (k := 2) rfl (by rw [ex5]; rfl) (by decide) rfl (fun ls hl => ?_)
        refine lv_goto (tgt := 4) hx hb dX5_pay_26 (by decide) ?_
        exact ih x4 x5 _ _ _ hf hP hS (lv_sub hl [2, 1, 0] rfl)
  unfold f_X5_pay at hf
  have hl := lv_entry ([.ref (ad 30)]) (n := 3) (Nat.le_of_ble_eq_true rfl)
  rw [lg_entry_eq]
  generalize (lg_sl ([.ref (ad 30)]) ++ List.replicate (3 - (lg_sl ([.ref (ad 30)])).length) Slot.unset).toArray = ls at hl ⊢
  have hl : lv_has ls 3 [(0, .ref (ad 30))] := hl
  refine lv_iconst (v := (0 : Int32)) hx hb dX5_pay_0 (by decide) ?_
  refine lv_istore_n (lv' := [(1, .int (0 : Int32)), (0, .ref (ad 30))]) hx hb dX5_pay_1 rfl hl (by decide) rfl (fun ls hl => ?_)
  refine lv_iconst (v := (0 : Int32)) hx hb dX5_pay_2 (by decide) ?_
  refine lv_istore_n (lv' := [(2, .int (0 : Int32)), (1, .int (0 : Int32)), (0, .ref (ad 30))]) hx hb dX5_pay_3 rfl hl (by decide) rfl (fun ls hl => ?_)
  exact hL_4 64 (0 : Int32) (0 : Int32) _ _ _ hf hP hS (lv_sub hl [2, 1, 0] rfl)
