set_option maxHeartbeats 4000000 in
set_option maxRecDepth 100000 in
theorem c_X6_no (l : Launch) (g : dd_G) (ad : Nat → Nat) (X : va_W) (sz : Nat) (sg : dd_S) (a1 : Int32) (r0 : Int32) (s0 : dd_S) (hf : f_X6_no sg a1 = some (r0, s0)) : Met l yX6_no (lw_ws yX6_no cX6_no 2 (some .int)) ({ frames := 0, cells := 0, slots := 0, locals := 0 } : Room) (va_Pc [.ref (ad 0), .int a1] (PreW g (WM g ad sg ++ X) sz)) (QI g (WM g ad s0 ++ X) (dd_A 9 ad X sz) r0) 0 0 (dd_A 9 ad X sz) := by
  refine Met.ofW (cc := cX6_no) (maxL := 2) (ret := some .int) (by decide) rfl ?_
  intro p e s m args below meth c s₁ B hml hv
  obtain ⟨rfl, rfl, hP, hK, hD0⟩ := hv
  have hx := B.exec
  have hb := B.bytes
  have hr := B.returns
  have hts := atoms_spec (ws := (lw_ws yX6_no cX6_no 2 (some .int))) B.pre
  have hts : ∀ w ∈ lw_all, w.before _ s = true := fun w h => hts w (List.mem_cons_of_mem _ h)
  have hown : s.vm.findClass RX6 = some m.cls := findClass_of_methodNamed B.named
  have hlocks := B.notSynchronized
  have hD : ∀ s2 : dd_S, va_D (dd_A 9 ad X s.heap.size) (WM g ad s2 ++ X) := fun s2 => dd_D (dd_A_D hD0)
  have hS : va_S (dd_A 9 ad X s.heap.size) s.heap s.heap [] := va_S.rf
  unfold f_X6_no at hf
  have hl := lv_entry ([.ref (ad 0), .int a1]) (n := 2) (Nat.le_of_ble_eq_true rfl)
  rw [lg_entry_eq]
  generalize (lg_sl ([.ref (ad 0), .int a1]) ++ List.replicate (2 - (lg_sl ([.ref (ad 0), .int a1])).length) Slot.unset).toArray = ls at hl ⊢
  have hl : lv_has ls 2 [(0, .ref (ad 0)), (1, .int a1)] := hl
  refine lv_aload_n hx hb dX6_no_0 rfl (lv_at hl 0 rfl) ?_
  refine lv_iload_n hx hb dX6_no_1 rfl (lv_at hl 1 rfl) ?_
  obtain ⟨sg1, esg1, hf⟩ := lt_ex hf
  refine pf_X6_47 hx hb hts hown hK hP hD hS dX6_no_2 (fun H locs hP hS => ?_)
  rw [← esg1] at hP
  refine lv_iconst (v := (0 : Int32)) hx hb dX6_no_5 (by decide) ?_
  exact W.iret (v := (0 : Int32)) hx hb hr (fun t ht hW => ⟨⟨(0 : Int32), (), rfl, (so2 hf).1, P_at2 (so2 hf).2 ht hP⟩, hS.F ht⟩) hS.2.2 dX6_no_6
set_option maxHeartbeats 4000000 in
set_option maxRecDepth 100000 in
theorem c_X6_isIn (l : Launch) (g : dd_G) (ad : Nat → Nat) (X : va_W) (sz : Nat) (sg : dd_S) (a0 : Int32) (a1 : Int32) (a2 : Int32) (r0 : Int32) (hf : f_X6_isIn sg a0 a1 a2 = some (r0)) : Met l yX6_isIn (lw_ws yX6_isIn cX6_isIn 3 (some .boolean)) ({ frames := 0, cells := 0, slots := 0, locals := 0 } : Room) (va_Pc [.int a0, .int a1, .int a2] (PreW g (WM g ad sg ++ X) sz)) (QI g (WM g ad sg ++ X) (dd_A 9 ad X sz) r0) 0 0 (dd_A 9 ad X sz) := by
  refine Met.ofW (cc := cX6_isIn) (maxL := 3) (ret := some .boolean) (by decide) rfl ?_
  intro p e s m args below meth c s₁ B hml hv
  obtain ⟨rfl, rfl, hP, hK, hD0⟩ := hv
  have hx := B.exec
  have hb := B.bytes
  have hr := B.returns
  have hts := atoms_spec (ws := (lw_ws yX6_isIn cX6_isIn 3 (some .boolean))) B.pre
  have hts : ∀ w ∈ lw_all, w.before _ s = true := fun w h => hts w (List.mem_cons_of_mem _ h)
  have hown : s.vm.findClass RX6 = some m.cls := findClass_of_methodNamed B.named
  have hlocks := B.notSynchronized
  have hD : ∀ s2 : dd_S, va_D (dd_A 9 ad X s.heap.size) (WM g ad s2 ++ X) := fun s2 => dd_D (dd_A_D hD0)
  have hS : va_S (dd_A 9 ad X s.heap.size) s.heap s.heap [] := va_S.rf
  have hL_15 : ∀ (t0 : Int32) (H : Heap) (locs : List Loc) (ls : Array Slot), f_X6_isIn_15 sg a0 a1 a2 t0 = some (r0) → va_P g.1 vwCl (WM g ad sg ++ X) H → va_S (dd_A 9 ad X s.heap.size) s.heap H locs → lv_has ls 3 [] → W p l e (headSpec (lw_ws yX6_isIn cX6_isIn 3 (some .boolean)) ({ frames := 0, cells := 0, slots := 0, locals := 0 } : Room)).room s m ([.int a0, .int a1, .int a2] : List Value).toArray below meth c H locs 0 0 (MQ below (QI g (WM g ad sg ++ X) (dd_A 9 ad X s.heap.size) r0) ([.int a0, .int a1, .int a2] : List Value).toArray s 0 0 (dd_A 9 ad X s.heap.size)) (F0 m 15 ls [.int t0]) := by
    intro t0 H locs ls hf hP hS hl
    unfold f_X6_isIn_15 at hf
    obtain ⟨hz3, hf⟩ := gd_so hf
    exact W.zret (v := t0) hx hb hr (bz_z hz3) (fun t ht hW => ⟨⟨t0, (), rfl, so1 hf, P_at ht hP⟩, hS.F ht⟩) hS.2.2 dX6_isIn_15
  have hL_14 : ∀ (H : Heap) (locs : List Loc) (ls : Array Slot), f_X6_isIn_14 sg a0 a1 a2 = some (r0) → va_P g.1 vwCl (WM g ad sg ++ X) H → va_S (dd_A 9 ad X s.heap.size) s.heap H locs → lv_has ls 3 [] → W p l e (headSpec (lw_ws yX6_isIn cX6_isIn 3 (some .boolean)) ({ frames := 0, cells := 0, slots := 0, locals := 0 } : Room)).room s m ([.int a0, .int a1, .int a2] : List Value).toArray below meth c H locs 0 0 (MQ below (QI g (WM g ad sg ++ X) (dd_A 9 ad X s.heap.size) r0) ([.int a0, .int a1, .int a2] : List Value).toArray s 0 0 (dd_A 9 ad X s.heap.size)) (F0 m 14 ls []) := by
    intro H locs ls hf hP hS hl
    unfold f_X6_isIn_14 at hf
    refine lv_iconst (v := (0 : Int32)) hx hb dX6_isIn_14 (by decide) ?_
    exact hL_15 (0 : Int32) _ _ _ hf hP hS (lv_sub hl [] rfl)
  unfold f_X6_isIn at hf
  have hl := lv_entry ([.int a0, .int a1, .int a2]) (n := 3) (Nat.le_of_ble_eq_true rfl)
  rw [lg_entry_eq]
  generalize (lg_sl ([.int a0, .int a1, .int a2]) ++ List.replicate (3 - (lg_sl ([.int a0, .int a1, .int a2])).length) Slot.unset).toArray = ls at hl ⊢
  have hl : lv_has ls 3 [(0, .int a0), (1, .int a1), (2, .int a2)] := hl
  refine lv_iload_n hx hb dX6_isIn_0 rfl (lv_at hl 0 rfl) ?_
  refine lv_iload_n hx hb dX6_isIn_1 rfl (lv_at hl 1 rfl) ?_
  refine lv_icmp_lt (tgt := 14) hx hb dX6_isIn_2 (by decide) (fun c1 => ?_) (fun c1 => ?_)
  · have hf := if_t c1 hf
    exact hL_14 _ _ _ hf hP hS (lv_sub hl [] rfl)
  · have hf := if_f c1 hf
    refine lv_iload_n hx hb dX6_isIn_5 rfl (lv_at hl 0 rfl) ?_
    refine lv_iload_n hx hb dX6_isIn_6 rfl (lv_at hl 2 rfl) ?_
    refine lv_icmp_gt (tgt := 14) hx hb dX6_isIn_7 (by decide) (fun c2 => ?_) (fun c2 => ?_)
    · have hf := if_t c2 hf
      exact hL_14 _ _ _ hf hP hS (lv_sub hl [] rfl)
    · have hf := if_f c2 hf
      refine lv_iconst (v := (1 : Int32)) hx hb dX6_isIn_10 (by decide) ?_
      refine lv_goto (tgt := 15) hx hb dX6_isIn_11 (by decide) ?_
      exact hL_15 (1 : Int32) _ _ _ hf hP hS (lv_sub hl [] rfl)
set_option maxHeartbeats 4000000 in
set_option maxRecDepth 100000 in
theorem c_X6_isTrip (l : Launch) (g : dd_G) (ad : Nat → Nat) (X : va_W) (sz : Nat) (sg : dd_S) (a1 : Int32) (r0 : Int32) (hf : f_X6_isTrip sg a1 = some (r0)) : Met l yX6_isTrip (lw_ws yX6_isTrip cX6_isTrip 2 (some .boolean)) ({ frames := 1, cells := 0, slots := 0, locals := 22 } : Room) (va_Pc [.ref (ad 0), .int a1] (PreW g (WM g ad sg ++ X) sz)) (QI g (WM g ad sg ++ X) (dd_A 9 ad X sz) r0) 0 0 (dd_A 9 ad X sz) := by
  refine Met.ofW (cc := cX6_isTrip) (maxL := 2) (ret := some .boolean) (by decide) rfl ?_
  intro p e s m args below meth c s₁ B hml hv
  obtain ⟨rfl, rfl, hP, hK, hD0⟩ := hv
  have hx := B.exec
  have hb := B.bytes
  have hr := B.returns
  have hts := atoms_spec (ws := (lw_ws yX6_isTrip cX6_isTrip 2 (some .boolean))) B.pre
  have hts : ∀ w ∈ lw_all, w.before _ s = true := fun w h => hts w (List.mem_cons_of_mem _ h)
  have hown : s.vm.findClass RX6 = some m.cls := findClass_of_methodNamed B.named
  have hlocks := B.notSynchronized
  have hD : ∀ s2 : dd_S, va_D (dd_A 9 ad X s.heap.size) (WM g ad s2 ++ X) := fun s2 => dd_D (dd_A_D hD0)
  have hS : va_S (dd_A 9 ad X s.heap.size) s.heap s.heap [] := va_S.rf
  unfold f_X6_isTrip at hf
  have hl := lv_entry ([.ref (ad 0), .int a1]) (n := 2) (Nat.le_of_ble_eq_true rfl)
  rw [lg_entry_eq]
  generalize (lg_sl ([.ref (ad 0), .int a1]) ++ List.replicate (2 - (lg_sl ([.ref (ad 0), .int a1])).length) Slot.unset).toArray = ls at hl ⊢
  have hl : lv_has ls 2 [(0, .ref (ad 0)), (1, .int a1)] := hl
  refine lv_iload_n hx hb dX6_isTrip_0 rfl (lv_at hl 1 rfl) ?_
  refine lv_iconst (v := (0 : Int32)) hx hb dX6_isTrip_1 (by decide) ?_
  refine lv_aload_n hx hb dX6_isTrip_2 rfl (lv_at hl 0 rfl) ?_
  refine gf_X6_50 hx hb hts hown hK hP dX6_isTrip_3 ?_
  refine lv_iconst (v := (1 : Int32)) hx hb dX6_isTrip_6 (by decide) ?_
  refine lv_isub hx hb dX6_isTrip_7 ?_
  obtain ⟨r2, q1, hf⟩ := bd_so hf
  refine cl_i (va_runS (As := [.int a1, .int (0 : Int32), .int ((sg 0 2) - (1 : Int32))]) (rest := []) ⟨hx, hb, hml, hown, hts⟩ (c_X6_isIn l g ad X _ sg a1 (0 : Int32) ((sg 0 2) - (1 : Int32)) r2 q1) (cwS 3 hts gl_X6_53 rfl rfl rfl yd_X6_isIn ⟨Nat.le_of_ble_eq_true rfl, Nat.le_of_ble_eq_true rfl⟩) (preS_of hK hP (hD sg)) rfl rfl hl.1 rfl (lv_room (Nat.le_of_ble_eq_true rfl)) dX6_isTrip_8 ⟨Nat.le_of_ble_eq_true rfl, Nat.le_of_ble_eq_true rfl⟩) hS (fun q h => dd_A_mono hS.1 h) (fun q h => dd_A_mono hS.1 h) (fun H locs hP hS => ?_)
  obtain ⟨hz3, hf⟩ := gd_so hf
  exact W.zret (v := r2) hx hb hr (bz_z hz3) (fun t ht hW => ⟨⟨r2, (), rfl, so1 hf, P_at ht hP⟩, hS.F ht⟩) hS.2.2 dX6_isTrip_11
set_option maxHeartbeats 4000000 in
set_option maxRecDepth 100000 in
theorem c_X6_isDuty (l : Launch) (g : dd_G) (ad : Nat → Nat) (X : va_W) (sz : Nat) (sg : dd_S) (a1 : Int32) (r0 : Int32) (hf : f_X6_isDuty sg a1 = some (r0)) : Met l yX6_isDuty (lw_ws yX6_isDuty cX6_isDuty 2 (some .boolean)) ({ frames := 1, cells := 0, slots := 0, locals := 22 } : Room) (va_Pc [.ref (ad 0), .int a1] (PreW g (WM g ad sg ++ X) sz)) (QI g (WM g ad sg ++ X) (dd_A 9 ad X sz) r0) 0 0 (dd_A 9 ad X sz) := by
  refine Met.ofW (cc := cX6_isDuty) (maxL := 2) (ret := some .boolean) (by decide) rfl ?_
  intro p e s m args below meth c s₁ B hml hv
  obtain ⟨rfl, rfl, hP, hK, hD0⟩ := hv
  have hx := B.exec
  have hb := B.bytes
  have hr := B.returns
  have hts := atoms_spec (ws := (lw_ws yX6_isDuty cX6_isDuty 2 (some .boolean))) B.pre
  have hts : ∀ w ∈ lw_all, w.before _ s = true := fun w h => hts w (List.mem_cons_of_mem _ h)
  have hown : s.vm.findClass RX6 = some m.cls := findClass_of_methodNamed B.named
  have hlocks := B.notSynchronized
  have hD : ∀ s2 : dd_S, va_D (dd_A 9 ad X s.heap.size) (WM g ad s2 ++ X) := fun s2 => dd_D (dd_A_D hD0)
  have hS : va_S (dd_A 9 ad X s.heap.size) s.heap s.heap [] := va_S.rf
  unfold f_X6_isDuty at hf
  have hl := lv_entry ([.ref (ad 0), .int a1]) (n := 2) (Nat.le_of_ble_eq_true rfl)
  rw [lg_entry_eq]
  generalize (lg_sl ([.ref (ad 0), .int a1]) ++ List.replicate (2 - (lg_sl ([.ref (ad 0), .int a1])).length) Slot.unset).toArray = ls at hl ⊢
  have hl : lv_has ls 2 [(0, .ref (ad 0)), (1, .int a1)] := hl
  refine lv_iload_n hx hb dX6_isDuty_0 rfl (lv_at hl 1 rfl) ?_
  refine lv_iconst (v := (0 : Int32)) hx hb dX6_isDuty_1 (by decide) ?_
  refine lv_aload_n hx hb dX6_isDuty_2 rfl (lv_at hl 0 rfl) ?_
  refine gf_X6_57 hx hb hts hown hK hP dX6_isDuty_3 ?_
  refine lv_iconst (v := (1 : Int32)) hx hb dX6_isDuty_6 (by decide) ?_
  refine lv_isub hx hb dX6_isDuty_7 ?_
  obtain ⟨r2, q1, hf⟩ := bd_so hf
  refine cl_i (va_runS (As := [.int a1, .int (0 : Int32), .int ((sg 0 8) - (1 : Int32))]) (rest := []) ⟨hx, hb, hml, hown, hts⟩ (c_X6_isIn l g ad X _ sg a1 (0 : Int32) ((sg 0 8) - (1 : Int32)) r2 q1) (cwS 3 hts gl_X6_53 rfl rfl rfl yd_X6_isIn ⟨Nat.le_of_ble_eq_true rfl, Nat.le_of_ble_eq_true rfl⟩) (preS_of hK hP (hD sg)) rfl rfl hl.1 rfl (lv_room (Nat.le_of_ble_eq_true rfl)) dX6_isDuty_8 ⟨Nat.le_of_ble_eq_true rfl, Nat.le_of_ble_eq_true rfl⟩) hS (fun q h => dd_A_mono hS.1 h) (fun q h => dd_A_mono hS.1 h) (fun H locs hP hS => ?_)
  obtain ⟨hz3, hf⟩ := gd_so hf
  exact W.zret (v := r2) hx hb hr (bz_z hz3) (fun t ht hW => ⟨⟨r2, (), rfl, so1 hf, P_at ht hP⟩, hS.F ht⟩) hS.2.2 dX6_isDuty_11
set_option maxHeartbeats 4000000 in
set_option maxRecDepth 100000 in
theorem c_X6_isPoint (l : Launch) (g : dd_G) (ad : Nat → Nat) (X : va_W) (sz : Nat) (sg : dd_S) (a0 : Int32) (r0 : Int32) (hf : f_X6_isPoint sg a0 = some (r0)) : Met l yX6_isPoint (lw_ws yX6_isPoint cX6_isPoint 1 (some .boolean)) ({ frames := 1, cells := 0, slots := 0, locals := 22 } : Room) (va_Pc [.int a0] (PreW g (WM g ad sg ++ X) sz)) (QI g (WM g ad sg ++ X) (dd_A 9 ad X sz) r0) 0 0 (dd_A 9 ad X sz) := by
  refine Met.ofW (cc := cX6_isPoint) (maxL := 1) (ret := some .boolean) (by decide) rfl ?_
  intro p e s m args below meth c s₁ B hml hv
  obtain ⟨rfl, rfl, hP, hK, hD0⟩ := hv
  have hx := B.exec
  have hb := B.bytes
  have hr := B.returns
  have hts := atoms_spec (ws := (lw_ws yX6_isPoint cX6_isPoint 1 (some .boolean))) B.pre
  have hts : ∀ w ∈ lw_all, w.before _ s = true := fun w h => hts w (List.mem_cons_of_mem _ h)
  have hown : s.vm.findClass RX6 = some m.cls := findClass_of_methodNamed B.named
  have hlocks := B.notSynchronized
  have hD : ∀ s2 : dd_S, va_D (dd_A 9 ad X s.heap.size) (WM g ad s2 ++ X) := fun s2 => dd_D (dd_A_D hD0)
  have hS : va_S (dd_A 9 ad X s.heap.size) s.heap s.heap [] := va_S.rf
  unfold f_X6_isPoint at hf
  have hl := lv_entry ([.int a0]) (n := 1) (Nat.le_of_ble_eq_true rfl)
  rw [lg_entry_eq]
  generalize (lg_sl ([.int a0]) ++ List.replicate (1 - (lg_sl ([.int a0])).length) Slot.unset).toArray = ls at hl ⊢
  have hl : lv_has ls 1 [(0, .int a0)] := hl
  refine lv_iload_n hx hb dX6_isPoint_0 rfl (lv_at hl 0 rfl) ?_
  refine lv_iconst (v := (0 : Int32)) hx hb dX6_isPoint_1 (by decide) ?_
  refine lv_iconst (v := (5 : Int32)) hx hb dX6_isPoint_2 (by decide) ?_
  obtain ⟨r2, q1, hf⟩ := bd_so hf
  refine cl_i (va_runS (As := [.int a0, .int (0 : Int32), .int (5 : Int32)]) (rest := []) ⟨hx, hb, hml, hown, hts⟩ (c_X6_isIn l g ad X _ sg a0 (0 : Int32) (5 : Int32) r2 q1) (cwS 3 hts gl_X6_53 rfl rfl rfl yd_X6_isIn ⟨Nat.le_of_ble_eq_true rfl, Nat.le_of_ble_eq_true rfl⟩) (preS_of hK hP (hD sg)) rfl rfl hl.1 rfl (lv_room (Nat.le_of_ble_eq_true rfl)) dX6_isPoint_3 ⟨Nat.le_of_ble_eq_true rfl, Nat.le_of_ble_eq_true rfl⟩) hS (fun q h => dd_A_mono hS.1 h) (fun q h => dd_A_mono hS.1 h) (fun H locs hP hS => ?_)
  obtain ⟨hz3, hf⟩ := gd_so hf
  exact W.zret (v := r2) hx hb hr (bz_z hz3) (fun t ht hW => ⟨⟨r2, (), rfl, so1 hf, P_at ht hP⟩, hS.F ht⟩) hS.2.2 dX6_isPoint_6
set_option maxHeartbeats 4000000 in
set_option maxRecDepth 100000 in
theorem c_X6_setWay (l : Launch) (g : dd_G) (ad : Nat → Nat) (X : va_W) (sz : Nat) (sg : dd_S) (a1 : Int32) (a2 : Int32) (a3 : Int32) (r0 : Int32) (s0 : dd_S) (hf : f_X6_setWay sg a1 a2 a3 = some (r0, s0)) : Met l yX6_setWay (lw_ws yX6_setWay cX6_setWay 5 (some .int)) ({ frames := 2, cells := 0, slots := 0, locals := 42 } : Room) (va_Pc [.ref (ad 0), .int a1, .int a2, .int a3] (PreW g (WM g ad sg ++ X) sz)) (QI g (WM g ad s0 ++ X) (dd_A 9 ad X sz) r0) 0 0 (dd_A 9 ad X sz) := by
  refine Met.ofW (cc := cX6_setWay) (maxL := 5) (ret := some .int) (by decide) rfl ?_
  intro p e s m args below meth c s₁ B hml hv
  obtain ⟨rfl, rfl, hP, hK, hD0⟩ := hv
  have hx := B.exec
  have hb := B.bytes
  have hr := B.returns
  have hts := atoms_spec (ws := (lw_ws yX6_setWay cX6_setWay 5 (some .int))) B.pre
  have hts : ∀ w ∈ lw_all, w.before _ s = true := fun w h => hts w (List.mem_cons_of_mem _ h)
  have hown : s.vm.findClass RX6 = some m.cls := findClass_of_methodNamed B.named
  have hlocks := B.notSynchronized
  have hD : ∀ s2 : dd_S, va_D (dd_A 9 ad X s.heap.size) (WM g ad s2 ++ X) := fun s2 => dd_D (dd_A_D hD0)
  have hS : va_S (dd_A 9 ad X s.heap.size) s.heap s.heap [] := va_S.rf
  have hL_19 : ∀ (sg : dd_S) (H : Heap) (locs : List Loc) (ls : Array Slot), f_X6_setWay_19 a1 a2 a3 sg = some (r0, s0) → va_P g.1 vwCl (WM g ad sg ++ X) H → va_S (dd_A 9 ad X s.heap.size) s.heap H locs → lv_has ls 5 [(0, .ref (ad 0))] → W p l e (headSpec (lw_ws yX6_setWay cX6_setWay 5 (some .int)) ({ frames := 2, cells := 0, slots := 0, locals := 42 } : Room)).room s m ([.ref (ad 0), .int a1, .int a2, .int a3] : List Value).toArray below meth c H locs 0 0 (MQ below (QI g (WM g ad s0 ++ X) (dd_A 9 ad X s.heap.size) r0) ([.ref (ad 0), .int a1, .int a2, .int a3] : List Value).toArray s 0 0 (dd_A 9 ad X s.heap.size)) (F0 m 19 ls []) := by
    intro sg H locs ls hf hP hS hl
    unfold f_X6_setWay_19 at hf
    refine lv_aload_n hx hb dX6_setWay_19 rfl (lv_at hl 0 rfl) ?_
    refine lv_iconst (v := (1 : Int32)) hx hb dX6_setWay_20 (by decide) ?_
    obtain ⟨r20, sg19, q18, hf⟩ := bd2_so hf
    refine cl_i (va_runV (As := [.int (1 : Int32)]) (rest := []) ⟨hx, hb, hml, hown, hts⟩ (c_X6_no l g ad X _ sg (1 : Int32) r20 sg19 q18) (cwV 1 hts gl_X6_64 rfl rfl rfl yd_X6_no ⟨Nat.le_of_ble_eq_true rfl, Nat.le_of_ble_eq_true rfl⟩) (preV_of hK hP (hD sg) (dd_at (by decide) cm_0) rfl) rfl rfl hl.1 rfl (lv_room (Nat.le_of_ble_eq_true rfl)) dX6_setWay_21 ⟨Nat.le_of_ble_eq_true rfl, Nat.le_of_ble_eq_true rfl⟩) hS (fun q h => dd_A_mono hS.1 h) (fun q h => dd_A_mono hS.1 h) (fun H locs hP hS => ?_)
    exact W.iret (v := r20) hx hb hr (fun t ht hW => ⟨⟨r20, (), rfl, (so2 hf).1, P_at2 (so2 hf).2 ht hP⟩, hS.F ht⟩) hS.2.2 dX6_setWay_24
  have hL_40 : ∀ (sg : dd_S) (H : Heap) (locs : List Loc) (ls : Array Slot), f_X6_setWay_40 a1 a2 a3 sg = some (r0, s0) → va_P g.1 vwCl (WM g ad sg ++ X) H → va_S (dd_A 9 ad X s.heap.size) s.heap H locs → lv_has ls 5 [(0, .ref (ad 0))] → W p l e (headSpec (lw_ws yX6_setWay cX6_setWay 5 (some .int)) ({ frames := 2, cells := 0, slots := 0, locals := 42 } : Room)).room s m ([.ref (ad 0), .int a1, .int a2, .int a3] : List Value).toArray below meth c H locs 0 0 (MQ below (QI g (WM g ad s0 ++ X) (dd_A 9 ad X s.heap.size) r0) ([.ref (ad 0), .int a1, .int a2, .int a3] : List Value).toArray s 0 0 (dd_A 9 ad X s.heap.size)) (F0 m 40 ls []) := by
    intro sg H locs ls hf hP hS hl
    unfold f_X6_setWay_40 at hf
    refine lv_aload_n hx hb dX6_setWay_40 rfl (lv_at hl 0 rfl) ?_
    refine lv_iconst (v := (2 : Int32)) hx hb dX6_setWay_41 (by decide) ?_
    obtain ⟨r23, sg22, q21, hf⟩ := bd2_so hf
    refine cl_i (va_runV (As := [.int (2 : Int32)]) (rest := []) ⟨hx, hb, hml, hown, hts⟩ (c_X6_no l g ad X _ sg (2 : Int32) r23 sg22 q21) (cwV 1 hts gl_X6_64 rfl rfl rfl yd_X6_no ⟨Nat.le_of_ble_eq_true rfl, Nat.le_of_ble_eq_true rfl⟩) (preV_of hK hP (hD sg) (dd_at (by decide) cm_0) rfl) rfl rfl hl.1 rfl (lv_room (Nat.le_of_ble_eq_true rfl)) dX6_setWay_42 ⟨Nat.le_of_ble_eq_true rfl, Nat.le_of_ble_eq_true rfl⟩) hS (fun q h => dd_A_mono hS.1 h) (fun q h => dd_A_mono hS.1 h) (fun H locs hP hS => ?_)
    exact W.iret (v := r23) hx hb hr (fun t ht hW => ⟨⟨r23, (), rfl, (so2 hf).1, P_at2 (so2 hf).2 ht hP⟩, hS.F ht⟩) hS.2.2 dX6_setWay_45
  unfold f_X6_setWay at hf
  have hl := lv_entry ([.ref (ad 0), .int a1, .int a2, .int a3]) (n := 5) (Nat.le_of_ble_eq_true rfl)
  rw [lg_entry_eq]
  generalize (lg_sl ([.ref (ad 0), .int a1, .int a2, .int a3]) ++ List.replicate (5 - (lg_sl ([.ref (ad 0), .int a1, .int a2, .int a3])).length) Slot.unset).toArray = ls at hl ⊢
  have hl : lv_has ls 5 [(0, .ref (ad 0)), (1, .int a1), (2, .int a2), (3, .int a3)] := hl
  refine lv_aload_n hx hb dX6_setWay_0 rfl (lv_at hl 0 rfl) ?_
  refine lv_iconst (v := (0 : Int32)) hx hb dX6_setWay_1 (by decide) ?_
  obtain ⟨sg1, esg1, hf⟩ := lt_ex hf
  refine pf_X6_47 hx hb hts hown hK hP hD hS dX6_setWay_2 (fun H locs hP hS => ?_)
  rw [← esg1] at hP
  refine lv_iload_n hx hb dX6_setWay_5 rfl (lv_at hl 1 rfl) ?_
  obtain ⟨r3, q2, hf⟩ := bd_so hf
  refine cl_i (va_runS (As := [.int a1]) (rest := []) ⟨hx, hb, hml, hown, hts⟩ (c_X6_isPoint l g ad X _ sg1 a1 r3 q2) (cwS 1 hts gl_X6_60 rfl rfl rfl yd_X6_isPoint ⟨Nat.le_of_ble_eq_true rfl, Nat.le_of_ble_eq_true rfl⟩) (preS_of hK hP (hD sg1)) rfl rfl hl.1 rfl (lv_room (Nat.le_of_ble_eq_true rfl)) dX6_setWay_6 ⟨Nat.le_of_ble_eq_true rfl, Nat.le_of_ble_eq_true rfl⟩) hS (fun q h => dd_A_mono hS.1 h) (fun q h => dd_A_mono hS.1 h) (fun H locs hP hS => ?_)
  refine lv_if_eq (tgt := 19) hx hb dX6_setWay_9 (by decide) (fun c4 => ?_) (fun c4 => ?_)
  · have hf := if_t c4 hf
    exact hL_19 sg1 _ _ _ hf hP hS (lv_sub hl [0] rfl)
  · have hf := if_f c4 hf
    refine lv_iload_n hx hb dX6_setWay_12 rfl (lv_at hl 2 rfl) ?_
    obtain ⟨r6, q5, hf⟩ := bd_so hf
    refine cl_i (va_runS (As := [.int a2]) (rest := []) ⟨hx, hb, hml, hown, hts⟩ (c_X6_isPoint l g ad X _ sg1 a2 r6 q5) (cwS 1 hts gl_X6_60 rfl rfl rfl yd_X6_isPoint ⟨Nat.le_of_ble_eq_true rfl, Nat.le_of_ble_eq_true rfl⟩) (preS_of hK hP (hD sg1)) rfl rfl hl.1 rfl (lv_room (Nat.le_of_ble_eq_true rfl)) dX6_setWay_13 ⟨Nat.le_of_ble_eq_true rfl, Nat.le_of_ble_eq_true rfl⟩) hS (fun q h => dd_A_mono hS.1 h) (fun q h => dd_A_mono hS.1 h) (fun H locs hP hS => ?_)
    refine lv_if_ne (tgt := 25) hx hb dX6_setWay_16 (by decide) (fun c7 => ?_) (fun c7 => ?_)
    · have hf := if_f c7 hf
      refine lv_iload_n hx hb dX6_setWay_25 rfl (lv_at hl 1 rfl) ?_
      refine lv_iload_n hx hb dX6_setWay_26 rfl (lv_at hl 2 rfl) ?_
      refine lv_icmp_eq (tgt := 40) hx hb dX6_setWay_27 (by decide) (fun c8 => ?_) (fun c8 => ?_)
      · have hf := if_t c8 hf
        exact hL_40 sg1 _ _ _ hf hP hS (lv_sub hl [0] rfl)
      · have hf := if_f c8 hf
        refine lv_iload_n hx hb dX6_setWay_30 rfl (lv_at hl 3 rfl) ?_
        refine lv_iconst (v := (1 : Int32)) hx hb dX6_setWay_31 (by decide) ?_
        refine lv_bipush (v := (90 : Int32)) hx hb dX6_setWay_32 (by decide) ?_
        obtain ⟨r10, q9, hf⟩ := bd_so hf
        refine cl_i (va_runS (As := [.int a3, .int (1 : Int32), .int (90 : Int32)]) (rest := []) ⟨hx, hb, hml, hown, hts⟩ (c_X6_isIn l g ad X _ sg1 a3 (1 : Int32) (90 : Int32) r10 q9) (cwS 3 hts gl_X6_53 rfl rfl rfl yd_X6_isIn ⟨Nat.le_of_ble_eq_true rfl, Nat.le_of_ble_eq_true rfl⟩) (preS_of hK hP (hD sg1)) rfl rfl hl.1 rfl (lv_room (Nat.le_of_ble_eq_true rfl)) dX6_setWay_34 ⟨Nat.le_of_ble_eq_true rfl, Nat.le_of_ble_eq_true rfl⟩) hS (fun q h => dd_A_mono hS.1 h) (fun q h => dd_A_mono hS.1 h) (fun H locs hP hS => ?_)
        refine lv_if_ne (tgt := 46) hx hb dX6_setWay_37 (by decide) (fun c11 => ?_) (fun c11 => ?_)
        · have hf := if_f c11 hf
          refine lv_aload_n hx hb dX6_setWay_46 rfl (lv_at hl 0 rfl) ?_
          refine gf_X6_9 hx hb hts hown hK hP dX6_setWay_47 ?_
          refine lv_bipush (v := (6 : Int32)) hx hb dX6_setWay_50 (by decide) ?_
          refine lv_iload_n hx hb dX6_setWay_52 rfl (lv_at hl 1 rfl) ?_
          refine lv_imul hx hb dX6_setWay_53 ?_
          refine lv_iload_n hx hb dX6_setWay_54 rfl (lv_at hl 2 rfl) ?_
          refine lv_iadd hx hb dX6_setWay_55 ?_
          obtain ⟨hi12, hf⟩ := gd_so hf
          refine W_iald hx hb hK hP 1 (by decide) cm_1 (ix_in hi12) dX6_setWay_56 ?_
          refine lv_topi (fun x13 ex13 => ?_)
          have hf := lt_so ex13 hf
          refine lv_istore (lv' := [(4, .int x13), (0, .ref (ad 0)), (1, .int a1), (2, .int a2), (3, .int a3)]) hx hb dX6_setWay_57 hl (by decide) rfl (fun ls hl => ?_)
          refine lv_aload_n hx hb dX6_setWay_59 rfl (lv_at hl 1 rfl) ?_
          refine gf_X6_9 hx hb hts hown hK hP dX6_setWay_60 ?_
          refine lv_bipush (v := (6 : Int32)) hx hb dX6_setWay_63 (by decide) ?_
          refine lv_iload_n hx hb dX6_setWay_65 rfl (lv_at hl 2 rfl) ?_
          refine lv_imul hx hb dX6_setWay_66 ?_
          refine lv_iload_n hx hb dX6_setWay_67 rfl (lv_at hl 3 rfl) ?_
          refine lv_iadd hx hb dX6_setWay_68 ?_
          refine lv_iload_n hx hb dX6_setWay_69 rfl (lv_at hl 4 rfl) ?_
          obtain ⟨hi14, hf⟩ := gd_so hf
          obtain ⟨sg15, esg15, hf⟩ := lt_ex hf
          refine W_iast hx hb hK hP hD hS 1 (by decide) (fun _ => cm_1) (ix_in hi14) dX6_setWay_70 (fun H locs hP hS => ?_)
          rw [← esg15] at hP
          refine lv_aload_n hx hb dX6_setWay_71 rfl (lv_at hl 1 rfl) ?_
          refine gf_X6_9 hx hb hts hown hK hP dX6_setWay_72 ?_
          refine lv_bipush (v := (6 : Int32)) hx hb dX6_setWay_75 (by decide) ?_
          refine lv_iload_n hx hb dX6_setWay_77 rfl (lv_at hl 3 rfl) ?_
          refine lv_imul hx hb dX6_setWay_78 ?_
          refine lv_iload_n hx hb dX6_setWay_79 rfl (lv_at hl 2 rfl) ?_
          refine lv_iadd hx hb dX6_setWay_80 ?_
          refine lv_iload_n hx hb dX6_setWay_81 rfl (lv_at hl 4 rfl) ?_
          obtain ⟨hi16, hf⟩ := gd_so hf
          obtain ⟨sg17, esg17, hf⟩ := lt_ex hf
          refine W_iast hx hb hK hP hD hS 1 (by decide) (fun _ => cm_1) (ix_in hi16) dX6_setWay_82 (fun H locs hP hS => ?_)
          rw [← esg17] at hP
          refine lv_iload hx hb dX6_setWay_83 (lv_at hl 0 rfl) ?_
          exact W.iret (v := x13) hx hb hr (fun t ht hW => ⟨⟨x13, (), rfl, (so2 hf).1, P_at2 (so2 hf).2 ht hP⟩, hS.F ht⟩) hS.2.2 dX6_setWay_85
        · have hf := if_t c11 hf
          exact hL_40 sg1 _ _ _ hf hP hS (lv_sub hl [0] rfl)
    · have hf := if_t c7 hf
      exact hL_19 sg1 _ _ _ hf hP hS (lv_sub hl [0] rfl)
set_option maxHeartbeats 4000000 in
set_option maxRecDepth 100000 in
theorem c_X6_addTrip (l : Launch) (g : dd_G) (ad : Nat → Nat) (X : va_W) (sz : Nat) (sg : dd_S) (a1 : Int32) (a2 : Int32) (a3 : Int32) (a4 : Int32) (r0 : Int32) (s0 : dd_S) (hf : f_X6_addTrip sg a1 a2 a3 a4 = some (r0, s0)) : Met l yX6_addTrip (lw_ws yX6_addTrip cX6_addTrip 5 (some .int)) ({ frames := 2, cells := 0, slots := 0, locals := 42 } : Room) (va_Pc [.ref (ad 0), .int a1, .int a2, .int a3, .int a4] (PreW g (WM g ad sg ++ X) sz)) (QI g (WM g ad s0 ++ X) (dd_A 9 ad X sz) r0) 0 0 (dd_A 9 ad X sz) := by
  refine Met.ofW (cc := cX6_addTrip) (maxL := 5) (ret := some .int) (by decide) rfl ?_
  intro p e s m args below meth c s₁ B hml hv
  obtain ⟨rfl, rfl, hP, hK, hD0⟩ := hv
  have hx := B.exec
  have hb := B.bytes
  have hr := B.returns
  have hts := atoms_spec (ws := (lw_ws yX6_addTrip cX6_addTrip 5 (some .int))) B.pre
  have hts : ∀ w ∈ lw_all, w.before _ s = true := fun w h => hts w (List.mem_cons_of_mem _ h)
  have hown : s.vm.findClass RX6 = some m.cls := findClass_of_methodNamed B.named
  have hlocks := B.notSynchronized
  have hD : ∀ s2 : dd_S, va_D (dd_A 9 ad X s.heap.size) (WM g ad s2 ++ X) := fun s2 => dd_D (dd_A_D hD0)
  have hS : va_S (dd_A 9 ad X s.heap.size) s.heap s.heap [] := va_S.rf
  have hL_19 : ∀ (sg : dd_S) (H : Heap) (locs : List Loc) (ls : Array Slot), f_X6_addTrip_19 a1 a2 a3 a4 sg = some (r0, s0) → va_P g.1 vwCl (WM g ad sg ++ X) H → va_S (dd_A 9 ad X s.heap.size) s.heap H locs → lv_has ls 5 [(0, .ref (ad 0))] → W p l e (headSpec (lw_ws yX6_addTrip cX6_addTrip 5 (some .int)) ({ frames := 2, cells := 0, slots := 0, locals := 42 } : Room)).room s m ([.ref (ad 0), .int a1, .int a2, .int a3, .int a4] : List Value).toArray below meth c H locs 0 0 (MQ below (QI g (WM g ad s0 ++ X) (dd_A 9 ad X s.heap.size) r0) ([.ref (ad 0), .int a1, .int a2, .int a3, .int a4] : List Value).toArray s 0 0 (dd_A 9 ad X s.heap.size)) (F0 m 19 ls []) := by
    intro sg H locs ls hf hP hS hl
    unfold f_X6_addTrip_19 at hf
    refine lv_aload_n hx hb dX6_addTrip_19 rfl (lv_at hl 0 rfl) ?_
    refine lv_iconst (v := (1 : Int32)) hx hb dX6_addTrip_20 (by decide) ?_
    obtain ⟨r32, sg31, q30, hf⟩ := bd2_so hf
    refine cl_i (va_runV (As := [.int (1 : Int32)]) (rest := []) ⟨hx, hb, hml, hown, hts⟩ (c_X6_no l g ad X _ sg (1 : Int32) r32 sg31 q30) (cwV 1 hts gl_X6_64 rfl rfl rfl yd_X6_no ⟨Nat.le_of_ble_eq_true rfl, Nat.le_of_ble_eq_true rfl⟩) (preV_of hK hP (hD sg) (dd_at (by decide) cm_0) rfl) rfl rfl hl.1 rfl (lv_room (Nat.le_of_ble_eq_true rfl)) dX6_addTrip_21 ⟨Nat.le_of_ble_eq_true rfl, Nat.le_of_ble_eq_true rfl⟩) hS (fun q h => dd_A_mono hS.1 h) (fun q h => dd_A_mono hS.1 h) (fun H locs hP hS => ?_)
    exact W.iret (v := r32) hx hb hr (fun t ht hW => ⟨⟨r32, (), rfl, (so2 hf).1, P_at2 (so2 hf).2 ht hP⟩, hS.F ht⟩) hS.2.2 dX6_addTrip_24
  have hL_55 : ∀ (sg : dd_S) (H : Heap) (locs : List Loc) (ls : Array Slot), f_X6_addTrip_55 a1 a2 a3 a4 sg = some (r0, s0) → va_P g.1 vwCl (WM g ad sg ++ X) H → va_S (dd_A 9 ad X s.heap.size) s.heap H locs → lv_has ls 5 [(0, .ref (ad 0))] → W p l e (headSpec (lw_ws yX6_addTrip cX6_addTrip 5 (some .int)) ({ frames := 2, cells := 0, slots := 0, locals := 42 } : Room)).room s m ([.ref (ad 0), .int a1, .int a2, .int a3, .int a4] : List Value).toArray below meth c H locs 0 0 (MQ below (QI g (WM g ad s0 ++ X) (dd_A 9 ad X s.heap.size) r0) ([.ref (ad 0), .int a1, .int a2, .int a3, .int a4] : List Value).toArray s 0 0 (dd_A 9 ad X s.heap.size)) (F0 m 55 ls []) := by
    intro sg H locs ls hf hP hS hl
    unfold f_X6_addTrip_55 at hf
    refine lv_aload_n hx hb dX6_addTrip_55 rfl (lv_at hl 0 rfl) ?_
    refine lv_iconst (v := (2 : Int32)) hx hb dX6_addTrip_56 (by decide) ?_
    obtain ⟨r35, sg34, q33, hf⟩ := bd2_so hf
    refine cl_i (va_runV (As := [.int (2 : Int32)]) (rest := []) ⟨hx, hb, hml, hown, hts⟩ (c_X6_no l g ad X _ sg (2 : Int32) r35 sg34 q33) (cwV 1 hts gl_X6_64 rfl rfl rfl yd_X6_no ⟨Nat.le_of_ble_eq_true rfl, Nat.le_of_ble_eq_true rfl⟩) (preV_of hK hP (hD sg) (dd_at (by decide) cm_0) rfl) rfl rfl hl.1 rfl (lv_room (Nat.le_of_ble_eq_true rfl)) dX6_addTrip_57 ⟨Nat.le_of_ble_eq_true rfl, Nat.le_of_ble_eq_true rfl⟩) hS (fun q h => dd_A_mono hS.1 h) (fun q h => dd_A_mono hS.1 h) (fun H locs hP hS => ?_)
    exact W.iret (v := r35) hx hb hr (fun t ht hW => ⟨⟨r35, (), rfl, (so2 hf).1, P_at2 (so2 hf).2 ht hP⟩, hS.F ht⟩) hS.2.2 dX6_addTrip_60
  unfold f_X6_addTrip at hf
  have hl := lv_entry ([.ref (ad 0), .int a1, .int a2, .int a3, .int a4]) (n := 5) (Nat.le_of_ble_eq_true rfl)
  rw [lg_entry_eq]
  generalize (lg_sl ([.ref (ad 0), .int a1, .int a2, .int a3, .int a4]) ++ List.replicate (5 - (lg_sl ([.ref (ad 0), .int a1, .int a2, .int a3, .int a4])).length) Slot.unset).toArray = ls at hl ⊢
  have hl : lv_has ls 5 [(0, .ref (ad 0)), (1, .int a1), (2, .int a2), (3, .int a3), (4, .int a4)] := hl
  refine lv_aload_n hx hb dX6_addTrip_0 rfl (lv_at hl 0 rfl) ?_
  refine lv_iconst (v := (0 : Int32)) hx hb dX6_addTrip_1 (by decide) ?_
  obtain ⟨sg1, esg1, hf⟩ := lt_ex hf
  refine pf_X6_47 hx hb hts hown hK hP hD hS dX6_addTrip_2 (fun H locs hP hS => ?_)
  rw [← esg1] at hP
  refine lv_iload_n hx hb dX6_addTrip_5 rfl (lv_at hl 1 rfl) ?_
  obtain ⟨r3, q2, hf⟩ := bd_so hf
  refine cl_i (va_runS (As := [.int a1]) (rest := []) ⟨hx, hb, hml, hown, hts⟩ (c_X6_isPoint l g ad X _ sg1 a1 r3 q2) (cwS 1 hts gl_X6_60 rfl rfl rfl yd_X6_isPoint ⟨Nat.le_of_ble_eq_true rfl, Nat.le_of_ble_eq_true rfl⟩) (preS_of hK hP (hD sg1)) rfl rfl hl.1 rfl (lv_room (Nat.le_of_ble_eq_true rfl)) dX6_addTrip_6 ⟨Nat.le_of_ble_eq_true rfl, Nat.le_of_ble_eq_true rfl⟩) hS (fun q h => dd_A_mono hS.1 h) (fun q h => dd_A_mono hS.1 h) (fun H locs hP hS => ?_)
  refine lv_if_eq (tgt := 19) hx hb dX6_addTrip_9 (by decide) (fun c4 => ?_) (fun c4 => ?_)
  · have hf := if_t c4 hf
    exact hL_19 sg1 _ _ _ hf hP hS (lv_sub hl [0] rfl)
  · have hf := if_f c4 hf
    refine lv_iload_n hx hb dX6_addTrip_12 rfl (lv_at hl 2 rfl) ?_
    obtain ⟨r6, q5, hf⟩ := bd_so hf
    refine cl_i (va_runS (As := [.int a2]) (rest := []) ⟨hx, hb, hml, hown, hts⟩ (c_X6_isPoint l g ad X _ sg1 a2 r6 q5) (cwS 1 hts gl_X6_60 rfl rfl rfl yd_X6_isPoint ⟨Nat.le_of_ble_eq_true rfl, Nat.le_of_ble_eq_true rfl⟩) (preS_of hK hP (hD sg1)) rfl rfl hl.1 rfl (lv_room (Nat.le_of_ble_eq_true rfl)) dX6_addTrip_13 ⟨Nat.le_of_ble_eq_true rfl, Nat.le_of_ble_eq_true rfl⟩) hS (fun q h => dd_A_mono hS.1 h) (fun q h => dd_A_mono hS.1 h) (fun H locs hP hS => ?_)
    refine lv_if_ne (tgt := 25) hx hb dX6_addTrip_16 (by decide) (fun c7 => ?_) (fun c7 => ?_)
    · have hf := if_f c7 hf
      refine lv_iload_n hx hb dX6_addTrip_25 rfl (lv_at hl 3 rfl) ?_
      refine lv_if_lt (tgt := 55) hx hb dX6_addTrip_26 (by decide) (fun c8 => ?_) (fun c8 => ?_)
      · have hf := if_t c8 hf
        exact hL_55 sg1 _ _ _ hf hP hS (lv_sub hl [0] rfl)
      · have hf := if_f c8 hf
        refine lv_iload hx hb dX6_addTrip_29 (lv_at hl 4 rfl) ?_
        refine lv_iconst (v := (0 : Int32)) hx hb dX6_addTrip_31 (by decide) ?_
        refine lv_sipush (v := (1799 : Int32)) hx hb dX6_addTrip_32 (by decide) ?_
        obtain ⟨r10, q9, hf⟩ := bd_so hf
        refine cl_i (va_runS (As := [.int a4, .int (0 : Int32), .int (1799 : Int32)]) (rest := []) ⟨hx, hb, hml, hown, hts⟩ (c_X6_isIn l g ad X _ sg1 a4 (0 : Int32) (1799 : Int32) r10 q9) (cwS 3 hts gl_X6_53 rfl rfl rfl yd_X6_isIn ⟨Nat.le_of_ble_eq_true rfl, Nat.le_of_ble_eq_true rfl⟩) (preS_of hK hP (hD sg1)) rfl rfl hl.1 rfl (lv_room (Nat.le_of_ble_eq_true rfl)) dX6_addTrip_35 ⟨Nat.le_of_ble_eq_true rfl, Nat.le_of_ble_eq_true rfl⟩) hS (fun q h => dd_A_mono hS.1 h) (fun q h => dd_A_mono hS.1 h) (fun H locs hP hS => ?_)
        refine lv_if_eq (tgt := 55) hx hb dX6_addTrip_38 (by decide) (fun c11 => ?_) (fun c11 => ?_)
        · have hf := if_t c11 hf
          exact hL_55 sg1 _ _ _ hf hP hS (lv_sub hl [0] rfl)
        · have hf := if_f c11 hf
          refine lv_iload hx hb dX6_addTrip_41 (lv_at hl 4 rfl) ?_
          refine lv_iload_n hx hb dX6_addTrip_43 rfl (lv_at hl 3 rfl) ?_
          refine lv_isub hx hb dX6_addTrip_44 ?_
          refine lv_iconst (v := (1 : Int32)) hx hb dX6_addTrip_45 (by decide) ?_
          refine lv_sipush (v := (240 : Int32)) hx hb dX6_addTrip_46 (by decide) ?_
          obtain ⟨r13, q12, hf⟩ := bd_so hf
          refine cl_i (va_runS (As := [.int (a4 - a3), .int (1 : Int32), .int (240 : Int32)]) (rest := []) ⟨hx, hb, hml, hown, hts⟩ (c_X6_isIn l g ad X _ sg1 (a4 - a3) (1 : Int32) (240 : Int32) r13 q12) (cwS 3 hts gl_X6_53 rfl rfl rfl yd_X6_isIn ⟨Nat.le_of_ble_eq_true rfl, Nat.le_of_ble_eq_true rfl⟩) (preS_of hK hP (hD sg1)) rfl rfl hl.1 rfl (lv_room (Nat.le_of_ble_eq_true rfl)) dX6_addTrip_49 ⟨Nat.le_of_ble_eq_true rfl, Nat.le_of_ble_eq_true rfl⟩) hS (fun q h => dd_A_mono hS.1 h) (fun q h => dd_A_mono hS.1 h) (fun H locs hP hS => ?_)
          refine lv_if_ne (tgt := 61) hx hb dX6_addTrip_52 (by decide) (fun c14 => ?_) (fun c14 => ?_)
          · have hf := if_f c14 hf
            refine lv_aload_n hx hb dX6_addTrip_61 rfl (lv_at hl 0 rfl) ?_
            refine gf_X6_50 hx hb hts hown hK hP dX6_addTrip_62 ?_
            refine lv_bipush (v := (40 : Int32)) hx hb dX6_addTrip_65 (by decide) ?_
            refine lv_icmp_ne (tgt := 76) hx hb dX6_addTrip_67 (by decide) (fun c15 => ?_) (fun c15 => ?_)
            · have hf := if_f c15 hf
              refine lv_aload_n hx hb dX6_addTrip_76 rfl (lv_at hl 0 rfl) ?_
              refine gf_X6_13 hx hb hts hown hK hP dX6_addTrip_77 ?_
              refine lv_aload_n hx hb dX6_addTrip_80 rfl (lv_at hl 0 rfl) ?_
              refine gf_X6_50 hx hb hts hown hK hP dX6_addTrip_81 ?_
              refine lv_iload_n hx hb dX6_addTrip_84 rfl (lv_at hl 1 rfl) ?_
              obtain ⟨hi16, hf⟩ := gd_so hf
              obtain ⟨sg17, esg17, hf⟩ := lt_ex hf
              refine W_iast hx hb hK hP hD hS 2 (by decide) (fun _ => cm_2) (ix_in hi16) dX6_addTrip_85 (fun H locs hP hS => ?_)
              rw [← esg17] at hP
              refine lv_aload_n hx hb dX6_addTrip_86 rfl (lv_at hl 0 rfl) ?_
              refine gf_X6_16 hx hb hts hown hK hP dX6_addTrip_87 ?_
              refine lv_aload_n hx hb dX6_addTrip_90 rfl (lv_at hl 0 rfl) ?_
              refine gf_X6_50 hx hb hts hown hK hP dX6_addTrip_91 ?_
              refine lv_iload_n hx hb dX6_addTrip_94 rfl (lv_at hl 2 rfl) ?_
              obtain ⟨hi18, hf⟩ := gd_so hf
              obtain ⟨sg19, esg19, hf⟩ := lt_ex hf
              refine W_iast hx hb hK hP hD hS 3 (by decide) (fun _ => cm_3) (ix_in hi18) dX6_addTrip_95 (fun H locs hP hS => ?_)
              rw [← esg19] at hP
              refine lv_aload_n hx hb dX6_addTrip_96 rfl (lv_at hl 0 rfl) ?_
              refine gf_X6_19 hx hb hts hown hK hP dX6_addTrip_97 ?_
              refine lv_aload_n hx hb dX6_addTrip_100 rfl (lv_at hl 0 rfl) ?_
              refine gf_X6_50 hx hb hts hown hK hP dX6_addTrip_101 ?_
              refine lv_iload_n hx hb dX6_addTrip_104 rfl (lv_at hl 3 rfl) ?_
              obtain ⟨hi20, hf⟩ := gd_so hf
              obtain ⟨sg21, esg21, hf⟩ := lt_ex hf
              refine W_iast hx hb hK hP hD hS 4 (by decide) (fun _ => cm_4) (ix_in hi20) dX6_addTrip_105 (fun H locs hP hS => ?_)
              rw [← esg21] at hP
              refine lv_aload_n hx hb dX6_addTrip_106 rfl (lv_at hl 0 rfl) ?_
              refine gf_X6_22 hx hb hts hown hK hP dX6_addTrip_107 ?_
              refine lv_aload_n hx hb dX6_addTrip_110 rfl (lv_at hl 0 rfl) ?_
              refine gf_X6_50 hx hb hts hown hK hP dX6_addTrip_111 ?_
              refine lv_iload hx hb dX6_addTrip_114 (lv_at hl 4 rfl) ?_
              obtain ⟨hi22, hf⟩ := gd_so hf
              obtain ⟨sg23, esg23, hf⟩ := lt_ex hf
              refine W_iast hx hb hK hP hD hS 5 (by decide) (fun _ => cm_5) (ix_in hi22) dX6_addTrip_116 (fun H locs hP hS => ?_)
              rw [← esg23] at hP
              refine lv_aload_n hx hb dX6_addTrip_117 rfl (lv_at hl 0 rfl) ?_
              refine gf_X6_25 hx hb hts hown hK hP dX6_addTrip_118 ?_
              refine lv_aload_n hx hb dX6_addTrip_121 rfl (lv_at hl 0 rfl) ?_
              refine gf_X6_50 hx hb hts hown hK hP dX6_addTrip_122 ?_
              refine lv_iconst (v := (-1 : Int32)) hx hb dX6_addTrip_125 (by decide) ?_
              obtain ⟨hi24, hf⟩ := gd_so hf
              obtain ⟨sg25, esg25, hf⟩ := lt_ex hf
              refine W_iast hx hb hK hP hD hS 6 (by decide) (fun _ => cm_6) (ix_in hi24) dX6_addTrip_126 (fun H locs hP hS => ?_)
              rw [← esg25] at hP
              refine lv_aload_n hx hb dX6_addTrip_127 rfl (lv_at hl 0 rfl) ?_
              refine lv_dup hx hb dX6_addTrip_128 rfl ?_
              refine gf_X6_50 hx hb hts hown hK hP dX6_addTrip_129 ?_
              refine lv_iconst (v := (1 : Int32)) hx hb dX6_addTrip_132 (by decide) ?_
              refine lv_iadd hx hb dX6_addTrip_133 ?_
              obtain ⟨sg26, esg26, hf⟩ := lt_ex hf
              refine pf_X6_50 hx hb hts hown hK hP hD hS dX6_addTrip_134 (fun H locs hP hS => ?_)
              rw [← esg26] at hP
              refine lv_aload_n hx hb dX6_addTrip_137 rfl (lv_at hl 0 rfl) ?_
              refine gf_X6_50 hx hb hts hown hK hP dX6_addTrip_138 ?_
              refine lv_iconst (v := (1 : Int32)) hx hb dX6_addTrip_141 (by decide) ?_
              refine lv_isub hx hb dX6_addTrip_142 ?_
              exact W.iret (v := ((sg26 0 2) - (1 : Int32))) hx hb hr (fun t ht hW => ⟨⟨((sg26 0 2) - (1 : Int32)), (), rfl, (so2 hf).1, P_at2 (so2 hf).2 ht hP⟩, hS.F ht⟩) hS.2.2 dX6_addTrip_143
            · have hf := if_t c15 hf
              refine lv_aload_n hx hb dX6_addTrip_70 rfl (lv_at hl 0 rfl) ?_
              refine lv_iconst (v := (3 : Int32)) hx hb dX6_addTrip_71 (by decide) ?_
              obtain ⟨r29, sg28, q27, hf⟩ := bd2_so hf
              refine cl_i (va_runV (As := [.int (3 : Int32)]) (rest := []) ⟨hx, hb, hml, hown, hts⟩ (c_X6_no l g ad X _ sg1 (3 : Int32) r29 sg28 q27) (cwV 1 hts gl_X6_64 rfl rfl rfl yd_X6_no ⟨Nat.le_of_ble_eq_true rfl, Nat.le_of_ble_eq_true rfl⟩) (preV_of hK hP (hD sg1) (dd_at (by decide) cm_0) rfl) rfl rfl hl.1 rfl (lv_room (Nat.le_of_ble_eq_true rfl)) dX6_addTrip_72 ⟨Nat.le_of_ble_eq_true rfl, Nat.le_of_ble_eq_true rfl⟩) hS (fun q h => dd_A_mono hS.1 h) (fun q h => dd_A_mono hS.1 h) (fun H locs hP hS => ?_)
              exact W.iret (v := r29) hx hb hr (fun t ht hW => ⟨⟨r29, (), rfl, (so2 hf).1, P_at2 (so2 hf).2 ht hP⟩, hS.F ht⟩) hS.2.2 dX6_addTrip_75
          · have hf := if_t c14 hf
            exact hL_55 sg1 _ _ _ hf hP hS (lv_sub hl [0] rfl)
    · have hf := if_t c7 hf
      exact hL_19 sg1 _ _ _ hf hP hS (lv_sub hl [0] rfl)
set_option maxHeartbeats 4000000 in
set_option maxRecDepth 100000 in
theorem c_X6_trip (l : Launch) (g : dd_G) (ad : Nat → Nat) (X : va_W) (sz : Nat) (sg : dd_S) (a1 : Int32) (a2 : Int32) (r0 : Int32) (s0 : dd_S) (hf : f_X6_trip sg a1 a2 = some (r0, s0)) : Met l yX6_trip (lw_ws yX6_trip cX6_trip 3 (some .int)) ({ frames := 2, cells := 0, slots := 0, locals := 43 } : Room) (va_Pc [.ref (ad 0), .int a1, .int a2] (PreW g (WM g ad sg ++ X) sz)) (QI g (WM g ad s0 ++ X) (dd_A 9 ad X sz) r0) 0 0 (dd_A 9 ad X sz) := by
  refine Met.ofW (cc := cX6_trip) (maxL := 3) (ret := some .int) (by decide) rfl ?_
  intro p e s m args below meth c s₁ B hml hv
  obtain ⟨rfl, rfl, hP, hK, hD0⟩ := hv
  have hx := B.exec
  have hb := B.bytes
  have hr := B.returns
  have hts := atoms_spec (ws := (lw_ws yX6_trip cX6_trip 3 (some .int))) B.pre
  have hts : ∀ w ∈ lw_all, w.before _ s = true := fun w h => hts w (List.mem_cons_of_mem _ h)
  have hown : s.vm.findClass RX6 = some m.cls := findClass_of_methodNamed B.named
  have hlocks := B.notSynchronized
  have hD : ∀ s2 : dd_S, va_D (dd_A 9 ad X s.heap.size) (WM g ad s2 ++ X) := fun s2 => dd_D (dd_A_D hD0)
  have hS : va_S (dd_A 9 ad X s.heap.size) s.heap s.heap [] := va_S.rf
  have hL_22 : ∀ (sg : dd_S) (H : Heap) (locs : List Loc) (ls : Array Slot), f_X6_trip_22 a1 a2 sg = some (r0, s0) → va_P g.1 vwCl (WM g ad sg ++ X) H → va_S (dd_A 9 ad X s.heap.size) s.heap H locs → lv_has ls 3 [(0, .ref (ad 0))] → W p l e (headSpec (lw_ws yX6_trip cX6_trip 3 (some .int)) ({ frames := 2, cells := 0, slots := 0, locals := 43 } : Room)).room s m ([.ref (ad 0), .int a1, .int a2] : List Value).toArray below meth c H locs 0 0 (MQ below (QI g (WM g ad s0 ++ X) (dd_A 9 ad X s.heap.size) r0) ([.ref (ad 0), .int a1, .int a2] : List Value).toArray s 0 0 (dd_A 9 ad X s.heap.size)) (F0 m 22 ls []) := by
    intro sg H locs ls hf hP hS hl
    unfold f_X6_trip_22 at hf
    refine lv_aload_n hx hb dX6_trip_22 rfl (lv_at hl 0 rfl) ?_
    refine lv_iconst (v := (1 : Int32)) hx hb dX6_trip_23 (by decide) ?_
    obtain ⟨r19, sg18, q17, hf⟩ := bd2_so hf
    refine cl_i (va_runV (As := [.int (1 : Int32)]) (rest := []) ⟨hx, hb, hml, hown, hts⟩ (c_X6_no l g ad X _ sg (1 : Int32) r19 sg18 q17) (cwV 1 hts gl_X6_64 rfl rfl rfl yd_X6_no ⟨Nat.le_of_ble_eq_true rfl, Nat.le_of_ble_eq_true rfl⟩) (preV_of hK hP (hD sg) (dd_at (by decide) cm_0) rfl) rfl rfl hl.1 rfl (lv_room (Nat.le_of_ble_eq_true rfl)) dX6_trip_24 ⟨Nat.le_of_ble_eq_true rfl, Nat.le_of_ble_eq_true rfl⟩) hS (fun q h => dd_A_mono hS.1 h) (fun q h => dd_A_mono hS.1 h) (fun H locs hP hS => ?_)
    exact W.iret (v := r19) hx hb hr (fun t ht hW => ⟨⟨r19, (), rfl, (so2 hf).1, P_at2 (so2 hf).2 ht hP⟩, hS.F ht⟩) hS.2.2 dX6_trip_27
  have hL_89 : ∀ (sg : dd_S) (t0 : Int32) (H : Heap) (locs : List Loc) (ls : Array Slot), f_X6_trip_89 a1 a2 sg t0 = some (r0, s0) → va_P g.1 vwCl (WM g ad sg ++ X) H → va_S (dd_A 9 ad X s.heap.size) s.heap H locs → lv_has ls 3 [] → W p l e (headSpec (lw_ws yX6_trip cX6_trip 3 (some .int)) ({ frames := 2, cells := 0, slots := 0, locals := 43 } : Room)).room s m ([.ref (ad 0), .int a1, .int a2] : List Value).toArray below meth c H locs 0 0 (MQ below (QI g (WM g ad s0 ++ X) (dd_A 9 ad X s.heap.size) r0) ([.ref (ad 0), .int a1, .int a2] : List Value).toArray s 0 0 (dd_A 9 ad X s.heap.size)) (F0 m 89 ls [.int t0]) := by
    intro sg t0 H locs ls hf hP hS hl
    unfold f_X6_trip_89 at hf
    exact W.iret (v := t0) hx hb hr (fun t ht hW => ⟨⟨t0, (), rfl, (so2 hf).1, P_at2 (so2 hf).2 ht hP⟩, hS.F ht⟩) hS.2.2 dX6_trip_89
  unfold f_X6_trip at hf
  have hl := lv_entry ([.ref (ad 0), .int a1, .int a2]) (n := 3) (Nat.le_of_ble_eq_true rfl)
  rw [lg_entry_eq]
  generalize (lg_sl ([.ref (ad 0), .int a1, .int a2]) ++ List.replicate (3 - (lg_sl ([.ref (ad 0), .int a1, .int a2])).length) Slot.unset).toArray = ls at hl ⊢
  have hl : lv_has ls 3 [(0, .ref (ad 0)), (1, .int a1), (2, .int a2)] := hl
  refine lv_aload_n hx hb dX6_trip_0 rfl (lv_at hl 0 rfl) ?_
  refine lv_iconst (v := (0 : Int32)) hx hb dX6_trip_1 (by decide) ?_
  obtain ⟨sg1, esg1, hf⟩ := lt_ex hf
  refine pf_X6_47 hx hb hts hown hK hP hD hS dX6_trip_2 (fun H locs hP hS => ?_)
  rw [← esg1] at hP
  refine lv_aload_n hx hb dX6_trip_5 rfl (lv_at hl 0 rfl) ?_
  refine lv_iload_n hx hb dX6_trip_6 rfl (lv_at hl 1 rfl) ?_
  obtain ⟨r3, q2, hf⟩ := bd_so hf
  refine cl_i (va_runV (As := [.int a1]) (rest := []) ⟨hx, hb, hml, hown, hts⟩ (c_X6_isTrip l g ad X _ sg1 a1 r3 q2) (cwV 1 hts gl_X6_68 rfl rfl rfl yd_X6_isTrip ⟨Nat.le_of_ble_eq_true rfl, Nat.le_of_ble_eq_true rfl⟩) (preV_of hK hP (hD sg1) (dd_at (by decide) cm_0) rfl) rfl rfl hl.1 rfl (lv_room (Nat.le_of_ble_eq_true rfl)) dX6_trip_7 ⟨Nat.le_of_ble_eq_true rfl, Nat.le_of_ble_eq_true rfl⟩) hS (fun q h => dd_A_mono hS.1 h) (fun q h => dd_A_mono hS.1 h) (fun H locs hP hS => ?_)
  refine lv_if_eq (tgt := 22) hx hb dX6_trip_10 (by decide) (fun c4 => ?_) (fun c4 => ?_)
  · have hf := if_t c4 hf
    exact hL_22 sg1 _ _ _ hf hP hS (lv_sub hl [0] rfl)
  · have hf := if_f c4 hf
    refine lv_iload_n hx hb dX6_trip_13 rfl (lv_at hl 2 rfl) ?_
    refine lv_iconst (v := (0 : Int32)) hx hb dX6_trip_14 (by decide) ?_
    refine lv_iconst (v := (4 : Int32)) hx hb dX6_trip_15 (by decide) ?_
    obtain ⟨r6, q5, hf⟩ := bd_so hf
    refine cl_i (va_runS (As := [.int a2, .int (0 : Int32), .int (4 : Int32)]) (rest := []) ⟨hx, hb, hml, hown, hts⟩ (c_X6_isIn l g ad X _ sg1 a2 (0 : Int32) (4 : Int32) r6 q5) (cwS 3 hts gl_X6_53 rfl rfl rfl yd_X6_isIn ⟨Nat.le_of_ble_eq_true rfl, Nat.le_of_ble_eq_true rfl⟩) (preS_of hK hP (hD sg1)) rfl rfl hl.1 rfl (lv_room (Nat.le_of_ble_eq_true rfl)) dX6_trip_16 ⟨Nat.le_of_ble_eq_true rfl, Nat.le_of_ble_eq_true rfl⟩) hS (fun q h => dd_A_mono hS.1 h) (fun q h => dd_A_mono hS.1 h) (fun H locs hP hS => ?_)
    refine lv_if_ne (tgt := 28) hx hb dX6_trip_19 (by decide) (fun c7 => ?_) (fun c7 => ?_)
    · have hf := if_f c7 hf
      refine lv_iload_n hx hb dX6_trip_28 rfl (lv_at hl 2 rfl) ?_
      refine lv_if_ne (tgt := 41) hx hb dX6_trip_29 (by decide) (fun c8 => ?_) (fun c8 => ?_)
      · have hf := if_f c8 hf
        refine lv_iload_n hx hb dX6_trip_41 rfl (lv_at hl 2 rfl) ?_
        refine lv_iconst (v := (1 : Int32)) hx hb dX6_trip_42 (by decide) ?_
        refine lv_icmp_ne (tgt := 55) hx hb dX6_trip_43 (by decide) (fun c9 => ?_) (fun c9 => ?_)
        · have hf := if_f c9 hf
          refine lv_iload_n hx hb dX6_trip_55 rfl (lv_at hl 2 rfl) ?_
          refine lv_iconst (v := (2 : Int32)) hx hb dX6_trip_56 (by decide) ?_
          refine lv_icmp_ne (tgt := 69) hx hb dX6_trip_57 (by decide) (fun c10 => ?_) (fun c10 => ?_)
          · have hf := if_f c10 hf
            refine lv_iload_n hx hb dX6_trip_69 rfl (lv_at hl 2 rfl) ?_
            refine lv_iconst (v := (3 : Int32)) hx hb dX6_trip_70 (by decide) ?_
            refine lv_icmp_ne (tgt := 83) hx hb dX6_trip_71 (by decide) (fun c11 => ?_) (fun c11 => ?_)
            · have hf := if_f c11 hf
              refine lv_aload_n hx hb dX6_trip_83 rfl (lv_at hl 0 rfl) ?_
              refine gf_X6_25 hx hb hts hown hK hP dX6_trip_84 ?_
              refine lv_iload_n hx hb dX6_trip_87 rfl (lv_at hl 1 rfl) ?_
              obtain ⟨hi12, hf⟩ := gd_so hf
              refine W_iald hx hb hK hP 6 (by decide) cm_6 (ix_in hi12) dX6_trip_88 ?_
              exact hL_89 sg1 (sg1 6 a1.toNatClampNeg) _ _ _ hf hP hS (lv_sub hl [] rfl)
            · have hf := if_t c11 hf
              refine lv_aload_n hx hb dX6_trip_74 rfl (lv_at hl 0 rfl) ?_
              refine gf_X6_22 hx hb hts hown hK hP dX6_trip_75 ?_
              refine lv_iload_n hx hb dX6_trip_78 rfl (lv_at hl 1 rfl) ?_
              obtain ⟨hi13, hf⟩ := gd_so hf
              refine W_iald hx hb hK hP 5 (by decide) cm_5 (ix_in hi13) dX6_trip_79 ?_
              refine lv_goto (tgt := 89) hx hb dX6_trip_80 (by decide) ?_
              exact hL_89 sg1 (sg1 5 a1.toNatClampNeg) _ _ _ hf hP hS (lv_sub hl [] rfl)
          · have hf := if_t c10 hf
            refine lv_aload_n hx hb dX6_trip_60 rfl (lv_at hl 0 rfl) ?_
            refine gf_X6_19 hx hb hts hown hK hP dX6_trip_61 ?_
            refine lv_iload_n hx hb dX6_trip_64 rfl (lv_at hl 1 rfl) ?_
            obtain ⟨hi14, hf⟩ := gd_so hf
            refine W_iald hx hb hK hP 4 (by decide) cm_4 (ix_in hi14) dX6_trip_65 ?_
            refine lv_goto (tgt := 89) hx hb dX6_trip_66 (by decide) ?_
            exact hL_89 sg1 (sg1 4 a1.toNatClampNeg) _ _ _ hf hP hS (lv_sub hl [] rfl)
        · have hf := if_t c9 hf
          refine lv_aload_n hx hb dX6_trip_46 rfl (lv_at hl 0 rfl) ?_
          refine gf_X6_16 hx hb hts hown hK hP dX6_trip_47 ?_
          refine lv_iload_n hx hb dX6_trip_50 rfl (lv_at hl 1 rfl) ?_
          obtain ⟨hi15, hf⟩ := gd_so hf
          refine W_iald hx hb hK hP 3 (by decide) cm_3 (ix_in hi15) dX6_trip_51 ?_
          refine lv_goto (tgt := 89) hx hb dX6_trip_52 (by decide) ?_
          exact hL_89 sg1 (sg1 3 a1.toNatClampNeg) _ _ _ hf hP hS (lv_sub hl [] rfl)
      · have hf := if_t c8 hf
        refine lv_aload_n hx hb dX6_trip_32 rfl (lv_at hl 0 rfl) ?_
        refine gf_X6_13 hx hb hts hown hK hP dX6_trip_33 ?_
        refine lv_iload_n hx hb dX6_trip_36 rfl (lv_at hl 1 rfl) ?_
        obtain ⟨hi16, hf⟩ := gd_so hf
        refine W_iald hx hb hK hP 2 (by decide) cm_2 (ix_in hi16) dX6_trip_37 ?_
        refine lv_goto (tgt := 89) hx hb dX6_trip_38 (by decide) ?_
        exact hL_89 sg1 (sg1 2 a1.toNatClampNeg) _ _ _ hf hP hS (lv_sub hl [] rfl)
    · have hf := if_t c7 hf
      exact hL_22 sg1 _ _ _ hf hP hS (lv_sub hl [0] rfl)
set_option maxHeartbeats 4000000 in
set_option maxRecDepth 100000 in
theorem c_X6_way (l : Launch) (g : dd_G) (ad : Nat → Nat) (X : va_W) (sz : Nat) (sg : dd_S) (a1 : Int32) (a2 : Int32) (r0 : Int32) (hf : f_X6_way sg a1 a2 = some (r0)) : Met l yX6_way (lw_ws yX6_way cX6_way 3 (some .int)) ({ frames := 0, cells := 0, slots := 0, locals := 0 } : Room) (va_Pc [.ref (ad 0), .int a1, .int a2] (PreW g (WM g ad sg ++ X) sz)) (QI g (WM g ad sg ++ X) (dd_A 9 ad X sz) r0) 0 0 (dd_A 9 ad X sz) := by
  refine Met.ofW (cc := cX6_way) (maxL := 3) (ret := some .int) (by decide) rfl ?_
  intro p e s m args below meth c s₁ B hml hv
  obtain ⟨rfl, rfl, hP, hK, hD0⟩ := hv
  have hx := B.exec
  have hb := B.bytes
  have hr := B.returns
  have hts := atoms_spec (ws := (lw_ws yX6_way cX6_way 3 (some .int))) B.pre
  have hts : ∀ w ∈ lw_all, w.before _ s = true := fun w h => hts w (List.mem_cons_of_mem _ h)
  have hown : s.vm.findClass RX6 = some m.cls := findClass_of_methodNamed B.named
  have hlocks := B.notSynchronized
  have hD : ∀ s2 : dd_S, va_D (dd_A 9 ad X s.heap.size) (WM g ad s2 ++ X) := fun s2 => dd_D (dd_A_D hD0)
  have hS : va_S (dd_A 9 ad X s.heap.size) s.heap s.heap [] := va_S.rf
  unfold f_X6_way at hf
  have hl := lv_entry ([.ref (ad 0), .int a1, .int a2]) (n := 3) (Nat.le_of_ble_eq_true rfl)
  rw [lg_entry_eq]
  generalize (lg_sl ([.ref (ad 0), .int a1, .int a2]) ++ List.replicate (3 - (lg_sl ([.ref (ad 0), .int a1, .int a2])).length) Slot.unset).toArray = ls at hl ⊢
  have hl : lv_has ls 3 [(0, .ref (ad 0)), (1, .int a1), (2, .int a2)] := hl
  refine lv_aload_n hx hb dX6_way_0 rfl (lv_at hl 0 rfl) ?_
  refine gf_X6_9 hx hb hts hown hK hP dX6_way_1 ?_
  refine lv_bipush (v := (6 : Int32)) hx hb dX6_way_4 (by decide) ?_
  refine lv_iload_n hx hb dX6_way_6 rfl (lv_at hl 1 rfl) ?_
  refine lv_imul hx hb dX6_way_7 ?_
  refine lv_iload_n hx hb dX6_way_8 rfl (lv_at hl 2 rfl) ?_
  refine lv_iadd hx hb dX6_way_9 ?_
  obtain ⟨hi1, hf⟩ := gd_so hf
  refine W_iald hx hb hK hP 1 (by decide) cm_1 (ix_in hi1) dX6_way_10 ?_
  exact W.iret (v := (sg 1 (((6 : Int32) * a1) + a2).toNatClampNeg)) hx hb hr (fun t ht hW => ⟨⟨(sg 1 (((6 : Int32) * a1) + a2).toNatClampNeg), (), rfl, so1 hf, P_at ht hP⟩, hS.F ht⟩) hS.2.2 dX6_way_11
set_option maxHeartbeats 4000000 in
set_option maxRecDepth 100000 in
theorem c_X6_sort (l : Launch) (g : dd_G) (ad : Nat → Nat) (X : va_W) (sz : Nat) (sg : dd_S) (a1 : Int32) (s0 : dd_S) (hf : f_X6_sort sg a1 = some (s0)) : Met l yX6_sort (lw_ws yX6_sort cX6_sort 4 (none)) ({ frames := 0, cells := 0, slots := 0, locals := 0 } : Room) (va_Pc [.ref (ad 0), .int a1] (PreW g (WM g ad sg ++ X) sz)) (QV g (WM g ad s0 ++ X) (dd_A 9 ad X sz)) 0 0 (dd_A 9 ad X sz) := by
  refine Met.ofW (cc := cX6_sort) (maxL := 4) (ret := none) (by decide) rfl ?_
  intro p e s m args below meth c s₁ B hml hv
  obtain ⟨rfl, rfl, hP, hK, hD0⟩ := hv
  have hx := B.exec
  have hb := B.bytes
  have hr := B.returns
  have hts := atoms_spec (ws := (lw_ws yX6_sort cX6_sort 4 (none))) B.pre
  have hts : ∀ w ∈ lw_all, w.before _ s = true := fun w h => hts w (List.mem_cons_of_mem _ h)
  have hown : s.vm.findClass RX6 = some m.cls := findClass_of_methodNamed B.named
  have hlocks := B.notSynchronized
  have hD : ∀ s2 : dd_S, va_D (dd_A 9 ad X s.heap.size) (WM g ad s2 ++ X) := fun s2 => dd_D (dd_A_D hD0)
  have hS : va_S (dd_A 9 ad X s.heap.size) s.heap s.heap [] := va_S.rf
  have hL_96 : ∀ (k_7 : dd_S → Int32 → Option (dd_S)) (hk_7 : ∀ (sg : dd_S) (v2 : Int32) (H : Heap) (locs : List Loc) (ls : Array Slot), k_7 sg v2 = some (s0) → va_P g.1 vwCl (WM g ad sg ++ X) H → va_S (dd_A 9 ad X s.heap.size) s.heap H locs → lv_has ls 4 [(0, .ref (ad 0)), (1, .int a1), (2, .int v2)] → W p l e (headSpec (lw_ws yX6_sort cX6_sort 4 (none)) ({ frames := 0, cells := 0, slots := 0, locals := 0 } : Room)).room s m ([.ref (ad 0), .int a1] : List Value).toArray below meth c H locs 0 0 (MQ below (QV g (WM g ad s0 ++ X) (dd_A 9 ad X s.heap.size)) ([.ref (ad 0), .int a1] : List Value).toArray s 0 0 (dd_A 9 ad X s.heap.size)) (F0 m 7 ls [])), ∀ (sg : dd_S) (v2 : Int32) (H : Heap) (locs : List Loc) (ls : Array Slot), f_X6_sort_96 a1 k_7 sg v2 = some (s0) → va_P g.1 vwCl (WM g ad sg ++ X) H → va_S (dd_A 9 ad X s.heap.size) s.heap H locs → lv_has ls 4 [(0, .ref (ad 0)), (1, .int a1), (2, .int v2)] → W p l e (headSpec (lw_ws yX6_sort cX6_sort 4 (none)) ({ frames := 0, cells := 0, slots := 0, locals := 0 } : Room)).room s m ([.ref (ad 0), .int a1] : List Value).toArray below meth c H locs 0 0 (MQ below (QV g (WM g ad s0 ++ X) (dd_A 9 ad X s.heap.size)) ([.ref (ad 0), .int a1] : List Value).toArray s 0 0 (dd_A 9 ad X s.heap.size)) (F0 m 96 ls []) := by
    intro k_7 hk_7 sg v2 H locs ls hf hP hS hl
    unfold f_X6_sort_96 at hf
    obtain ⟨x14, ex14, hf⟩ := lt_ex hf
    refine lv_iinc (v := x14) (lv' := [(2, .int x14), (0, .ref (ad 0)), (1, .int a1)]) hx hb dX6_sort_96 hl (k := 2) rfl (by rw [ex14]; rfl) (by decide) rfl (fun ls hl => ?_)
    refine lv_goto (tgt := 7) hx hb dX6_sort_99 (by decide) ?_
    exact hk_7 sg x14 _ _ _ hf hP hS (lv_sub hl [1, 2, 0] rfl)
  have hL_79 : ∀ (k_7 : dd_S → Int32 → Option (dd_S)) (hk_7 : ∀ (sg : dd_S) (v2 : Int32) (H : Heap) (locs : List Loc) (ls : Array Slot), k_7 sg v2 = some (s0) → va_P g.1 vwCl (WM g ad sg ++ X) H → va_S (dd_A 9 ad X s.heap.size) s.heap H locs → lv_has ls 4 [(0, .ref (ad 0)), (1, .int a1), (2, .int v2)] → W p l e (headSpec (lw_ws yX6_sort cX6_sort 4 (none)) ({ frames := 0, cells := 0, slots := 0, locals := 0 } : Room)).room s m ([.ref (ad 0), .int a1] : List Value).toArray below meth c H locs 0 0 (MQ below (QV g (WM g ad s0 ++ X) (dd_A 9 ad X s.heap.size)) ([.ref (ad 0), .int a1] : List Value).toArray s 0 0 (dd_A 9 ad X s.heap.size)) (F0 m 7 ls [])), ∀ (sg : dd_S) (v2 : Int32) (v3 : Int32) (H : Heap) (locs : List Loc) (ls : Array Slot), f_X6_sort_79 a1 k_7 sg v2 v3 = some (s0) → va_P g.1 vwCl (WM g ad sg ++ X) H → va_S (dd_A 9 ad X s.heap.size) s.heap H locs → lv_has ls 4 [(0, .ref (ad 0)), (1, .int a1), (2, .int v2), (3, .int v3)] → W p l e (headSpec (lw_ws yX6_sort cX6_sort 4 (none)) ({ frames := 0, cells := 0, slots := 0, locals := 0 } : Room)).room s m ([.ref (ad 0), .int a1] : List Value).toArray below meth c H locs 0 0 (MQ below (QV g (WM g ad s0 ++ X) (dd_A 9 ad X s.heap.size)) ([.ref (ad 0), .int a1] : List Value).toArray s 0 0 (dd_A 9 ad X s.heap.size)) (F0 m 79 ls []) := by
    intro k_7 hk_7 sg v2 v3 H locs ls hf hP hS hl
    unfold f_X6_sort_79 at hf
    refine lv_aload_n hx hb dX6_sort_79 rfl (lv_at hl 0 rfl) ?_
    refine gf_X6_44 hx hb hts hown hK hP dX6_sort_80 ?_
    refine lv_iload_n hx hb dX6_sort_83 rfl (lv_at hl 3 rfl) ?_
    refine lv_iload_n hx hb dX6_sort_84 rfl (lv_at hl 2 rfl) ?_
    obtain ⟨hi15, hf⟩ := gd_so hf
    obtain ⟨sg16, esg16, hf⟩ := lt_ex hf
    refine W_iast hx hb hK hP hD hS 8 (by decide) (fun _ => cm_8) (ix_in hi15) dX6_sort_85 (fun H locs hP hS => ?_)
    rw [← esg16] at hP
    refine lv_aload_n hx hb dX6_sort_86 rfl (lv_at hl 0 rfl) ?_
    refine lv_dup hx hb dX6_sort_87 rfl ?_
    refine gf_X6_81 hx hb hts hown hK hP dX6_sort_88 ?_
    refine lv_iconst (v := (1 : Int32)) hx hb dX6_sort_91 (by decide) ?_
    refine lv_iadd hx hb dX6_sort_92 ?_
    obtain ⟨sg17, esg17, hf⟩ := lt_ex hf
    refine pf_X6_81 hx hb hts hown hK hP hD hS dX6_sort_93 (fun H locs hP hS => ?_)
    rw [← esg17] at hP
    exact hL_96 k_7 hk_7 sg17 v2 _ _ _ hf hP hS (lv_sub hl [0, 1, 2] rfl)
  have hL_33 : ∀ (k_7 : dd_S → Int32 → Option (dd_S)) (hk_7 : ∀ (sg : dd_S) (v2 : Int32) (H : Heap) (locs : List Loc) (ls : Array Slot), k_7 sg v2 = some (s0) → va_P g.1 vwCl (WM g ad sg ++ X) H → va_S (dd_A 9 ad X s.heap.size) s.heap H locs → lv_has ls 4 [(0, .ref (ad 0)), (1, .int a1), (2, .int v2)] → W p l e (headSpec (lw_ws yX6_sort cX6_sort 4 (none)) ({ frames := 0, cells := 0, slots := 0, locals := 0 } : Room)).room s m ([.ref (ad 0), .int a1] : List Value).toArray below meth c H locs 0 0 (MQ below (QV g (WM g ad s0 ++ X) (dd_A 9 ad X s.heap.size)) ([.ref (ad 0), .int a1] : List Value).toArray s 0 0 (dd_A 9 ad X s.heap.size)) (F0 m 7 ls [])) (n : Nat), ∀ (sg : dd_S) (v2 : Int32) (v3 : Int32) (H : Heap) (locs : List Loc) (ls : Array Slot), f_X6_sort_33 a1 k_7 n sg v2 v3 = some (s0) → va_P g.1 vwCl (WM g ad sg ++ X) H → va_S (dd_A 9 ad X s.heap.size) s.heap H locs → lv_has ls 4 [(0, .ref (ad 0)), (1, .int a1), (2, .int v2), (3, .int v3)] → W p l e (headSpec (lw_ws yX6_sort cX6_sort 4 (none)) ({ frames := 0, cells := 0, slots := 0, locals := 0 } : Room)).room s m ([.ref (ad 0), .int a1] : List Value).toArray below meth c H locs 0 0 (MQ below (QV g (WM g ad s0 ++ X) (dd_A 9 ad X s.heap.size)) ([.ref (ad 0), .int a1] : List Value).toArray s 0 0 (dd_A 9 ad X s.heap.size)) (F0 m 33 ls []) := by
    intro k_7 hk_7 n
    induction n with
    | zero =>
      intro sg v2 v3 H locs ls hf
      rw [f_X6_sort_33] at hf
      cases hf
    | succ n ih =>
      intro sg v2 v3 H locs ls hf hP hS hl
      rw [f_X6_sort_33] at hf
      refine lv_iload_n hx hb dX6_sort_33 rfl (lv_at hl 3 rfl) ?_
      refine lv_if_le (tgt := 79) hx hb dX6_sort_34 (by decide) (fun c5 => ?_) (fun c5 => ?_)
      · have hf := if_t c5 hf
        exact hL_79 k_7 hk_7 sg v2 v3 _ _ _ hf hP hS (lv_sub hl [0, 1, 2, 3] rfl)
      · have hf := if_f c5 hf
        refine lv_aload_n hx hb dX6_sort_37 rfl (lv_at hl 0 rfl) ?_
        refine gf_X6_19 hx hb hts hown hK hP dX6_sort_38 ?_
        refine lv_aload_n hx hb dX6_sort_41 rfl (lv_at hl 0 rfl) ?_
        refine gf_X6_44 hx hb hts hown hK hP dX6_sort_42 ?_
        refine lv_iload_n hx hb dX6_sort_45 rfl (lv_at hl 3 rfl) ?_
        refine lv_iconst (v := (1 : Int32)) hx hb dX6_sort_46 (by decide) ?_
        refine lv_isub hx hb dX6_sort_47 ?_
        obtain ⟨hi6, hf⟩ := gd_so hf
        refine W_iald hx hb hK hP 8 (by decide) cm_8 (ix_in hi6) dX6_sort_48 ?_
        obtain ⟨hi7, hf⟩ := gd_so hf
        refine W_iald hx hb hK hP 4 (by decide) cm_4 (ix_in hi7) dX6_sort_49 ?_
        refine lv_aload_n hx hb dX6_sort_50 rfl (lv_at hl 0 rfl) ?_
        refine gf_X6_19 hx hb hts hown hK hP dX6_sort_51 ?_
        refine lv_iload_n hx hb dX6_sort_54 rfl (lv_at hl 2 rfl) ?_
        obtain ⟨hi8, hf⟩ := gd_so hf
        refine W_iald hx hb hK hP 4 (by decide) cm_4 (ix_in hi8) dX6_sort_55 ?_
        refine lv_icmp_le (tgt := 79) hx hb dX6_sort_56 (by decide) (fun c9 => ?_) (fun c9 => ?_)
        · have hf := if_t c9 hf
          exact hL_79 k_7 hk_7 sg v2 v3 _ _ _ hf hP hS (lv_sub hl [0, 1, 2, 3] rfl)
        · have hf := if_f c9 hf
          refine lv_aload_n hx hb dX6_sort_59 rfl (lv_at hl 0 rfl) ?_
          refine gf_X6_44 hx hb hts hown hK hP dX6_sort_60 ?_
          refine lv_iload_n hx hb dX6_sort_63 rfl (lv_at hl 3 rfl) ?_
          refine lv_aload_n hx hb dX6_sort_64 rfl (lv_at hl 0 rfl) ?_
          refine gf_X6_44 hx hb hts hown hK hP dX6_sort_65 ?_
          refine lv_iload_n hx hb dX6_sort_68 rfl (lv_at hl 3 rfl) ?_
          refine lv_iconst (v := (1 : Int32)) hx hb dX6_sort_69 (by decide) ?_
          refine lv_isub hx hb dX6_sort_70 ?_
          obtain ⟨hi10, hf⟩ := gd_so hf
          refine W_iald hx hb hK hP 8 (by decide) cm_8 (ix_in hi10) dX6_sort_71 ?_
          obtain ⟨hi11, hf⟩ := gd_so hf
          obtain ⟨sg12, esg12, hf⟩ := lt_ex hf
          refine W_iast hx hb hK hP hD hS 8 (by decide) (fun _ => cm_8) (ix_in hi11) dX6_sort_72 (fun H locs hP hS => ?_)
          rw [← esg12] at hP
          obtain ⟨x13, ex13, hf⟩ := lt_ex hf
          refine lv_iinc (v := x13) (lv' := [(3, .int x13), (0, .ref (ad 0)), (1, .int a1), (2, .int v2)]) hx hb dX6_sort_73 hl (k := 3) rfl (by rw [ex13]; rfl) (by decide) rfl (fun ls hl => ?_)
          refine lv_goto (tgt := 33) hx hb dX6_sort_76 (by decide) ?_
          exact ih sg12 v2 x13 _ _ _ hf hP hS (lv_sub hl [1, 2, 3, 0] rfl)
  have hL_7 : ∀ (n : Nat), ∀ (sg : dd_S) (v2 : Int32) (H : Heap) (locs : List Loc) (ls : Array Slot), f_X6_sort_7 a1 n sg v2 = some (s0) → va_P g.1 vwCl (WM g ad sg ++ X) H → va_S (dd_A 9 ad X s.heap.size) s.heap H locs → lv_has ls 4 [(0, .ref (ad 0)), (1, .int a1), (2, .int v2)] → W p l e (headSpec (lw_ws yX6_sort cX6_sort 4 (none)) ({ frames := 0, cells := 0, slots := 0, locals := 0 } : Room)).room s m ([.ref (ad 0), .int a1] : List Value).toArray below meth c H locs 0 0 (MQ below (QV g (WM g ad s0 ++ X) (dd_A 9 ad X s.heap.size)) ([.ref (ad 0), .int a1] : List Value).toArray s 0 0 (dd_A 9 ad X s.heap.size)) (F0 m 7 ls []) := by
    intro n
    induction n with
    | zero =>
      intro sg v2 H locs ls hf
      rw [f_X6_sort_7] at hf
      cases hf
    | succ n ih =>
      intro sg v2 H locs ls hf hP hS hl
      rw [f_X6_sort_7] at hf
      refine lv_iload_n hx hb dX6_sort_7 rfl (lv_at hl 2 rfl) ?_
      refine lv_aload_n hx hb dX6_sort_8 rfl (lv_at hl 0 rfl) ?_
      refine gf_X6_50 hx hb hts hown hK hP dX6_sort_9 ?_
      refine lv_icmp_ge (tgt := 102) hx hb dX6_sort_12 (by decide) (fun c2 => ?_) (fun c2 => ?_)
      · have hf := if_t c2 hf
        exact W.vret hx hb hr (fun t ht hW => ⟨⟨(), rfl, trivial, P_at2 (so1 hf) ht hP⟩, hS.F ht⟩) hS.2.2 dX6_sort_102
      · have hf := if_f c2 hf
        refine lv_aload_n hx hb dX6_sort_15 rfl (lv_at hl 0 rfl) ?_
        refine gf_X6_25 hx hb hts hown hK hP dX6_sort_16 ?_
        refine lv_iload_n hx hb dX6_sort_19 rfl (lv_at hl 2 rfl) ?_
        obtain ⟨hi3, hf⟩ := gd_so hf
        refine W_iald hx hb hK hP 6 (by decide) cm_6 (ix_in hi3) dX6_sort_20 ?_
        refine lv_iload_n hx hb dX6_sort_21 rfl (lv_at hl 1 rfl) ?_
        refine lv_icmp_eq (tgt := 28) hx hb dX6_sort_22 (by decide) (fun c4 => ?_) (fun c4 => ?_)
        · have hf := if_t c4 hf
          refine lv_aload_n hx hb dX6_sort_28 rfl (lv_at hl 0 rfl) ?_
          refine gf_X6_81 hx hb hts hown hK hP dX6_sort_29 ?_
          refine lv_istore_n (lv' := [(3, .int (sg 0 16)), (0, .ref (ad 0)), (1, .int a1), (2, .int v2)]) hx hb dX6_sort_32 rfl hl (by decide) rfl (fun ls hl => ?_)
          exact hL_33 (fun zs z0 => f_X6_sort_7 a1 n zs z0) ih 64 sg v2 (sg 0 16) _ _ _ hf hP hS (lv_sub hl [1, 2, 3, 0] rfl)
        · have hf := if_f c4 hf
          refine lv_goto (tgt := 96) hx hb dX6_sort_25 (by decide) ?_
          exact hL_96 (fun zs z0 => f_X6_sort_7 a1 n zs z0) ih sg v2 _ _ _ hf hP hS (lv_sub hl [0, 1, 2] rfl)
  unfold f_X6_sort at hf
  have hl := lv_entry ([.ref (ad 0), .int a1]) (n := 4) (Nat.le_of_ble_eq_true rfl)
  rw [lg_entry_eq]
  generalize (lg_sl ([.ref (ad 0), .int a1]) ++ List.replicate (4 - (lg_sl ([.ref (ad 0), .int a1])).length) Slot.unset).toArray = ls at hl ⊢
  have hl : lv_has ls 4 [(0, .ref (ad 0)), (1, .int a1)] := hl
  refine lv_aload_n hx hb dX6_sort_0 rfl (lv_at hl 0 rfl) ?_
  refine lv_iconst (v := (0 : Int32)) hx hb dX6_sort_1 (by decide) ?_
  obtain ⟨sg1, esg1, hf⟩ := lt_ex hf
  refine pf_X6_81 hx hb hts hown hK hP hD hS dX6_sort_2 (fun H locs hP hS => ?_)
  rw [← esg1] at hP
  refine lv_iconst (v := (0 : Int32)) hx hb dX6_sort_5 (by decide) ?_
  refine lv_istore_n (lv' := [(2, .int (0 : Int32)), (0, .ref (ad 0)), (1, .int a1)]) hx hb dX6_sort_6 rfl hl (by decide) rfl (fun ls hl => ?_)
  exact hL_7 64 sg1 (0 : Int32) _ _ _ hf hP hS (lv_sub hl [1, 2, 0] rfl)
set_option maxHeartbeats 4000000 in
set_option maxRecDepth 100000 in
theorem c_X6_look (l : Launch) (g : dd_G) (ad : Nat → Nat) (X : va_W) (sz : Nat) (sg : dd_S) (a1 : Int32) (r0 : Int32) (s0 : dd_S) (hf : f_X6_look sg a1 = some (r0, s0)) : Met l yX6_look (lw_ws yX6_look cX6_look 8 (some .boolean)) ({ frames := 1, cells := 0, slots := 0, locals := 23 } : Room) (va_Pc [.ref (ad 0), .int a1] (PreW g (WM g ad sg ++ X) sz)) (QI g (WM g ad s0 ++ X) (dd_A 9 ad X sz) r0) 0 0 (dd_A 9 ad X sz) := by
  refine Met.ofW (cc := cX6_look) (maxL := 8) (ret := some .boolean) (by decide) rfl ?_
  intro p e s m args below meth c s₁ B hml hv
  obtain ⟨rfl, rfl, hP, hK, hD0⟩ := hv
  have hx := B.exec
  have hb := B.bytes
  have hr := B.returns
  have hts := atoms_spec (ws := (lw_ws yX6_look cX6_look 8 (some .boolean))) B.pre
  have hts : ∀ w ∈ lw_all, w.before _ s = true := fun w h => hts w (List.mem_cons_of_mem _ h)
  have hown : s.vm.findClass RX6 = some m.cls := findClass_of_methodNamed B.named
  have hlocks := B.notSynchronized
  have hD : ∀ s2 : dd_S, va_D (dd_A 9 ad X s.heap.size) (WM g ad s2 ++ X) := fun s2 => dd_D (dd_A_D hD0)
  have hS : va_S (dd_A 9 ad X s.heap.size) s.heap s.heap [] := va_S.rf
  have hL_386 : ∀ (k_160 : dd_S → Int32 → Int32 → Option (Int32 × dd_S)) (hk_160 : ∀ (sg : dd_S) (v2 : Int32) (v3 : Int32) (H : Heap) (locs : List Loc) (ls : Array Slot), k_160 sg v2 v3 = some (r0, s0) → va_P g.1 vwCl (WM g ad sg ++ X) H → va_S (dd_A 9 ad X s.heap.size) s.heap H locs → lv_has ls 8 [(0, .ref (ad 0)), (2, .int v2), (3, .int v3)] → W p l e (headSpec (lw_ws yX6_look cX6_look 8 (some .boolean)) ({ frames := 1, cells := 0, slots := 0, locals := 23 } : Room)).room s m ([.ref (ad 0), .int a1] : List Value).toArray below meth c H locs 0 0 (MQ below (QI g (WM g ad s0 ++ X) (dd_A 9 ad X s.heap.size) r0) ([.ref (ad 0), .int a1] : List Value).toArray s 0 0 (dd_A 9 ad X s.heap.size)) (F0 m 160 ls [])), ∀ (sg : dd_S) (v2 : Int32) (v3 : Int32) (v5 : Int32) (H : Heap) (locs : List Loc) (ls : Array Slot), f_X6_look_386 a1 k_160 sg v2 v3 v5 = some (r0, s0) → va_P g.1 vwCl (WM g ad sg ++ X) H → va_S (dd_A 9 ad X s.heap.size) s.heap H locs → lv_has ls 8 [(0, .ref (ad 0)), (2, .int v2), (3, .int v3), (5, .int v5)] → W p l e (headSpec (lw_ws yX6_look cX6_look 8 (some .boolean)) ({ frames := 1, cells := 0, slots := 0, locals := 23 } : Room)).room s m ([.ref (ad 0), .int a1] : List Value).toArray below meth c H locs 0 0 (MQ below (QI g (WM g ad s0 ++ X) (dd_A 9 ad X s.heap.size) r0) ([.ref (ad 0), .int a1] : List Value).toArray s 0 0 (dd_A 9 ad X s.heap.size)) (F0 m 386 ls []) := by
    intro k_160 hk_160 sg v2 v3 v5 H locs ls hf hP hS hl
    unfold f_X6_look_386 at hf
    refine lv_iload_n hx hb dX6_look_386 rfl (lv_at hl 1 rfl) ?_
    refine lv_iload hx hb dX6_look_387 (lv_at hl 3 rfl) ?_
    refine lv_iadd hx hb dX6_look_389 ?_
    refine lv_topi (fun x75 ex75 => ?_)
    have hf := lt_so ex75 hf
    refine lv_istore_n (lv' := [(2, .int x75), (0, .ref (ad 0)), (3, .int v3), (5, .int v5)]) hx hb dX6_look_390 rfl hl (by decide) rfl (fun ls hl => ?_)
    obtain ⟨x76, ex76, hf⟩ := lt_ex hf
    refine lv_iinc (v := x76) (lv' := [(3, .int x76), (2, .int x75), (0, .ref (ad 0)), (5, .int v5)]) hx hb dX6_look_391 hl (k := 2) rfl (by rw [ex76]; rfl) (by decide) rfl (fun ls hl => ?_)
    refine lv_goto (tgt := 160) hx hb dX6_look_394 (by decide) ?_
    exact hk_160 sg x75 x76 _ _ _ hf hP hS (lv_sub hl [2, 1, 0] rfl)
  have hL_343 : ∀ (k_160 : dd_S → Int32 → Int32 → Option (Int32 × dd_S)) (hk_160 : ∀ (sg : dd_S) (v2 : Int32) (v3 : Int32) (H : Heap) (locs : List Loc) (ls : Array Slot), k_160 sg v2 v3 = some (r0, s0) → va_P g.1 vwCl (WM g ad sg ++ X) H → va_S (dd_A 9 ad X s.heap.size) s.heap H locs → lv_has ls 8 [(0, .ref (ad 0)), (2, .int v2), (3, .int v3)] → W p l e (headSpec (lw_ws yX6_look cX6_look 8 (some .boolean)) ({ frames := 1, cells := 0, slots := 0, locals := 23 } : Room)).room s m ([.ref (ad 0), .int a1] : List Value).toArray below meth c H locs 0 0 (MQ below (QI g (WM g ad s0 ++ X) (dd_A 9 ad X s.heap.size) r0) ([.ref (ad 0), .int a1] : List Value).toArray s 0 0 (dd_A 9 ad X s.heap.size)) (F0 m 160 ls [])), ∀ (sg : dd_S) (v2 : Int32) (v3 : Int32) (v5 : Int32) (v6 : Int32) (v7 : Int32) (t0 : Int32) (H : Heap) (locs : List Loc) (ls : Array Slot), f_X6_look_343 a1 k_160 sg v2 v3 v5 v6 v7 t0 = some (r0, s0) → va_P g.1 vwCl (WM g ad sg ++ X) H → va_S (dd_A 9 ad X s.heap.size) s.heap H locs → lv_has ls 8 [(0, .ref (ad 0)), (2, .int v2), (3, .int v3), (5, .int v5), (6, .int v6), (7, .int v7)] → W p l e (headSpec (lw_ws yX6_look cX6_look 8 (some .boolean)) ({ frames := 1, cells := 0, slots := 0, locals := 23 } : Room)).room s m ([.ref (ad 0), .int a1] : List Value).toArray below meth c H locs 0 0 (MQ below (QI g (WM g ad s0 ++ X) (dd_A 9 ad X s.heap.size) r0) ([.ref (ad 0), .int a1] : List Value).toArray s 0 0 (dd_A 9 ad X s.heap.size)) (F0 m 343 ls [.int t0, .ref (ad 0)]) := by
    intro k_160 hk_160 sg v2 v3 v5 v6 v7 t0 H locs ls hf hP hS hl
    unfold f_X6_look_343 at hf
    obtain ⟨hz68, hf⟩ := gd_so hf
    obtain ⟨sg69, esg69, hf⟩ := lt_ex hf
    refine pf_X6_106 hx hb hts hown hK hP hD hS hz68 dX6_look_343 (fun H locs hP hS => ?_)
    rw [← esg69] at hP
    refine lv_iload hx hb dX6_look_346 (lv_at hl 5 rfl) ?_
    refine lv_if_eq (tgt := 386) hx hb dX6_look_348 (by decide) (fun c70 => ?_) (fun c70 => ?_)
    · have hf := if_t c70 hf
      exact hL_386 k_160 hk_160 sg69 v2 v3 v5 _ _ _ hf hP hS (lv_sub hl [0, 1, 2, 3] rfl)
    · have hf := if_f c70 hf
      refine lv_aload_n hx hb dX6_look_351 rfl (lv_at hl 0 rfl) ?_
      refine lv_dup hx hb dX6_look_352 rfl ?_
      refine gf_X6_100 hx hb hts hown hK hP dX6_look_353 ?_
      refine lv_iconst (v := (1 : Int32)) hx hb dX6_look_356 (by decide) ?_
      refine lv_iadd hx hb dX6_look_357 ?_
      obtain ⟨sg71, esg71, hf⟩ := lt_ex hf
      refine pf_X6_100 hx hb hts hown hK hP hD hS dX6_look_358 (fun H locs hP hS => ?_)
      rw [← esg71] at hP
      refine lv_aload_n hx hb dX6_look_361 rfl (lv_at hl 0 rfl) ?_
      refine lv_dup hx hb dX6_look_362 rfl ?_
      refine gf_X6_94 hx hb hts hown hK hP dX6_look_363 ?_
      refine lv_iload hx hb dX6_look_366 (lv_at hl 4 rfl) ?_
      refine lv_isub hx hb dX6_look_368 ?_
      obtain ⟨sg72, esg72, hf⟩ := lt_ex hf
      refine pf_X6_94 hx hb hts hown hK hP hD hS dX6_look_369 (fun H locs hP hS => ?_)
      rw [← esg72] at hP
      refine lv_aload_n hx hb dX6_look_372 rfl (lv_at hl 0 rfl) ?_
      refine lv_aload_n hx hb dX6_look_373 rfl (lv_at hl 0 rfl) ?_
      refine gf_X6_103 hx hb hts hown hK hP dX6_look_374 ?_
      refine lv_iload_n hx hb dX6_look_377 rfl (lv_at hl 1 rfl) ?_
      refine va_mmax hx hb (hml.trans hl.1.symm) hown (hts _ qw_300) (hts _ qw_301) (hts _ qw_302) (hts _ qw_303) (Nat.le_of_ble_eq_true rfl) (Nat.le_of_ble_eq_true rfl) (Nat.le_of_ble_eq_true rfl) (Nat.le_of_ble_eq_true rfl) dX6_look_378 ?_
      refine lv_topi (fun x73 ex73 => ?_)
      have hf := lt_so ex73 hf
      obtain ⟨sg74, esg74, hf⟩ := lt_ex hf
      refine pf_X6_103 hx hb hts hown hK hP hD hS dX6_look_381 (fun H locs hP hS => ?_)
      rw [← esg74] at hP
      refine lv_iconst (v := (0 : Int32)) hx hb dX6_look_384 (by decide) ?_
      refine lv_istore_n (lv' := [(2, .int (0 : Int32)), (0, .ref (ad 0)), (3, .int v3), (5, .int v5), (6, .int v6), (7, .int v7)]) hx hb dX6_look_385 rfl hl (by decide) rfl (fun ls hl => ?_)
      exact hL_386 k_160 hk_160 sg74 (0 : Int32) v3 v5 _ _ _ hf hP hS (lv_sub hl [1, 0, 2, 3] rfl)
  have hL_342 : ∀ (k_160 : dd_S → Int32 → Int32 → Option (Int32 × dd_S)) (hk_160 : ∀ (sg : dd_S) (v2 : Int32) (v3 : Int32) (H : Heap) (locs : List Loc) (ls : Array Slot), k_160 sg v2 v3 = some (r0, s0) → va_P g.1 vwCl (WM g ad sg ++ X) H → va_S (dd_A 9 ad X s.heap.size) s.heap H locs → lv_has ls 8 [(0, .ref (ad 0)), (2, .int v2), (3, .int v3)] → W p l e (headSpec (lw_ws yX6_look cX6_look 8 (some .boolean)) ({ frames := 1, cells := 0, slots := 0, locals := 23 } : Room)).room s m ([.ref (ad 0), .int a1] : List Value).toArray below meth c H locs 0 0 (MQ below (QI g (WM g ad s0 ++ X) (dd_A 9 ad X s.heap.size) r0) ([.ref (ad 0), .int a1] : List Value).toArray s 0 0 (dd_A 9 ad X s.heap.size)) (F0 m 160 ls [])), ∀ (sg : dd_S) (v2 : Int32) (v3 : Int32) (v5 : Int32) (v6 : Int32) (v7 : Int32) (H : Heap) (locs : List Loc) (ls : Array Slot), f_X6_look_342 a1 k_160 sg v2 v3 v5 v6 v7 = some (r0, s0) → va_P g.1 vwCl (WM g ad sg ++ X) H → va_S (dd_A 9 ad X s.heap.size) s.heap H locs → lv_has ls 8 [(0, .ref (ad 0)), (2, .int v2), (3, .int v3), (5, .int v5), (6, .int v6), (7, .int v7)] → W p l e (headSpec (lw_ws yX6_look cX6_look 8 (some .boolean)) ({ frames := 1, cells := 0, slots := 0, locals := 23 } : Room)).room s m ([.ref (ad 0), .int a1] : List Value).toArray below meth c H locs 0 0 (MQ below (QI g (WM g ad s0 ++ X) (dd_A 9 ad X s.heap.size) r0) ([.ref (ad 0), .int a1] : List Value).toArray s 0 0 (dd_A 9 ad X s.heap.size)) (F0 m 342 ls [.ref (ad 0)]) := by
    intro k_160 hk_160 sg v2 v3 v5 v6 v7 H locs ls hf hP hS hl
    unfold f_X6_look_342 at hf
    refine lv_iconst (v := (0 : Int32)) hx hb dX6_look_342 (by decide) ?_
    exact hL_343 k_160 hk_160 sg v2 v3 v5 v6 v7 (0 : Int32) _ _ _ hf hP hS (lv_sub hl [0, 1, 2, 3, 4, 5] rfl)
  have hL_323 : ∀ (k_160 : dd_S → Int32 → Int32 → Option (Int32 × dd_S)) (hk_160 : ∀ (sg : dd_S) (v2 : Int32) (v3 : Int32) (H : Heap) (locs : List Loc) (ls : Array Slot), k_160 sg v2 v3 = some (r0, s0) → va_P g.1 vwCl (WM g ad sg ++ X) H → va_S (dd_A 9 ad X s.heap.size) s.heap H locs → lv_has ls 8 [(0, .ref (ad 0)), (2, .int v2), (3, .int v3)] → W p l e (headSpec (lw_ws yX6_look cX6_look 8 (some .boolean)) ({ frames := 1, cells := 0, slots := 0, locals := 23 } : Room)).room s m ([.ref (ad 0), .int a1] : List Value).toArray below meth c H locs 0 0 (MQ below (QI g (WM g ad s0 ++ X) (dd_A 9 ad X s.heap.size) r0) ([.ref (ad 0), .int a1] : List Value).toArray s 0 0 (dd_A 9 ad X s.heap.size)) (F0 m 160 ls [])), ∀ (sg : dd_S) (v2 : Int32) (v3 : Int32) (v5 : Int32) (v6 : Int32) (t0 : Int32) (H : Heap) (locs : List Loc) (ls : Array Slot), f_X6_look_323 a1 k_160 sg v2 v3 v5 v6 t0 = some (r0, s0) → va_P g.1 vwCl (WM g ad sg ++ X) H → va_S (dd_A 9 ad X s.heap.size) s.heap H locs → lv_has ls 8 [(0, .ref (ad 0)), (2, .int v2), (3, .int v3), (5, .int v5), (6, .int v6)] → W p l e (headSpec (lw_ws yX6_look cX6_look 8 (some .boolean)) ({ frames := 1, cells := 0, slots := 0, locals := 23 } : Room)).room s m ([.ref (ad 0), .int a1] : List Value).toArray below meth c H locs 0 0 (MQ below (QI g (WM g ad s0 ++ X) (dd_A 9 ad X s.heap.size) r0) ([.ref (ad 0), .int a1] : List Value).toArray s 0 0 (dd_A 9 ad X s.heap.size)) (F0 m 323 ls [.int t0]) := by
    intro k_160 hk_160 sg v2 v3 v5 v6 t0 H locs ls hf hP hS hl
    unfold f_X6_look_323 at hf
    refine lv_istore (lv' := [(7, .int t0), (0, .ref (ad 0)), (2, .int v2), (3, .int v3), (5, .int v5), (6, .int v6)]) hx hb dX6_look_323 hl (by decide) rfl (fun ls hl => ?_)
    refine lv_aload_n hx hb dX6_look_325 rfl (lv_at hl 1 rfl) ?_
    refine lv_aload_n hx hb dX6_look_326 rfl (lv_at hl 1 rfl) ?_
    refine gf_X6_106 hx hb hts hown hK hP dX6_look_327 ?_
    refine lv_if_eq (tgt := 342) hx hb dX6_look_330 (by decide) (fun c66 => ?_) (fun c66 => ?_)
    · have hf := if_t c66 hf
      exact hL_342 k_160 hk_160 sg v2 v3 v5 v6 t0 _ _ _ hf hP hS (lv_sub hl [1, 2, 3, 4, 5, 0] rfl)
    · have hf := if_f c66 hf
      refine lv_iload hx hb dX6_look_333 (lv_at hl 5 rfl) ?_
      refine lv_if_lt (tgt := 342) hx hb dX6_look_335 (by decide) (fun c67 => ?_) (fun c67 => ?_)
      · have hf := if_t c67 hf
        exact hL_342 k_160 hk_160 sg v2 v3 v5 v6 t0 _ _ _ hf hP hS (lv_sub hl [1, 2, 3, 4, 5, 0] rfl)
      · have hf := if_f c67 hf
        refine lv_iconst (v := (1 : Int32)) hx hb dX6_look_338 (by decide) ?_
        refine lv_goto (tgt := 343) hx hb dX6_look_339 (by decide) ?_
        exact hL_343 k_160 hk_160 sg v2 v3 v5 v6 t0 (1 : Int32) _ _ _ hf hP hS (lv_sub hl [1, 2, 3, 4, 5, 0] rfl)
  have hL_322 : ∀ (k_160 : dd_S → Int32 → Int32 → Option (Int32 × dd_S)) (hk_160 : ∀ (sg : dd_S) (v2 : Int32) (v3 : Int32) (H : Heap) (locs : List Loc) (ls : Array Slot), k_160 sg v2 v3 = some (r0, s0) → va_P g.1 vwCl (WM g ad sg ++ X) H → va_S (dd_A 9 ad X s.heap.size) s.heap H locs → lv_has ls 8 [(0, .ref (ad 0)), (2, .int v2), (3, .int v3)] → W p l e (headSpec (lw_ws yX6_look cX6_look 8 (some .boolean)) ({ frames := 1, cells := 0, slots := 0, locals := 23 } : Room)).room s m ([.ref (ad 0), .int a1] : List Value).toArray below meth c H locs 0 0 (MQ below (QI g (WM g ad s0 ++ X) (dd_A 9 ad X s.heap.size) r0) ([.ref (ad 0), .int a1] : List Value).toArray s 0 0 (dd_A 9 ad X s.heap.size)) (F0 m 160 ls [])), ∀ (sg : dd_S) (v2 : Int32) (v3 : Int32) (v5 : Int32) (v6 : Int32) (H : Heap) (locs : List Loc) (ls : Array Slot), f_X6_look_322 a1 k_160 sg v2 v3 v5 v6 = some (r0, s0) → va_P g.1 vwCl (WM g ad sg ++ X) H → va_S (dd_A 9 ad X s.heap.size) s.heap H locs → lv_has ls 8 [(0, .ref (ad 0)), (2, .int v2), (3, .int v3), (5, .int v5), (6, .int v6)] → W p l e (headSpec (lw_ws yX6_look cX6_look 8 (some .boolean)) ({ frames := 1, cells := 0, slots := 0, locals := 23 } : Room)).room s m ([.ref (ad 0), .int a1] : List Value).toArray below meth c H locs 0 0 (MQ below (QI g (WM g ad s0 ++ X) (dd_A 9 ad X s.heap.size) r0) ([.ref (ad 0), .int a1] : List Value).toArray s 0 0 (dd_A 9 ad X s.heap.size)) (F0 m 322 ls []) := by
    intro k_160 hk_160 sg v2 v3 v5 v6 H locs ls hf hP hS hl
    unfold f_X6_look_322 at hf
    refine lv_iconst (v := (0 : Int32)) hx hb dX6_look_322 (by decide) ?_
    exact hL_323 k_160 hk_160 sg v2 v3 v5 v6 (0 : Int32) _ _ _ hf hP hS (lv_sub hl [0, 1, 2, 3, 4] rfl)
  have hL_302 : ∀ (k_160 : dd_S → Int32 → Int32 → Option (Int32 × dd_S)) (hk_160 : ∀ (sg : dd_S) (v2 : Int32) (v3 : Int32) (H : Heap) (locs : List Loc) (ls : Array Slot), k_160 sg v2 v3 = some (r0, s0) → va_P g.1 vwCl (WM g ad sg ++ X) H → va_S (dd_A 9 ad X s.heap.size) s.heap H locs → lv_has ls 8 [(0, .ref (ad 0)), (2, .int v2), (3, .int v3)] → W p l e (headSpec (lw_ws yX6_look cX6_look 8 (some .boolean)) ({ frames := 1, cells := 0, slots := 0, locals := 23 } : Room)).room s m ([.ref (ad 0), .int a1] : List Value).toArray below meth c H locs 0 0 (MQ below (QI g (WM g ad s0 ++ X) (dd_A 9 ad X s.heap.size) r0) ([.ref (ad 0), .int a1] : List Value).toArray s 0 0 (dd_A 9 ad X s.heap.size)) (F0 m 160 ls [])), ∀ (sg : dd_S) (v2 : Int32) (v3 : Int32) (v4 : Int32) (v5 : Int32) (t0 : Int32) (H : Heap) (locs : List Loc) (ls : Array Slot), f_X6_look_302 a1 k_160 sg v2 v3 v4 v5 t0 = some (r0, s0) → va_P g.1 vwCl (WM g ad sg ++ X) H → va_S (dd_A 9 ad X s.heap.size) s.heap H locs → lv_has ls 8 [(0, .ref (ad 0)), (2, .int v2), (3, .int v3), (4, .int v4), (5, .int v5)] → W p l e (headSpec (lw_ws yX6_look cX6_look 8 (some .boolean)) ({ frames := 1, cells := 0, slots := 0, locals := 23 } : Room)).room s m ([.ref (ad 0), .int a1] : List Value).toArray below meth c H locs 0 0 (MQ below (QI g (WM g ad s0 ++ X) (dd_A 9 ad X s.heap.size) r0) ([.ref (ad 0), .int a1] : List Value).toArray s 0 0 (dd_A 9 ad X s.heap.size)) (F0 m 302 ls [.int t0]) := by
    intro k_160 hk_160 sg v2 v3 v4 v5 t0 H locs ls hf hP hS hl
    unfold f_X6_look_302 at hf
    refine lv_istore (lv' := [(6, .int t0), (0, .ref (ad 0)), (2, .int v2), (3, .int v3), (4, .int v4), (5, .int v5)]) hx hb dX6_look_302 hl (by decide) rfl (fun ls hl => ?_)
    refine lv_iload hx hb dX6_look_304 (lv_at hl 4 rfl) ?_
    refine lv_if_ne (tgt := 322) hx hb dX6_look_306 (by decide) (fun c64 => ?_) (fun c64 => ?_)
    · have hf := if_f c64 hf
      exact hL_322 k_160 hk_160 sg v2 v3 v5 t0 _ _ _ hf hP hS (lv_sub hl [1, 2, 3, 5, 0] rfl)
    · have hf := if_t c64 hf
      refine lv_iload hx hb dX6_look_309 (lv_at hl 0 rfl) ?_
      refine lv_aload_n hx hb dX6_look_311 rfl (lv_at hl 1 rfl) ?_
      refine gf_X6_38 hx hb hts hown hK hP dX6_look_312 ?_
      refine lv_icmp_lt (tgt := 322) hx hb dX6_look_315 (by decide) (fun c65 => ?_) (fun c65 => ?_)
      · have hf := if_t c65 hf
        exact hL_322 k_160 hk_160 sg v2 v3 v5 t0 _ _ _ hf hP hS (lv_sub hl [1, 2, 3, 5, 0] rfl)
      · have hf := if_f c65 hf
        refine lv_iconst (v := (1 : Int32)) hx hb dX6_look_318 (by decide) ?_
        refine lv_goto (tgt := 323) hx hb dX6_look_319 (by decide) ?_
        exact hL_323 k_160 hk_160 sg v2 v3 v5 t0 (1 : Int32) _ _ _ hf hP hS (lv_sub hl [1, 2, 3, 5, 0] rfl)
  have hL_263 : ∀ (k_160 : dd_S → Int32 → Int32 → Option (Int32 × dd_S)) (hk_160 : ∀ (sg : dd_S) (v2 : Int32) (v3 : Int32) (H : Heap) (locs : List Loc) (ls : Array Slot), k_160 sg v2 v3 = some (r0, s0) → va_P g.1 vwCl (WM g ad sg ++ X) H → va_S (dd_A 9 ad X s.heap.size) s.heap H locs → lv_has ls 8 [(0, .ref (ad 0)), (2, .int v2), (3, .int v3)] → W p l e (headSpec (lw_ws yX6_look cX6_look 8 (some .boolean)) ({ frames := 1, cells := 0, slots := 0, locals := 23 } : Room)).room s m ([.ref (ad 0), .int a1] : List Value).toArray below meth c H locs 0 0 (MQ below (QI g (WM g ad s0 ++ X) (dd_A 9 ad X s.heap.size) r0) ([.ref (ad 0), .int a1] : List Value).toArray s 0 0 (dd_A 9 ad X s.heap.size)) (F0 m 160 ls [])), ∀ (sg : dd_S) (v2 : Int32) (v3 : Int32) (v4 : Int32) (t0 : Int32) (H : Heap) (locs : List Loc) (ls : Array Slot), f_X6_look_263 a1 k_160 sg v2 v3 v4 t0 = some (r0, s0) → va_P g.1 vwCl (WM g ad sg ++ X) H → va_S (dd_A 9 ad X s.heap.size) s.heap H locs → lv_has ls 8 [(0, .ref (ad 0)), (2, .int v2), (3, .int v3), (4, .int v4)] → W p l e (headSpec (lw_ws yX6_look cX6_look 8 (some .boolean)) ({ frames := 1, cells := 0, slots := 0, locals := 23 } : Room)).room s m ([.ref (ad 0), .int a1] : List Value).toArray below meth c H locs 0 0 (MQ below (QI g (WM g ad s0 ++ X) (dd_A 9 ad X s.heap.size) r0) ([.ref (ad 0), .int a1] : List Value).toArray s 0 0 (dd_A 9 ad X s.heap.size)) (F0 m 263 ls [.int t0]) := by
    intro k_160 hk_160 sg v2 v3 v4 t0 H locs ls hf hP hS hl
    unfold f_X6_look_263 at hf
    refine lv_istore (lv' := [(5, .int t0), (0, .ref (ad 0)), (2, .int v2), (3, .int v3), (4, .int v4)]) hx hb dX6_look_263 hl (by decide) rfl (fun ls hl => ?_)
    refine lv_iload hx hb dX6_look_265 (lv_at hl 4 rfl) ?_
    refine lv_if_eq (tgt := 274) hx hb dX6_look_267 (by decide) (fun c59 => ?_) (fun c59 => ?_)
    · have hf := if_t c59 hf
      refine lv_aload_n hx hb dX6_look_274 rfl (lv_at hl 1 rfl) ?_
      refine gf_X6_19 hx hb hts hown hK hP dX6_look_275 ?_
      refine lv_aload_n hx hb dX6_look_278 rfl (lv_at hl 1 rfl) ?_
      refine gf_X6_44 hx hb hts hown hK hP dX6_look_279 ?_
      refine lv_iload_n hx hb dX6_look_282 rfl (lv_at hl 3 rfl) ?_
      refine lv_iconst (v := (1 : Int32)) hx hb dX6_look_283 (by decide) ?_
      refine lv_iadd hx hb dX6_look_284 ?_
      obtain ⟨hi60, hf⟩ := gd_so hf
      refine W_iald hx hb hK hP 8 (by decide) cm_8 (ix_in hi60) dX6_look_285 ?_
      obtain ⟨hi61, hf⟩ := gd_so hf
      refine W_iald hx hb hK hP 4 (by decide) cm_4 (ix_in hi61) dX6_look_286 ?_
      refine lv_aload_n hx hb dX6_look_287 rfl (lv_at hl 1 rfl) ?_
      refine gf_X6_22 hx hb hts hown hK hP dX6_look_288 ?_
      refine lv_aload_n hx hb dX6_look_291 rfl (lv_at hl 1 rfl) ?_
      refine gf_X6_44 hx hb hts hown hK hP dX6_look_292 ?_
      refine lv_iload_n hx hb dX6_look_295 rfl (lv_at hl 3 rfl) ?_
      obtain ⟨hi62, hf⟩ := gd_so hf
      refine W_iald hx hb hK hP 8 (by decide) cm_8 (ix_in hi62) dX6_look_296 ?_
      obtain ⟨hi63, hf⟩ := gd_so hf
      refine W_iald hx hb hK hP 5 (by decide) cm_5 (ix_in hi63) dX6_look_297 ?_
      refine lv_isub hx hb dX6_look_298 ?_
      refine lv_iload hx hb dX6_look_299 (lv_at hl 0 rfl) ?_
      refine lv_isub hx hb dX6_look_301 ?_
      exact hL_302 k_160 hk_160 sg v2 v3 v4 t0 (((sg 4 (sg 8 (v3 + (1 : Int32)).toNatClampNeg).toNatClampNeg) - (sg 5 (sg 8 v3.toNatClampNeg).toNatClampNeg)) - t0) _ _ _ hf hP hS (lv_sub hl [1, 2, 3, 4, 0] rfl)
    · have hf := if_f c59 hf
      refine lv_iconst (v := (0 : Int32)) hx hb dX6_look_270 (by decide) ?_
      refine lv_goto (tgt := 302) hx hb dX6_look_271 (by decide) ?_
      exact hL_302 k_160 hk_160 sg v2 v3 v4 t0 (0 : Int32) _ _ _ hf hP hS (lv_sub hl [1, 2, 3, 4, 0] rfl)
  have hL_209 : ∀ (k_160 : dd_S → Int32 → Int32 → Option (Int32 × dd_S)) (hk_160 : ∀ (sg : dd_S) (v2 : Int32) (v3 : Int32) (H : Heap) (locs : List Loc) (ls : Array Slot), k_160 sg v2 v3 = some (r0, s0) → va_P g.1 vwCl (WM g ad sg ++ X) H → va_S (dd_A 9 ad X s.heap.size) s.heap H locs → lv_has ls 8 [(0, .ref (ad 0)), (2, .int v2), (3, .int v3)] → W p l e (headSpec (lw_ws yX6_look cX6_look 8 (some .boolean)) ({ frames := 1, cells := 0, slots := 0, locals := 23 } : Room)).room s m ([.ref (ad 0), .int a1] : List Value).toArray below meth c H locs 0 0 (MQ below (QI g (WM g ad s0 ++ X) (dd_A 9 ad X s.heap.size) r0) ([.ref (ad 0), .int a1] : List Value).toArray s 0 0 (dd_A 9 ad X s.heap.size)) (F0 m 160 ls [])), ∀ (sg : dd_S) (v2 : Int32) (v3 : Int32) (t0 : Int32) (H : Heap) (locs : List Loc) (ls : Array Slot), f_X6_look_209 a1 k_160 sg v2 v3 t0 = some (r0, s0) → va_P g.1 vwCl (WM g ad sg ++ X) H → va_S (dd_A 9 ad X s.heap.size) s.heap H locs → lv_has ls 8 [(0, .ref (ad 0)), (2, .int v2), (3, .int v3)] → W p l e (headSpec (lw_ws yX6_look cX6_look 8 (some .boolean)) ({ frames := 1, cells := 0, slots := 0, locals := 23 } : Room)).room s m ([.ref (ad 0), .int a1] : List Value).toArray below meth c H locs 0 0 (MQ below (QI g (WM g ad s0 ++ X) (dd_A 9 ad X s.heap.size) r0) ([.ref (ad 0), .int a1] : List Value).toArray s 0 0 (dd_A 9 ad X s.heap.size)) (F0 m 209 ls [.int t0]) := by
    intro k_160 hk_160 sg v2 v3 t0 H locs ls hf hP hS hl
    unfold f_X6_look_209 at hf
    refine lv_istore (lv' := [(4, .int t0), (0, .ref (ad 0)), (2, .int v2), (3, .int v3)]) hx hb dX6_look_209 hl (by decide) rfl (fun ls hl => ?_)
    refine lv_iload hx hb dX6_look_211 (lv_at hl 0 rfl) ?_
    refine lv_if_eq (tgt := 235) hx hb dX6_look_213 (by decide) (fun c48 => ?_) (fun c48 => ?_)
    · have hf := if_t c48 hf
      refine lv_aload_n hx hb dX6_look_235 rfl (lv_at hl 1 rfl) ?_
      refine lv_aload_n hx hb dX6_look_236 rfl (lv_at hl 1 rfl) ?_
      refine gf_X6_16 hx hb hts hown hK hP dX6_look_237 ?_
      refine lv_aload_n hx hb dX6_look_240 rfl (lv_at hl 1 rfl) ?_
      refine gf_X6_44 hx hb hts hown hK hP dX6_look_241 ?_
      refine lv_iload_n hx hb dX6_look_244 rfl (lv_at hl 3 rfl) ?_
      obtain ⟨hi49, hf⟩ := gd_so hf
      refine W_iald hx hb hK hP 8 (by decide) cm_8 (ix_in hi49) dX6_look_245 ?_
      obtain ⟨hi50, hf⟩ := gd_so hf
      refine W_iald hx hb hK hP 3 (by decide) cm_3 (ix_in hi50) dX6_look_246 ?_
      refine lv_aload_n hx hb dX6_look_247 rfl (lv_at hl 1 rfl) ?_
      refine gf_X6_13 hx hb hts hown hK hP dX6_look_248 ?_
      refine lv_aload_n hx hb dX6_look_251 rfl (lv_at hl 1 rfl) ?_
      refine gf_X6_44 hx hb hts hown hK hP dX6_look_252 ?_
      refine lv_iload_n hx hb dX6_look_255 rfl (lv_at hl 3 rfl) ?_
      refine lv_iconst (v := (1 : Int32)) hx hb dX6_look_256 (by decide) ?_
      refine lv_iadd hx hb dX6_look_257 ?_
      obtain ⟨hi51, hf⟩ := gd_so hf
      refine W_iald hx hb hK hP 8 (by decide) cm_8 (ix_in hi51) dX6_look_258 ?_
      obtain ⟨hi52, hf⟩ := gd_so hf
      refine W_iald hx hb hK hP 2 (by decide) cm_2 (ix_in hi52) dX6_look_259 ?_
      obtain ⟨r54, q53, hf⟩ := bd_so hf
      refine cl_i (va_runV (As := [.int (sg 3 (sg 8 v3.toNatClampNeg).toNatClampNeg), .int (sg 2 (sg 8 (v3 + (1 : Int32)).toNatClampNeg).toNatClampNeg)]) (rest := []) ⟨hx, hb, hml, hown, hts⟩ (c_X6_way l g ad X _ sg (sg 3 (sg 8 v3.toNatClampNeg).toNatClampNeg) (sg 2 (sg 8 (v3 + (1 : Int32)).toNatClampNeg).toNatClampNeg) r54 q53) (cwV 2 hts gl_X6_110 rfl rfl rfl yd_X6_way ⟨Nat.le_of_ble_eq_true rfl, Nat.le_of_ble_eq_true rfl⟩) (preV_of hK hP (hD sg) (dd_at (by decide) cm_0) rfl) rfl rfl hl.1 rfl (lv_room (Nat.le_of_ble_eq_true rfl)) dX6_look_260 ⟨Nat.le_of_ble_eq_true rfl, Nat.le_of_ble_eq_true rfl⟩) hS (fun q h => dd_A_mono hS.1 h) (fun q h => dd_A_mono hS.1 h) (fun H locs hP hS => ?_)
      exact hL_263 k_160 hk_160 sg v2 v3 t0 r54 _ _ _ hf hP hS (lv_sub hl [1, 2, 3, 0] rfl)
    · have hf := if_f c48 hf
      refine lv_aload_n hx hb dX6_look_216 rfl (lv_at hl 1 rfl) ?_
      refine lv_aload_n hx hb dX6_look_217 rfl (lv_at hl 1 rfl) ?_
      refine gf_X6_16 hx hb hts hown hK hP dX6_look_218 ?_
      refine lv_aload_n hx hb dX6_look_221 rfl (lv_at hl 1 rfl) ?_
      refine gf_X6_44 hx hb hts hown hK hP dX6_look_222 ?_
      refine lv_iload_n hx hb dX6_look_225 rfl (lv_at hl 3 rfl) ?_
      obtain ⟨hi55, hf⟩ := gd_so hf
      refine W_iald hx hb hK hP 8 (by decide) cm_8 (ix_in hi55) dX6_look_226 ?_
      obtain ⟨hi56, hf⟩ := gd_so hf
      refine W_iald hx hb hK hP 3 (by decide) cm_3 (ix_in hi56) dX6_look_227 ?_
      refine lv_iconst (v := (0 : Int32)) hx hb dX6_look_228 (by decide) ?_
      obtain ⟨r58, q57, hf⟩ := bd_so hf
      refine cl_i (va_runV (As := [.int (sg 3 (sg 8 v3.toNatClampNeg).toNatClampNeg), .int (0 : Int32)]) (rest := []) ⟨hx, hb, hml, hown, hts⟩ (c_X6_way l g ad X _ sg (sg 3 (sg 8 v3.toNatClampNeg).toNatClampNeg) (0 : Int32) r58 q57) (cwV 2 hts gl_X6_110 rfl rfl rfl yd_X6_way ⟨Nat.le_of_ble_eq_true rfl, Nat.le_of_ble_eq_true rfl⟩) (preV_of hK hP (hD sg) (dd_at (by decide) cm_0) rfl) rfl rfl hl.1 rfl (lv_room (Nat.le_of_ble_eq_true rfl)) dX6_look_229 ⟨Nat.le_of_ble_eq_true rfl, Nat.le_of_ble_eq_true rfl⟩) hS (fun q h => dd_A_mono hS.1 h) (fun q h => dd_A_mono hS.1 h) (fun H locs hP hS => ?_)
      refine lv_goto (tgt := 263) hx hb dX6_look_232 (by decide) ?_
      exact hL_263 k_160 hk_160 sg v2 v3 t0 r58 _ _ _ hf hP hS (lv_sub hl [1, 2, 3, 0] rfl)
  have hL_478 : ∀ (sg : dd_S) (t0 : Int32) (H : Heap) (locs : List Loc) (ls : Array Slot), f_X6_look_478 a1 sg t0 = some (r0, s0) → va_P g.1 vwCl (WM g ad sg ++ X) H → va_S (dd_A 9 ad X s.heap.size) s.heap H locs → lv_has ls 8 [(0, .ref (ad 0))] → W p l e (headSpec (lw_ws yX6_look cX6_look 8 (some .boolean)) ({ frames := 1, cells := 0, slots := 0, locals := 23 } : Room)).room s m ([.ref (ad 0), .int a1] : List Value).toArray below meth c H locs 0 0 (MQ below (QI g (WM g ad s0 ++ X) (dd_A 9 ad X s.heap.size) r0) ([.ref (ad 0), .int a1] : List Value).toArray s 0 0 (dd_A 9 ad X s.heap.size)) (F0 m 478 ls [.int t0, .ref (ad 0)]) := by
    intro sg t0 H locs ls hf hP hS hl
    unfold f_X6_look_478 at hf
    obtain ⟨hz45, hf⟩ := gd_so hf
    obtain ⟨sg46, esg46, hf⟩ := lt_ex hf
    refine pf_X6_106 hx hb hts hown hK hP hD hS hz45 dX6_look_478 (fun H locs hP hS => ?_)
    rw [← esg46] at hP
    refine lv_aload_n hx hb dX6_look_481 rfl (lv_at hl 0 rfl) ?_
    refine gf_X6_106 hx hb hts hown hK hP dX6_look_482 ?_
    obtain ⟨hz47, hf⟩ := gd_so hf
    exact W.zret (v := (sg46 0 23)) hx hb hr (bz_z hz47) (fun t ht hW => ⟨⟨(sg46 0 23), (), rfl, (so2 hf).1, P_at2 (so2 hf).2 ht hP⟩, hS.F ht⟩) hS.2.2 dX6_look_485
  have hL_477 : ∀ (sg : dd_S) (H : Heap) (locs : List Loc) (ls : Array Slot), f_X6_look_477 a1 sg = some (r0, s0) → va_P g.1 vwCl (WM g ad sg ++ X) H → va_S (dd_A 9 ad X s.heap.size) s.heap H locs → lv_has ls 8 [(0, .ref (ad 0))] → W p l e (headSpec (lw_ws yX6_look cX6_look 8 (some .boolean)) ({ frames := 1, cells := 0, slots := 0, locals := 23 } : Room)).room s m ([.ref (ad 0), .int a1] : List Value).toArray below meth c H locs 0 0 (MQ below (QI g (WM g ad s0 ++ X) (dd_A 9 ad X s.heap.size) r0) ([.ref (ad 0), .int a1] : List Value).toArray s 0 0 (dd_A 9 ad X s.heap.size)) (F0 m 477 ls [.ref (ad 0)]) := by
    intro sg H locs ls hf hP hS hl
    unfold f_X6_look_477 at hf
    refine lv_iconst (v := (0 : Int32)) hx hb dX6_look_477 (by decide) ?_
    exact hL_478 sg (0 : Int32) _ _ _ hf hP hS (lv_sub hl [0] rfl)
  have hL_160 : ∀ (n : Nat), ∀ (sg : dd_S) (v2 : Int32) (v3 : Int32) (H : Heap) (locs : List Loc) (ls : Array Slot), f_X6_look_160 a1 n sg v2 v3 = some (r0, s0) → va_P g.1 vwCl (WM g ad sg ++ X) H → va_S (dd_A 9 ad X s.heap.size) s.heap H locs → lv_has ls 8 [(0, .ref (ad 0)), (2, .int v2), (3, .int v3)] → W p l e (headSpec (lw_ws yX6_look cX6_look 8 (some .boolean)) ({ frames := 1, cells := 0, slots := 0, locals := 23 } : Room)).room s m ([.ref (ad 0), .int a1] : List Value).toArray below meth c H locs 0 0 (MQ below (QI g (WM g ad s0 ++ X) (dd_A 9 ad X s.heap.size) r0) ([.ref (ad 0), .int a1] : List Value).toArray s 0 0 (dd_A 9 ad X s.heap.size)) (F0 m 160 ls []) := by
    intro n
    induction n with
    | zero =>
      intro sg v2 v3 H locs ls hf
      rw [f_X6_look_160] at hf
      cases hf
    | succ n ih =>
      intro sg v2 v3 H locs ls hf hP hS hl
      rw [f_X6_look_160] at hf
      refine lv_iload_n hx hb dX6_look_160 rfl (lv_at hl 2 rfl) ?_
      refine lv_aload_n hx hb dX6_look_161 rfl (lv_at hl 0 rfl) ?_
      refine gf_X6_81 hx hb hts hown hK hP dX6_look_162 ?_
      refine lv_icmp_ge (tgt := 397) hx hb dX6_look_165 (by decide) (fun c30 => ?_) (fun c30 => ?_)
      · have hf := if_t c30 hf
        refine lv_aload_n hx hb dX6_look_397 rfl (lv_at hl 0 rfl) ?_
        refine lv_aload_n hx hb dX6_look_398 rfl (lv_at hl 0 rfl) ?_
        refine gf_X6_103 hx hb hts hown hK hP dX6_look_399 ?_
        refine lv_iload_n hx hb dX6_look_402 rfl (lv_at hl 1 rfl) ?_
        refine va_mmax hx hb (hml.trans hl.1.symm) hown (hts _ qw_300) (hts _ qw_301) (hts _ qw_302) (hts _ qw_303) (Nat.le_of_ble_eq_true rfl) (Nat.le_of_ble_eq_true rfl) (Nat.le_of_ble_eq_true rfl) (Nat.le_of_ble_eq_true rfl) dX6_look_403 ?_
        refine lv_topi (fun x31 ex31 => ?_)
        have hf := lt_so ex31 hf
        obtain ⟨sg32, esg32, hf⟩ := lt_ex hf
        refine pf_X6_103 hx hb hts hown hK hP hD hS dX6_look_406 (fun H locs hP hS => ?_)
        rw [← esg32] at hP
        refine lv_aload_n hx hb dX6_look_409 rfl (lv_at hl 0 rfl) ?_
        refine lv_sipush (v := (360 : Int32)) hx hb dX6_look_410 (by decide) ?_
        refine lv_aload_n hx hb dX6_look_413 rfl (lv_at hl 0 rfl) ?_
        refine gf_X6_94 hx hb hts hown hK hP dX6_look_414 ?_
        refine va_mmax hx hb (hml.trans hl.1.symm) hown (hts _ qw_300) (hts _ qw_301) (hts _ qw_302) (hts _ qw_303) (Nat.le_of_ble_eq_true rfl) (Nat.le_of_ble_eq_true rfl) (Nat.le_of_ble_eq_true rfl) (Nat.le_of_ble_eq_true rfl) dX6_look_417 ?_
        refine lv_topi (fun x33 ex33 => ?_)
        have hf := lt_so ex33 hf
        refine lv_iconst (v := (0 : Int32)) hx hb dX6_look_420 (by decide) ?_
        refine lv_aload_n hx hb dX6_look_421 rfl (lv_at hl 0 rfl) ?_
        refine gf_X6_94 hx hb hts hown hK hP dX6_look_422 ?_
        refine lv_sipush (v := (480 : Int32)) hx hb dX6_look_425 (by decide) ?_
        refine lv_isub hx hb dX6_look_428 ?_
        refine va_mmax hx hb (hml.trans hl.1.symm) hown (hts _ qw_300) (hts _ qw_301) (hts _ qw_302) (hts _ qw_303) (Nat.le_of_ble_eq_true rfl) (Nat.le_of_ble_eq_true rfl) (Nat.le_of_ble_eq_true rfl) (Nat.le_of_ble_eq_true rfl) dX6_look_429 ?_
        refine lv_topi (fun x34 ex34 => ?_)
        have hf := lt_so ex34 hf
        refine lv_iconst (v := (2 : Int32)) hx hb dX6_look_432 (by decide) ?_
        refine lv_idiv hx hb dX6_look_433 (by decide) ?_
        refine lv_iadd hx hb dX6_look_434 ?_
        obtain ⟨sg35, esg35, hf⟩ := lt_ex hf
        refine pf_X6_97 hx hb hts hown hK hP hD hS dX6_look_435 (fun H locs hP hS => ?_)
        rw [← esg35] at hP
        refine lv_aload_n hx hb dX6_look_438 rfl (lv_at hl 0 rfl) ?_
        refine lv_aload_n hx hb dX6_look_439 rfl (lv_at hl 0 rfl) ?_
        refine gf_X6_106 hx hb hts hown hK hP dX6_look_440 ?_
        refine lv_if_eq (tgt := 477) hx hb dX6_look_443 (by decide) (fun c36 => ?_) (fun c36 => ?_)
        · have hf := if_t c36 hf
          exact hL_477 sg35 _ _ _ hf hP hS (lv_sub hl [0] rfl)
        · have hf := if_f c36 hf
          refine lv_aload_n hx hb dX6_look_446 rfl (lv_at hl 0 rfl) ?_
          refine gf_X6_103 hx hb hts hown hK hP dX6_look_447 ?_
          refine lv_aload_n hx hb dX6_look_450 rfl (lv_at hl 0 rfl) ?_
          refine gf_X6_31 hx hb hts hown hK hP dX6_look_451 ?_
          refine lv_icmp_gt (tgt := 477) hx hb dX6_look_454 (by decide) (fun c37 => ?_) (fun c37 => ?_)
          · have hf := if_t c37 hf
            exact hL_477 sg35 _ _ _ hf hP hS (lv_sub hl [0] rfl)
          · have hf := if_f c37 hf
            refine lv_aload_n hx hb dX6_look_457 rfl (lv_at hl 0 rfl) ?_
            refine gf_X6_91 hx hb hts hown hK hP dX6_look_458 ?_
            refine lv_aload_n hx hb dX6_look_461 rfl (lv_at hl 0 rfl) ?_
            refine gf_X6_88 hx hb hts hown hK hP dX6_look_462 ?_
            refine lv_isub hx hb dX6_look_465 ?_
            refine lv_aload_n hx hb dX6_look_466 rfl (lv_at hl 0 rfl) ?_
            refine gf_X6_35 hx hb hts hown hK hP dX6_look_467 ?_
            refine lv_icmp_gt (tgt := 477) hx hb dX6_look_470 (by decide) (fun c38 => ?_) (fun c38 => ?_)
            · have hf := if_t c38 hf
              exact hL_477 sg35 _ _ _ hf hP hS (lv_sub hl [0] rfl)
            · have hf := if_f c38 hf
              refine lv_iconst (v := (1 : Int32)) hx hb dX6_look_473 (by decide) ?_
              refine lv_goto (tgt := 478) hx hb dX6_look_474 (by decide) ?_
              exact hL_478 sg35 (1 : Int32) _ _ _ hf hP hS (lv_sub hl [0] rfl)
      · have hf := if_f c30 hf
        refine lv_iload_n hx hb dX6_look_168 rfl (lv_at hl 1 rfl) ?_
        refine lv_aload_n hx hb dX6_look_169 rfl (lv_at hl 0 rfl) ?_
        refine gf_X6_22 hx hb hts hown hK hP dX6_look_170 ?_
        refine lv_aload_n hx hb dX6_look_173 rfl (lv_at hl 0 rfl) ?_
        refine gf_X6_44 hx hb hts hown hK hP dX6_look_174 ?_
        refine lv_iload_n hx hb dX6_look_177 rfl (lv_at hl 2 rfl) ?_
        obtain ⟨hi39, hf⟩ := gd_so hf
        refine W_iald hx hb hK hP 8 (by decide) cm_8 (ix_in hi39) dX6_look_178 ?_
        obtain ⟨hi40, hf⟩ := gd_so hf
        refine W_iald hx hb hK hP 5 (by decide) cm_5 (ix_in hi40) dX6_look_179 ?_
        refine lv_aload_n hx hb dX6_look_180 rfl (lv_at hl 0 rfl) ?_
        refine gf_X6_19 hx hb hts hown hK hP dX6_look_181 ?_
        refine lv_aload_n hx hb dX6_look_184 rfl (lv_at hl 0 rfl) ?_
        refine gf_X6_44 hx hb hts hown hK hP dX6_look_185 ?_
        refine lv_iload_n hx hb dX6_look_188 rfl (lv_at hl 2 rfl) ?_
        obtain ⟨hi41, hf⟩ := gd_so hf
        refine W_iald hx hb hK hP 8 (by decide) cm_8 (ix_in hi41) dX6_look_189 ?_
        obtain ⟨hi42, hf⟩ := gd_so hf
        refine W_iald hx hb hK hP 4 (by decide) cm_4 (ix_in hi42) dX6_look_190 ?_
        refine lv_isub hx hb dX6_look_191 ?_
        refine lv_iadd hx hb dX6_look_192 ?_
        refine lv_topi (fun x43 ex43 => ?_)
        have hf := lt_so ex43 hf
        refine lv_istore_n (lv' := [(2, .int x43), (0, .ref (ad 0)), (3, .int v3)]) hx hb dX6_look_193 rfl hl (by decide) rfl (fun ls hl => ?_)
        refine lv_iload_n hx hb dX6_look_194 rfl (lv_at hl 2 rfl) ?_
        refine lv_aload_n hx hb dX6_look_195 rfl (lv_at hl 1 rfl) ?_
        refine gf_X6_81 hx hb hts hown hK hP dX6_look_196 ?_
        refine lv_iconst (v := (1 : Int32)) hx hb dX6_look_199 (by decide) ?_
        refine lv_isub hx hb dX6_look_200 ?_
        refine lv_icmp_ne (tgt := 208) hx hb dX6_look_201 (by decide) (fun c44 => ?_) (fun c44 => ?_)
        · have hf := if_f c44 hf
          refine lv_iconst (v := (0 : Int32)) hx hb dX6_look_208 (by decide) ?_
          exact hL_209 (fun zs z0 z1 => f_X6_look_160 a1 n zs z0 z1) ih sg x43 v3 (0 : Int32) _ _ _ hf hP hS (lv_sub hl [1, 0, 2] rfl)
        · have hf := if_t c44 hf
          refine lv_iconst (v := (1 : Int32)) hx hb dX6_look_204 (by decide) ?_
          refine lv_goto (tgt := 209) hx hb dX6_look_205 (by decide) ?_
          exact hL_209 (fun zs z0 z1 => f_X6_look_160 a1 n zs z0 z1) ih sg x43 v3 (1 : Int32) _ _ _ hf hP hS (lv_sub hl [1, 0, 2] rfl)
  unfold f_X6_look at hf
  have hl := lv_entry ([.ref (ad 0), .int a1]) (n := 8) (Nat.le_of_ble_eq_true rfl)
  rw [lg_entry_eq]
  generalize (lg_sl ([.ref (ad 0), .int a1]) ++ List.replicate (8 - (lg_sl ([.ref (ad 0), .int a1])).length) Slot.unset).toArray = ls at hl ⊢
  have hl : lv_has ls 8 [(0, .ref (ad 0)), (1, .int a1)] := hl
  refine lv_aload_n hx hb dX6_look_0 rfl (lv_at hl 0 rfl) ?_
  refine lv_iload_n hx hb dX6_look_1 rfl (lv_at hl 1 rfl) ?_
  obtain ⟨sg2, q1, hf⟩ := bd_so hf
  refine cl_v (va_runV (As := [.int a1]) (rest := []) ⟨hx, hb, hml, hown, hts⟩ (c_X6_sort l g ad X _ sg a1 sg2 q1) (cwV 1 hts gl_X6_84 rfl rfl rfl yd_X6_sort ⟨Nat.le_of_ble_eq_true rfl, Nat.le_of_ble_eq_true rfl⟩) (preV_of hK hP (hD sg) (dd_at (by decide) cm_0) rfl) rfl rfl hl.1 rfl (lv_room (Nat.le_of_ble_eq_true rfl)) dX6_look_2 ⟨Nat.le_of_ble_eq_true rfl, Nat.le_of_ble_eq_true rfl⟩) hS (fun q h => dd_A_mono hS.1 h) (fun q h => dd_A_mono hS.1 h) (fun H locs hP hS => ?_)
  refine lv_aload_n hx hb dX6_look_5 rfl (lv_at hl 0 rfl) ?_
  refine lv_iconst (v := (0 : Int32)) hx hb dX6_look_6 (by decide) ?_
  obtain ⟨sg3, esg3, hf⟩ := lt_ex hf
  refine pf_X6_88 hx hb hts hown hK hP hD hS dX6_look_7 (fun H locs hP hS => ?_)
  rw [← esg3] at hP
  refine lv_aload_n hx hb dX6_look_10 rfl (lv_at hl 0 rfl) ?_
  refine lv_iconst (v := (0 : Int32)) hx hb dX6_look_11 (by decide) ?_
  obtain ⟨sg4, esg4, hf⟩ := lt_ex hf
  refine pf_X6_91 hx hb hts hown hK hP hD hS dX6_look_12 (fun H locs hP hS => ?_)
  rw [← esg4] at hP
  refine lv_aload_n hx hb dX6_look_15 rfl (lv_at hl 0 rfl) ?_
  refine lv_iconst (v := (0 : Int32)) hx hb dX6_look_16 (by decide) ?_
  obtain ⟨sg5, esg5, hf⟩ := lt_ex hf
  refine pf_X6_94 hx hb hts hown hK hP hD hS dX6_look_17 (fun H locs hP hS => ?_)
  rw [← esg5] at hP
  refine lv_aload_n hx hb dX6_look_20 rfl (lv_at hl 0 rfl) ?_
  refine lv_iconst (v := (0 : Int32)) hx hb dX6_look_21 (by decide) ?_
  obtain ⟨sg6, esg6, hf⟩ := lt_ex hf
  refine pf_X6_97 hx hb hts hown hK hP hD hS dX6_look_22 (fun H locs hP hS => ?_)
  rw [← esg6] at hP
  refine lv_aload_n hx hb dX6_look_25 rfl (lv_at hl 0 rfl) ?_
  refine lv_iconst (v := (0 : Int32)) hx hb dX6_look_26 (by decide) ?_
  obtain ⟨sg7, esg7, hf⟩ := lt_ex hf
  refine pf_X6_100 hx hb hts hown hK hP hD hS dX6_look_27 (fun H locs hP hS => ?_)
  rw [← esg7] at hP
  refine lv_aload_n hx hb dX6_look_30 rfl (lv_at hl 0 rfl) ?_
  refine lv_iconst (v := (0 : Int32)) hx hb dX6_look_31 (by decide) ?_
  obtain ⟨sg8, esg8, hf⟩ := lt_ex hf
  refine pf_X6_103 hx hb hts hown hK hP hD hS dX6_look_32 (fun H locs hP hS => ?_)
  rw [← esg8] at hP
  refine lv_aload_n hx hb dX6_look_35 rfl (lv_at hl 0 rfl) ?_
  refine lv_iconst (v := (1 : Int32)) hx hb dX6_look_36 (by decide) ?_
  obtain ⟨sg9, esg9, hf⟩ := lt_ex hf
  refine pf_X6_106 hx hb hts hown hK hP hD hS (by decide) dX6_look_37 (fun H locs hP hS => ?_)
  rw [← esg9] at hP
  refine lv_aload_n hx hb dX6_look_40 rfl (lv_at hl 0 rfl) ?_
  refine gf_X6_81 hx hb hts hown hK hP dX6_look_41 ?_
  refine lv_if_ne (tgt := 49) hx hb dX6_look_44 (by decide) (fun c10 => ?_) (fun c10 => ?_)
  · have hf := if_f c10 hf
    refine lv_aload_n hx hb dX6_look_49 rfl (lv_at hl 0 rfl) ?_
    refine lv_aload_n hx hb dX6_look_50 rfl (lv_at hl 0 rfl) ?_
    refine gf_X6_19 hx hb hts hown hK hP dX6_look_51 ?_
    refine lv_aload_n hx hb dX6_look_54 rfl (lv_at hl 0 rfl) ?_
    refine gf_X6_44 hx hb hts hown hK hP dX6_look_55 ?_
    refine lv_iconst (v := (0 : Int32)) hx hb dX6_look_58 (by decide) ?_
    obtain ⟨hi11, hf⟩ := gd_so hf
    refine W_iald hx hb hK hP 8 (by decide) cm_8 (ix_in hi11) dX6_look_59 ?_
    obtain ⟨hi12, hf⟩ := gd_so hf
    refine W_iald hx hb hK hP 4 (by decide) cm_4 (ix_in hi12) dX6_look_60 ?_
    refine lv_aload_n hx hb dX6_look_61 rfl (lv_at hl 0 rfl) ?_
    refine lv_iconst (v := (0 : Int32)) hx hb dX6_look_62 (by decide) ?_
    refine lv_aload_n hx hb dX6_look_63 rfl (lv_at hl 0 rfl) ?_
    refine gf_X6_13 hx hb hts hown hK hP dX6_look_64 ?_
    refine lv_aload_n hx hb dX6_look_67 rfl (lv_at hl 0 rfl) ?_
    refine gf_X6_44 hx hb hts hown hK hP dX6_look_68 ?_
    refine lv_iconst (v := (0 : Int32)) hx hb dX6_look_71 (by decide) ?_
    obtain ⟨hi13, hf⟩ := gd_so hf
    refine W_iald hx hb hK hP 8 (by decide) cm_8 (ix_in hi13) dX6_look_72 ?_
    obtain ⟨hi14, hf⟩ := gd_so hf
    refine W_iald hx hb hK hP 2 (by decide) cm_2 (ix_in hi14) dX6_look_73 ?_
    obtain ⟨r16, q15, hf⟩ := bd_so hf
    refine cl_i (va_runV (As := [.int (0 : Int32), .int (sg9 2 (sg9 8 (0 : Int32).toNatClampNeg).toNatClampNeg)]) (rest := [.int (sg9 4 (sg9 8 (0 : Int32).toNatClampNeg).toNatClampNeg), .ref (ad 0)]) ⟨hx, hb, hml, hown, hts⟩ (c_X6_way l g ad X _ sg9 (0 : Int32) (sg9 2 (sg9 8 (0 : Int32).toNatClampNeg).toNatClampNeg) r16 q15) (cwV 2 hts gl_X6_110 rfl rfl rfl yd_X6_way ⟨Nat.le_of_ble_eq_true rfl, Nat.le_of_ble_eq_true rfl⟩) (preV_of hK hP (hD sg9) (dd_at (by decide) cm_0) rfl) rfl rfl hl.1 rfl (lv_room (Nat.le_of_ble_eq_true rfl)) dX6_look_74 ⟨Nat.le_of_ble_eq_true rfl, Nat.le_of_ble_eq_true rfl⟩) hS (fun q h => dd_A_mono hS.1 h) (fun q h => dd_A_mono hS.1 h) (fun H locs hP hS => ?_)
    refine lv_isub hx hb dX6_look_77 ?_
    refine lv_bipush (v := (10 : Int32)) hx hb dX6_look_78 (by decide) ?_
    refine lv_isub hx hb dX6_look_80 ?_
    obtain ⟨sg17, esg17, hf⟩ := lt_ex hf
    refine pf_X6_88 hx hb hts hown hK hP hD hS dX6_look_81 (fun H locs hP hS => ?_)
    rw [← esg17] at hP
    refine lv_aload_n hx hb dX6_look_84 rfl (lv_at hl 0 rfl) ?_
    refine lv_aload_n hx hb dX6_look_85 rfl (lv_at hl 0 rfl) ?_
    refine gf_X6_22 hx hb hts hown hK hP dX6_look_86 ?_
    refine lv_aload_n hx hb dX6_look_89 rfl (lv_at hl 0 rfl) ?_
    refine gf_X6_44 hx hb hts hown hK hP dX6_look_90 ?_
    refine lv_aload_n hx hb dX6_look_93 rfl (lv_at hl 0 rfl) ?_
    refine gf_X6_81 hx hb hts hown hK hP dX6_look_94 ?_
    refine lv_iconst (v := (1 : Int32)) hx hb dX6_look_97 (by decide) ?_
    refine lv_isub hx hb dX6_look_98 ?_
    obtain ⟨hi18, hf⟩ := gd_so hf
    refine W_iald hx hb hK hP 8 (by decide) cm_8 (ix_in hi18) dX6_look_99 ?_
    obtain ⟨hi19, hf⟩ := gd_so hf
    refine W_iald hx hb hK hP 5 (by decide) cm_5 (ix_in hi19) dX6_look_100 ?_
    refine lv_aload_n hx hb dX6_look_101 rfl (lv_at hl 0 rfl) ?_
    refine lv_aload_n hx hb dX6_look_102 rfl (lv_at hl 0 rfl) ?_
    refine gf_X6_16 hx hb hts hown hK hP dX6_look_103 ?_
    refine lv_aload_n hx hb dX6_look_106 rfl (lv_at hl 0 rfl) ?_
    refine gf_X6_44 hx hb hts hown hK hP dX6_look_107 ?_
    refine lv_aload_n hx hb dX6_look_110 rfl (lv_at hl 0 rfl) ?_
    refine gf_X6_81 hx hb hts hown hK hP dX6_look_111 ?_
    refine lv_iconst (v := (1 : Int32)) hx hb dX6_look_114 (by decide) ?_
    refine lv_isub hx hb dX6_look_115 ?_
    obtain ⟨hi20, hf⟩ := gd_so hf
    refine W_iald hx hb hK hP 8 (by decide) cm_8 (ix_in hi20) dX6_look_116 ?_
    obtain ⟨hi21, hf⟩ := gd_so hf
    refine W_iald hx hb hK hP 3 (by decide) cm_3 (ix_in hi21) dX6_look_117 ?_
    refine lv_iconst (v := (0 : Int32)) hx hb dX6_look_118 (by decide) ?_
    obtain ⟨r23, q22, hf⟩ := bd_so hf
    refine cl_i (va_runV (As := [.int (sg17 3 (sg17 8 ((sg17 0 16) - (1 : Int32)).toNatClampNeg).toNatClampNeg), .int (0 : Int32)]) (rest := [.int (sg17 5 (sg17 8 ((sg17 0 16) - (1 : Int32)).toNatClampNeg).toNatClampNeg), .ref (ad 0)]) ⟨hx, hb, hml, hown, hts⟩ (c_X6_way l g ad X _ sg17 (sg17 3 (sg17 8 ((sg17 0 16) - (1 : Int32)).toNatClampNeg).toNatClampNeg) (0 : Int32) r23 q22) (cwV 2 hts gl_X6_110 rfl rfl rfl yd_X6_way ⟨Nat.le_of_ble_eq_true rfl, Nat.le_of_ble_eq_true rfl⟩) (preV_of hK hP (hD sg17) (dd_at (by decide) cm_0) rfl) rfl rfl hl.1 rfl (lv_room (Nat.le_of_ble_eq_true rfl)) dX6_look_119 ⟨Nat.le_of_ble_eq_true rfl, Nat.le_of_ble_eq_true rfl⟩) hS (fun q h => dd_A_mono hS.1 h) (fun q h => dd_A_mono hS.1 h) (fun H locs hP hS => ?_)
    refine lv_iadd hx hb dX6_look_122 ?_
    refine lv_iconst (v := (5 : Int32)) hx hb dX6_look_123 (by decide) ?_
    refine lv_iadd hx hb dX6_look_124 ?_
    obtain ⟨sg24, esg24, hf⟩ := lt_ex hf
    refine pf_X6_91 hx hb hts hown hK hP hD hS dX6_look_125 (fun H locs hP hS => ?_)
    rw [← esg24] at hP
    refine lv_aload_n hx hb dX6_look_128 rfl (lv_at hl 0 rfl) ?_
    refine lv_aload_n hx hb dX6_look_129 rfl (lv_at hl 0 rfl) ?_
    refine gf_X6_91 hx hb hts hown hK hP dX6_look_130 ?_
    refine lv_aload_n hx hb dX6_look_133 rfl (lv_at hl 0 rfl) ?_
    refine gf_X6_88 hx hb hts hown hK hP dX6_look_134 ?_
    refine lv_isub hx hb dX6_look_137 ?_
    obtain ⟨sg25, esg25, hf⟩ := lt_ex hf
    refine pf_X6_94 hx hb hts hown hK hP hD hS dX6_look_138 (fun H locs hP hS => ?_)
    rw [← esg25] at hP
    refine lv_aload_n hx hb dX6_look_141 rfl (lv_at hl 0 rfl) ?_
    refine lv_iconst (v := (0 : Int32)) hx hb dX6_look_142 (by decide) ?_
    refine lv_aload_n hx hb dX6_look_143 rfl (lv_at hl 0 rfl) ?_
    refine gf_X6_13 hx hb hts hown hK hP dX6_look_144 ?_
    refine lv_aload_n hx hb dX6_look_147 rfl (lv_at hl 0 rfl) ?_
    refine gf_X6_44 hx hb hts hown hK hP dX6_look_148 ?_
    refine lv_iconst (v := (0 : Int32)) hx hb dX6_look_151 (by decide) ?_
    obtain ⟨hi26, hf⟩ := gd_so hf
    refine W_iald hx hb hK hP 8 (by decide) cm_8 (ix_in hi26) dX6_look_152 ?_
    obtain ⟨hi27, hf⟩ := gd_so hf
    refine W_iald hx hb hK hP 2 (by decide) cm_2 (ix_in hi27) dX6_look_153 ?_
    obtain ⟨r29, q28, hf⟩ := bd_so hf
    refine cl_i (va_runV (As := [.int (0 : Int32), .int (sg25 2 (sg25 8 (0 : Int32).toNatClampNeg).toNatClampNeg)]) (rest := []) ⟨hx, hb, hml, hown, hts⟩ (c_X6_way l g ad X _ sg25 (0 : Int32) (sg25 2 (sg25 8 (0 : Int32).toNatClampNeg).toNatClampNeg) r29 q28) (cwV 2 hts gl_X6_110 rfl rfl rfl yd_X6_way ⟨Nat.le_of_ble_eq_true rfl, Nat.le_of_ble_eq_true rfl⟩) (preV_of hK hP (hD sg25) (dd_at (by decide) cm_0) rfl) rfl rfl hl.1 rfl (lv_room (Nat.le_of_ble_eq_true rfl)) dX6_look_154 ⟨Nat.le_of_ble_eq_true rfl, Nat.le_of_ble_eq_true rfl⟩) hS (fun q h => dd_A_mono hS.1 h) (fun q h => dd_A_mono hS.1 h) (fun H locs hP hS => ?_)
    refine lv_istore_n (lv' := [(2, .int r29), (0, .ref (ad 0)), (1, .int a1)]) hx hb dX6_look_157 rfl hl (by decide) rfl (fun ls hl => ?_)
    refine lv_iconst (v := (0 : Int32)) hx hb dX6_look_158 (by decide) ?_
    refine lv_istore_n (lv' := [(3, .int (0 : Int32)), (2, .int r29), (0, .ref (ad 0)), (1, .int a1)]) hx hb dX6_look_159 rfl hl (by decide) rfl (fun ls hl => ?_)
    exact hL_160 64 sg25 r29 (0 : Int32) _ _ _ hf hP hS (lv_sub hl [2, 1, 0] rfl)
  · have hf := if_t c10 hf
    refine lv_iconst (v := (1 : Int32)) hx hb dX6_look_47 (by decide) ?_
    exact W.zret (v := (1 : Int32)) hx hb hr rfl (fun t ht hW => ⟨⟨(1 : Int32), (), rfl, (so2 hf).1, P_at2 (so2 hf).2 ht hP⟩, hS.F ht⟩) hS.2.2 dX6_look_48
set_option maxHeartbeats 4000000 in
set_option maxRecDepth 100000 in
theorem c_X6_payOf (l : Launch) (g : dd_G) (ad : Nat → Nat) (X : va_W) (sz : Nat) (sg : dd_S) (a1 : Int32) (r0 : Int32) (s0 : dd_S) (hf : f_X6_payOf sg a1 = some (r0, s0)) : Met l yX6_payOf (lw_ws yX6_payOf cX6_payOf 2 (some .int)) ({ frames := 2, cells := 0, slots := 0, locals := 50 } : Room) (va_Pc [.ref (ad 0), .int a1] (PreW g (WM g ad sg ++ X) sz)) (QI g (WM g ad s0 ++ X) (dd_A 9 ad X sz) r0) 0 0 (dd_A 9 ad X sz) := by
  refine Met.ofW (cc := cX6_payOf) (maxL := 2) (ret := some .int) (by decide) rfl ?_
  intro p e s m args below meth c s₁ B hml hv
  obtain ⟨rfl, rfl, hP, hK, hD0⟩ := hv
  have hx := B.exec
  have hb := B.bytes
  have hr := B.returns
  have hts := atoms_spec (ws := (lw_ws yX6_payOf cX6_payOf 2 (some .int))) B.pre
  have hts : ∀ w ∈ lw_all, w.before _ s = true := fun w h => hts w (List.mem_cons_of_mem _ h)
  have hown : s.vm.findClass RX6 = some m.cls := findClass_of_methodNamed B.named
  have hlocks := B.notSynchronized
  have hD : ∀ s2 : dd_S, va_D (dd_A 9 ad X s.heap.size) (WM g ad s2 ++ X) := fun s2 => dd_D (dd_A_D hD0)
  have hS : va_S (dd_A 9 ad X s.heap.size) s.heap s.heap [] := va_S.rf
  unfold f_X6_payOf at hf
  have hl := lv_entry ([.ref (ad 0), .int a1]) (n := 2) (Nat.le_of_ble_eq_true rfl)
  rw [lg_entry_eq]
  generalize (lg_sl ([.ref (ad 0), .int a1]) ++ List.replicate (2 - (lg_sl ([.ref (ad 0), .int a1])).length) Slot.unset).toArray = ls at hl ⊢
  have hl : lv_has ls 2 [(0, .ref (ad 0)), (1, .int a1)] := hl
  refine lv_aload_n hx hb dX6_payOf_0 rfl (lv_at hl 0 rfl) ?_
  refine lv_iload_n hx hb dX6_payOf_1 rfl (lv_at hl 1 rfl) ?_
  obtain ⟨r3, sg2, q1, hf⟩ := bd2_so hf
  refine cl_i (va_runV (As := [.int a1]) (rest := []) ⟨hx, hb, hml, hown, hts⟩ (c_X6_look l g ad X _ sg a1 r3 sg2 q1) (cwV 1 hts gl_X6_71 rfl rfl rfl yd_X6_look ⟨Nat.le_of_ble_eq_true rfl, Nat.le_of_ble_eq_true rfl⟩) (preV_of hK hP (hD sg) (dd_at (by decide) cm_0) rfl) rfl rfl hl.1 rfl (lv_room (Nat.le_of_ble_eq_true rfl)) dX6_payOf_2 ⟨Nat.le_of_ble_eq_true rfl, Nat.le_of_ble_eq_true rfl⟩) hS (fun q h => dd_A_mono hS.1 h) (fun q h => dd_A_mono hS.1 h) (fun H locs hP hS => ?_)
  refine lv_pop hx hb dX6_payOf_5 rfl ?_
  refine lv_aload_n hx hb dX6_payOf_6 rfl (lv_at hl 0 rfl) ?_
  refine gf_X6_97 hx hb hts hown hK hP dX6_payOf_7 ?_
  exact W.iret (v := (sg2 0 20)) hx hb hr (fun t ht hW => ⟨⟨(sg2 0 20), (), rfl, (so2 hf).1, P_at2 (so2 hf).2 ht hP⟩, hS.F ht⟩) hS.2.2 dX6_payOf_10
set_option maxHeartbeats 4000000 in
set_option maxRecDepth 100000 in
theorem c_X6_freeTrips (l : Launch) (g : dd_G) (ad : Nat → Nat) (X : va_W) (sz : Nat) (sg : dd_S) (r0 : Int32) (hf : f_X6_freeTrips sg = some (r0)) : Met l yX6_freeTrips (lw_ws yX6_freeTrips cX6_freeTrips 3 (some .int)) ({ frames := 0, cells := 0, slots := 0, locals := 0 } : Room) (va_Pc [.ref (ad 0)] (PreW g (WM g ad sg ++ X) sz)) (QI g (WM g ad sg ++ X) (dd_A 9 ad X sz) r0) 0 0 (dd_A 9 ad X sz) := by
  refine Met.ofW (cc := cX6_freeTrips) (maxL := 3) (ret := some .int) (by decide) rfl ?_
  intro p e s m args below meth c s₁ B hml hv
  obtain ⟨rfl, rfl, hP, hK, hD0⟩ := hv
  have hx := B.exec
  have hb := B.bytes
  have hr := B.returns
  have hts := atoms_spec (ws := (lw_ws yX6_freeTrips cX6_freeTrips 3 (some .int))) B.pre
  have hts : ∀ w ∈ lw_all, w.before _ s = true := fun w h => hts w (List.mem_cons_of_mem _ h)
  have hown : s.vm.findClass RX6 = some m.cls := findClass_of_methodNamed B.named
  have hlocks := B.notSynchronized
  have hD : ∀ s2 : dd_S, va_D (dd_A 9 ad X s.heap.size) (WM g ad s2 ++ X) := fun s2 => dd_D (dd_A_D hD0)
  have hS : va_S (dd_A 9 ad X s.heap.size) s.heap s.heap [] := va_S.rf
  have hL_28 : ∀ (k_4 : Int32 → Int32 → Option (Int32)) (hk_4 : ∀ (v1 : Int32) (v2 : Int32) (H : Heap) (locs : List Loc) (ls : Array Slot), k_4 v1 v2 = some (r0) → va_P g.1 vwCl (WM g ad sg ++ X) H → va_S (dd_A 9 ad X s.heap.size) s.heap H locs → lv_has ls 3 [(0, .ref (ad 0)), (1, .int v1), (2, .int v2)] → W p l e (headSpec (lw_ws yX6_freeTrips cX6_freeTrips 3 (some .int)) ({ frames := 0, cells := 0, slots := 0, locals := 0 } : Room)).room s m ([.ref (ad 0)] : List Value).toArray below meth c H locs 0 0 (MQ below (QI g (WM g ad sg ++ X) (dd_A 9 ad X s.heap.size) r0) ([.ref (ad 0)] : List Value).toArray s 0 0 (dd_A 9 ad X s.heap.size)) (F0 m 4 ls [])), ∀ (v2 : Int32) (t0 : Int32) (t1 : Int32) (H : Heap) (locs : List Loc) (ls : Array Slot), f_X6_freeTrips_28 sg k_4 v2 t0 t1 = some (r0) → va_P g.1 vwCl (WM g ad sg ++ X) H → va_S (dd_A 9 ad X s.heap.size) s.heap H locs → lv_has ls 3 [(0, .ref (ad 0)), (2, .int v2)] → W p l e (headSpec (lw_ws yX6_freeTrips cX6_freeTrips 3 (some .int)) ({ frames := 0, cells := 0, slots := 0, locals := 0 } : Room)).room s m ([.ref (ad 0)] : List Value).toArray below meth c H locs 0 0 (MQ below (QI g (WM g ad sg ++ X) (dd_A 9 ad X s.heap.size) r0) ([.ref (ad 0)] : List Value).toArray s 0 0 (dd_A 9 ad X s.heap.size)) (F0 m 28 ls [.int t0, .int t1]) := by
    intro k_4 hk_4 v2 t0 t1 H locs ls hf hP hS hl
    unfold f_X6_freeTrips_28 at hf
    refine lv_iadd hx hb dX6_freeTrips_28 ?_
    refine lv_topi (fun x4 ex4 => ?_)
    have hf := lt_so ex4 hf
    refine lv_istore_n (lv' := [(1, .int x4), (0, .ref (ad 0)), (2, .int v2)]) hx hb dX6_freeTrips_29 rfl hl (by decide) rfl (fun ls hl => ?_)
    obtain ⟨x5, ex5, hf⟩ := lt_ex hf
    refine lv_iinc (v := x5) (lv' := [(2, .int x5), (1, .int x4), (0, .ref (ad 0))]) hx hb dX6_freeTrips_30 hl (k := 2) rfl (by rw [ex5]; rfl) (by decide) rfl (fun ls hl => ?_)
    refine lv_goto (tgt := 4) hx hb dX6_freeTrips_33 (by decide) ?_
    exact hk_4 x4 x5 _ _ _ hf hP hS (lv_sub hl [2, 1, 0] rfl)
  have hL_4 : ∀ (n : Nat), ∀ (v1 : Int32) (v2 : Int32) (H : Heap) (locs : List Loc) (ls : Array Slot), f_X6_freeTrips_4 sg n v1 v2 = some (r0) → va_P g.1 vwCl (WM g ad sg ++ X) H → va_S (dd_A 9 ad X s.heap.size) s.heap H locs → lv_has ls 3 [(0, .ref (ad 0)), (1, .int v1), (2, .int v2)] → W p l e (headSpec (lw_ws yX6_freeTrips cX6_freeTrips 3 (some .int)) ({ frames := 0, cells := 0, slots := 0, locals := 0 } : Room)).room s m ([.ref (ad 0)] : List Value).toArray below meth c H locs 0 0 (MQ below (QI g (WM g ad sg ++ X) (dd_A 9 ad X s.heap.size) r0) ([.ref (ad 0)] : List Value).toArray s 0 0 (dd_A 9 ad X s.heap.size)) (F0 m 4 ls []) := by
    intro n
    induction n with
    | zero =>
      intro v1 v2 H locs ls hf
      rw [f_X6_freeTrips_4] at hf
      cases hf
    | succ n ih =>
      intro v1 v2 H locs ls hf hP hS hl
      rw [f_X6_freeTrips_4] at hf
      refine lv_iload_n hx hb dX6_freeTrips_4 rfl (lv_at hl 2 rfl) ?_
      refine lv_aload_n hx hb dX6_freeTrips_5 rfl (lv_at hl 0 rfl) ?_
      refine gf_X6_50 hx hb hts hown hK hP dX6_freeTrips_6 ?_
      refine lv_icmp_ge (tgt := 36) hx hb dX6_freeTrips_9 (by decide) (fun c1 => ?_) (fun c1 => ?_)
      · have hf := if_t c1 hf
        refine lv_iload_n hx hb dX6_freeTrips_36 rfl (lv_at hl 1 rfl) ?_
        exact W.iret (v := v1) hx hb hr (fun t ht hW => ⟨⟨v1, (), rfl, so1 hf, P_at ht hP⟩, hS.F ht⟩) hS.2.2 dX6_freeTrips_37
      · have hf := if_f c1 hf
        refine lv_iload_n hx hb dX6_freeTrips_12 rfl (lv_at hl 1 rfl) ?_
        refine lv_aload_n hx hb dX6_freeTrips_13 rfl (lv_at hl 0 rfl) ?_
        refine gf_X6_25 hx hb hts hown hK hP dX6_freeTrips_14 ?_
        refine lv_iload_n hx hb dX6_freeTrips_17 rfl (lv_at hl 2 rfl) ?_
        obtain ⟨hi2, hf⟩ := gd_so hf
        refine W_iald hx hb hK hP 6 (by decide) cm_6 (ix_in hi2) dX6_freeTrips_18 ?_
        refine lv_iconst (v := (-1 : Int32)) hx hb dX6_freeTrips_19 (by decide) ?_
        refine lv_icmp_ne (tgt := 27) hx hb dX6_freeTrips_20 (by decide) (fun c3 => ?_) (fun c3 => ?_)
        · have hf := if_f c3 hf
          refine lv_iconst (v := (0 : Int32)) hx hb dX6_freeTrips_27 (by decide) ?_
          exact hL_28 (fun z0 z1 => f_X6_freeTrips_4 sg n z0 z1) ih v2 (0 : Int32) v1 _ _ _ hf hP hS (lv_sub hl [0, 2] rfl)
        · have hf := if_t c3 hf
          refine lv_iconst (v := (1 : Int32)) hx hb dX6_freeTrips_23 (by decide) ?_
          refine lv_goto (tgt := 28) hx hb dX6_freeTrips_24 (by decide) ?_
          exact hL_28 (fun z0 z1 => f_X6_freeTrips_4 sg n z0 z1) ih v2 (1 : Int32) v1 _ _ _ hf hP hS (lv_sub hl [0, 2] rfl)
  unfold f_X6_freeTrips at hf
  have hl := lv_entry ([.ref (ad 0)]) (n := 3) (Nat.le_of_ble_eq_true rfl)
  rw [lg_entry_eq]
  generalize (lg_sl ([.ref (ad 0)]) ++ List.replicate (3 - (lg_sl ([.ref (ad 0)])).length) Slot.unset).toArray = ls at hl ⊢
  have hl : lv_has ls 3 [(0, .ref (ad 0))] := hl
  refine lv_iconst (v := (0 : Int32)) hx hb dX6_freeTrips_0 (by decide) ?_
  refine lv_istore_n (lv' := [(1, .int (0 : Int32)), (0, .ref (ad 0))]) hx hb dX6_freeTrips_1 rfl hl (by decide) rfl (fun ls hl => ?_)
  refine lv_iconst (v := (0 : Int32)) hx hb dX6_freeTrips_2 (by decide) ?_
  refine lv_istore_n (lv' := [(2, .int (0 : Int32)), (1, .int (0 : Int32)), (0, .ref (ad 0))]) hx hb dX6_freeTrips_3 rfl hl (by decide) rfl (fun ls hl => ?_)
  exact hL_4 64 (0 : Int32) (0 : Int32) _ _ _ hf hP hS (lv_sub hl [2, 1, 0] rfl)
set_option maxHeartbeats 4000000 in
set_option maxRecDepth 100000 in
theorem c_X6_count (l : Launch) (g : dd_G) (ad : Nat → Nat) (X : va_W) (sz : Nat) (sg : dd_S) (a1 : Int32) (r0 : Int32) (s0 : dd_S) (hf : f_X6_count sg a1 = some (r0, s0)) : Met l yX6_count (lw_ws yX6_count cX6_count 2 (some .int)) ({ frames := 1, cells := 0, slots := 0, locals := 22 } : Room) (va_Pc [.ref (ad 0), .int a1] (PreW g (WM g ad sg ++ X) sz)) (QI g (WM g ad s0 ++ X) (dd_A 9 ad X sz) r0) 0 0 (dd_A 9 ad X sz) := by
  refine Met.ofW (cc := cX6_count) (maxL := 2) (ret := some .int) (by decide) rfl ?_
  intro p e s m args below meth c s₁ B hml hv
  obtain ⟨rfl, rfl, hP, hK, hD0⟩ := hv
  have hx := B.exec
  have hb := B.bytes
  have hr := B.returns
  have hts := atoms_spec (ws := (lw_ws yX6_count cX6_count 2 (some .int))) B.pre
  have hts : ∀ w ∈ lw_all, w.before _ s = true := fun w h => hts w (List.mem_cons_of_mem _ h)
  have hown : s.vm.findClass RX6 = some m.cls := findClass_of_methodNamed B.named
  have hlocks := B.notSynchronized
  have hD : ∀ s2 : dd_S, va_D (dd_A 9 ad X s.heap.size) (WM g ad s2 ++ X) := fun s2 => dd_D (dd_A_D hD0)
  have hS : va_S (dd_A 9 ad X s.heap.size) s.heap s.heap [] := va_S.rf
  have hL_59 : ∀ (sg : dd_S) (t0 : Int32) (H : Heap) (locs : List Loc) (ls : Array Slot), f_X6_count_59 a1 sg t0 = some (r0, s0) → va_P g.1 vwCl (WM g ad sg ++ X) H → va_S (dd_A 9 ad X s.heap.size) s.heap H locs → lv_has ls 2 [] → W p l e (headSpec (lw_ws yX6_count cX6_count 2 (some .int)) ({ frames := 1, cells := 0, slots := 0, locals := 22 } : Room)).room s m ([.ref (ad 0), .int a1] : List Value).toArray below meth c H locs 0 0 (MQ below (QI g (WM g ad s0 ++ X) (dd_A 9 ad X s.heap.size) r0) ([.ref (ad 0), .int a1] : List Value).toArray s 0 0 (dd_A 9 ad X s.heap.size)) (F0 m 59 ls [.int t0]) := by
    intro sg t0 H locs ls hf hP hS hl
    unfold f_X6_count_59 at hf
    exact W.iret (v := t0) hx hb hr (fun t ht hW => ⟨⟨t0, (), rfl, (so2 hf).1, P_at2 (so2 hf).2 ht hP⟩, hS.F ht⟩) hS.2.2 dX6_count_59
  unfold f_X6_count at hf
  have hl := lv_entry ([.ref (ad 0), .int a1]) (n := 2) (Nat.le_of_ble_eq_true rfl)
  rw [lg_entry_eq]
  generalize (lg_sl ([.ref (ad 0), .int a1]) ++ List.replicate (2 - (lg_sl ([.ref (ad 0), .int a1])).length) Slot.unset).toArray = ls at hl ⊢
  have hl : lv_has ls 2 [(0, .ref (ad 0)), (1, .int a1)] := hl
  refine lv_aload_n hx hb dX6_count_0 rfl (lv_at hl 0 rfl) ?_
  refine lv_iconst (v := (0 : Int32)) hx hb dX6_count_1 (by decide) ?_
  obtain ⟨sg1, esg1, hf⟩ := lt_ex hf
  refine pf_X6_47 hx hb hts hown hK hP hD hS dX6_count_2 (fun H locs hP hS => ?_)
  rw [← esg1] at hP
  refine lv_iload_n hx hb dX6_count_5 rfl (lv_at hl 1 rfl) ?_
  refine lv_iconst (v := (0 : Int32)) hx hb dX6_count_6 (by decide) ?_
  refine lv_iconst (v := (3 : Int32)) hx hb dX6_count_7 (by decide) ?_
  obtain ⟨r3, q2, hf⟩ := bd_so hf
  refine cl_i (va_runS (As := [.int a1, .int (0 : Int32), .int (3 : Int32)]) (rest := []) ⟨hx, hb, hml, hown, hts⟩ (c_X6_isIn l g ad X _ sg1 a1 (0 : Int32) (3 : Int32) r3 q2) (cwS 3 hts gl_X6_53 rfl rfl rfl yd_X6_isIn ⟨Nat.le_of_ble_eq_true rfl, Nat.le_of_ble_eq_true rfl⟩) (preS_of hK hP (hD sg1)) rfl rfl hl.1 rfl (lv_room (Nat.le_of_ble_eq_true rfl)) dX6_count_8 ⟨Nat.le_of_ble_eq_true rfl, Nat.le_of_ble_eq_true rfl⟩) hS (fun q h => dd_A_mono hS.1 h) (fun q h => dd_A_mono hS.1 h) (fun H locs hP hS => ?_)
  refine lv_if_ne (tgt := 20) hx hb dX6_count_11 (by decide) (fun c4 => ?_) (fun c4 => ?_)
  · have hf := if_f c4 hf
    refine lv_iload_n hx hb dX6_count_20 rfl (lv_at hl 1 rfl) ?_
    refine lv_if_ne (tgt := 31) hx hb dX6_count_21 (by decide) (fun c5 => ?_) (fun c5 => ?_)
    · have hf := if_f c5 hf
      refine lv_iload_n hx hb dX6_count_31 rfl (lv_at hl 1 rfl) ?_
      refine lv_iconst (v := (1 : Int32)) hx hb dX6_count_32 (by decide) ?_
      refine lv_icmp_ne (tgt := 43) hx hb dX6_count_33 (by decide) (fun c6 => ?_) (fun c6 => ?_)
      · have hf := if_f c6 hf
        refine lv_iload_n hx hb dX6_count_43 rfl (lv_at hl 1 rfl) ?_
        refine lv_iconst (v := (2 : Int32)) hx hb dX6_count_44 (by decide) ?_
        refine lv_icmp_ne (tgt := 55) hx hb dX6_count_45 (by decide) (fun c7 => ?_) (fun c7 => ?_)
        · have hf := if_f c7 hf
          refine lv_aload_n hx hb dX6_count_55 rfl (lv_at hl 0 rfl) ?_
          obtain ⟨r9, q8, hf⟩ := bd_so hf
          refine cl_i (va_runV (As := []) (rest := []) ⟨hx, hb, hml, hown, hts⟩ (c_X6_freeTrips l g ad X _ sg1 r9 q8) (cwV 0 hts gl_X6_77 rfl rfl rfl yd_X6_freeTrips ⟨Nat.le_of_ble_eq_true rfl, Nat.le_of_ble_eq_true rfl⟩) (preV_of hK hP (hD sg1) (dd_at (by decide) cm_0) rfl) rfl rfl hl.1 rfl (lv_room (Nat.le_of_ble_eq_true rfl)) dX6_count_56 ⟨Nat.le_of_ble_eq_true rfl, Nat.le_of_ble_eq_true rfl⟩) hS (fun q h => dd_A_mono hS.1 h) (fun q h => dd_A_mono hS.1 h) (fun H locs hP hS => ?_)
          exact hL_59 sg1 r9 _ _ _ hf hP hS (lv_sub hl [] rfl)
        · have hf := if_t c7 hf
          refine lv_aload_n hx hb dX6_count_48 rfl (lv_at hl 0 rfl) ?_
          refine gf_X6_74 hx hb hts hown hK hP dX6_count_49 ?_
          refine lv_goto (tgt := 59) hx hb dX6_count_52 (by decide) ?_
          exact hL_59 sg1 (sg1 0 9) _ _ _ hf hP hS (lv_sub hl [] rfl)
      · have hf := if_t c6 hf
        refine lv_aload_n hx hb dX6_count_36 rfl (lv_at hl 0 rfl) ?_
        refine gf_X6_57 hx hb hts hown hK hP dX6_count_37 ?_
        refine lv_goto (tgt := 59) hx hb dX6_count_40 (by decide) ?_
        exact hL_59 sg1 (sg1 0 8) _ _ _ hf hP hS (lv_sub hl [] rfl)
    · have hf := if_t c5 hf
      refine lv_aload_n hx hb dX6_count_24 rfl (lv_at hl 0 rfl) ?_
      refine gf_X6_50 hx hb hts hown hK hP dX6_count_25 ?_
      refine lv_goto (tgt := 59) hx hb dX6_count_28 (by decide) ?_
      exact hL_59 sg1 (sg1 0 2) _ _ _ hf hP hS (lv_sub hl [] rfl)
  · have hf := if_t c4 hf
    refine lv_aload_n hx hb dX6_count_14 rfl (lv_at hl 0 rfl) ?_
    refine lv_iconst (v := (1 : Int32)) hx hb dX6_count_15 (by decide) ?_
    obtain ⟨r12, sg11, q10, hf⟩ := bd2_so hf
    refine cl_i (va_runV (As := [.int (1 : Int32)]) (rest := []) ⟨hx, hb, hml, hown, hts⟩ (c_X6_no l g ad X _ sg1 (1 : Int32) r12 sg11 q10) (cwV 1 hts gl_X6_64 rfl rfl rfl yd_X6_no ⟨Nat.le_of_ble_eq_true rfl, Nat.le_of_ble_eq_true rfl⟩) (preV_of hK hP (hD sg1) (dd_at (by decide) cm_0) rfl) rfl rfl hl.1 rfl (lv_room (Nat.le_of_ble_eq_true rfl)) dX6_count_16 ⟨Nat.le_of_ble_eq_true rfl, Nat.le_of_ble_eq_true rfl⟩) hS (fun q h => dd_A_mono hS.1 h) (fun q h => dd_A_mono hS.1 h) (fun H locs hP hS => ?_)
    exact W.iret (v := r12) hx hb hr (fun t ht hW => ⟨⟨r12, (), rfl, (so2 hf).1, P_at2 (so2 hf).2 ht hP⟩, hS.F ht⟩) hS.2.2 dX6_count_19
set_option maxHeartbeats 4000000 in
set_option maxRecDepth 100000 in
theorem c_X6_setRules (l : Launch) (g : dd_G) (ad : Nat → Nat) (X : va_W) (sz : Nat) (sg : dd_S) (a1 : Int32) (a2 : Int32) (a3 : Int32) (a4 : Int32) (r0 : Int32) (s0 : dd_S) (hf : f_X6_setRules sg a1 a2 a3 a4 = some (r0, s0)) : Met l yX6_setRules (lw_ws yX6_setRules cX6_setRules 7 (some .int)) ({ frames := 2, cells := 0, slots := 0, locals := 50 } : Room) (va_Pc [.ref (ad 0), .int a1, .int a2, .int a3, .int a4] (PreW g (WM g ad sg ++ X) sz)) (QI g (WM g ad s0 ++ X) (dd_A 9 ad X sz) r0) 0 0 (dd_A 9 ad X sz) := by
  refine Met.ofW (cc := cX6_setRules) (maxL := 7) (ret := some .int) (by decide) rfl ?_
  intro p e s m args below meth c s₁ B hml hv
  obtain ⟨rfl, rfl, hP, hK, hD0⟩ := hv
  have hx := B.exec
  have hb := B.bytes
  have hr := B.returns
  have hts := atoms_spec (ws := (lw_ws yX6_setRules cX6_setRules 7 (some .int))) B.pre
  have hts : ∀ w ∈ lw_all, w.before _ s = true := fun w h => hts w (List.mem_cons_of_mem _ h)
  have hown : s.vm.findClass RX6 = some m.cls := findClass_of_methodNamed B.named
  have hlocks := B.notSynchronized
  have hD : ∀ s2 : dd_S, va_D (dd_A 9 ad X s.heap.size) (WM g ad s2 ++ X) := fun s2 => dd_D (dd_A_D hD0)
  have hS : va_S (dd_A 9 ad X s.heap.size) s.heap s.heap [] := va_S.rf
  have hL_53 : ∀ (sg : dd_S) (H : Heap) (locs : List Loc) (ls : Array Slot), f_X6_setRules_53 a1 a2 a3 a4 sg = some (r0, s0) → va_P g.1 vwCl (WM g ad sg ++ X) H → va_S (dd_A 9 ad X s.heap.size) s.heap H locs → lv_has ls 7 [(0, .ref (ad 0))] → W p l e (headSpec (lw_ws yX6_setRules cX6_setRules 7 (some .int)) ({ frames := 2, cells := 0, slots := 0, locals := 50 } : Room)).room s m ([.ref (ad 0), .int a1, .int a2, .int a3, .int a4] : List Value).toArray below meth c H locs 0 0 (MQ below (QI g (WM g ad s0 ++ X) (dd_A 9 ad X s.heap.size) r0) ([.ref (ad 0), .int a1, .int a2, .int a3, .int a4] : List Value).toArray s 0 0 (dd_A 9 ad X s.heap.size)) (F0 m 53 ls []) := by
    intro sg H locs ls hf hP hS hl
    unfold f_X6_setRules_53 at hf
    refine lv_aload_n hx hb dX6_setRules_53 rfl (lv_at hl 0 rfl) ?_
    refine lv_iconst (v := (1 : Int32)) hx hb dX6_setRules_54 (by decide) ?_
    obtain ⟨r20, sg19, q18, hf⟩ := bd2_so hf
    refine cl_i (va_runV (As := [.int (1 : Int32)]) (rest := []) ⟨hx, hb, hml, hown, hts⟩ (c_X6_no l g ad X _ sg (1 : Int32) r20 sg19 q18) (cwV 1 hts gl_X6_64 rfl rfl rfl yd_X6_no ⟨Nat.le_of_ble_eq_true rfl, Nat.le_of_ble_eq_true rfl⟩) (preV_of hK hP (hD sg) (dd_at (by decide) cm_0) rfl) rfl rfl hl.1 rfl (lv_room (Nat.le_of_ble_eq_true rfl)) dX6_setRules_55 ⟨Nat.le_of_ble_eq_true rfl, Nat.le_of_ble_eq_true rfl⟩) hS (fun q h => dd_A_mono hS.1 h) (fun q h => dd_A_mono hS.1 h) (fun H locs hP hS => ?_)
    exact W.iret (v := r20) hx hb hr (fun t ht hW => ⟨⟨r20, (), rfl, (so2 hf).1, P_at2 (so2 hf).2 ht hP⟩, hS.F ht⟩) hS.2.2 dX6_setRules_58
  have hL_111 : ∀ (k_86 : dd_S → Int32 → Int32 → Option (Int32 × dd_S)) (hk_86 : ∀ (sg : dd_S) (v5 : Int32) (v6 : Int32) (H : Heap) (locs : List Loc) (ls : Array Slot), k_86 sg v5 v6 = some (r0, s0) → va_P g.1 vwCl (WM g ad sg ++ X) H → va_S (dd_A 9 ad X s.heap.size) s.heap H locs → lv_has ls 7 [(0, .ref (ad 0)), (5, .int v5), (6, .int v6)] → W p l e (headSpec (lw_ws yX6_setRules cX6_setRules 7 (some .int)) ({ frames := 2, cells := 0, slots := 0, locals := 50 } : Room)).room s m ([.ref (ad 0), .int a1, .int a2, .int a3, .int a4] : List Value).toArray below meth c H locs 0 0 (MQ below (QI g (WM g ad s0 ++ X) (dd_A 9 ad X s.heap.size) r0) ([.ref (ad 0), .int a1, .int a2, .int a3, .int a4] : List Value).toArray s 0 0 (dd_A 9 ad X s.heap.size)) (F0 m 86 ls [])), ∀ (sg : dd_S) (v6 : Int32) (t0 : Int32) (t1 : Int32) (H : Heap) (locs : List Loc) (ls : Array Slot), f_X6_setRules_111 a1 a2 a3 a4 k_86 sg v6 t0 t1 = some (r0, s0) → va_P g.1 vwCl (WM g ad sg ++ X) H → va_S (dd_A 9 ad X s.heap.size) s.heap H locs → lv_has ls 7 [(0, .ref (ad 0)), (6, .int v6)] → W p l e (headSpec (lw_ws yX6_setRules cX6_setRules 7 (some .int)) ({ frames := 2, cells := 0, slots := 0, locals := 50 } : Room)).room s m ([.ref (ad 0), .int a1, .int a2, .int a3, .int a4] : List Value).toArray below meth c H locs 0 0 (MQ below (QI g (WM g ad s0 ++ X) (dd_A 9 ad X s.heap.size) r0) ([.ref (ad 0), .int a1, .int a2, .int a3, .int a4] : List Value).toArray s 0 0 (dd_A 9 ad X s.heap.size)) (F0 m 111 ls [.int t0, .int t1]) := by
    intro k_86 hk_86 sg v6 t0 t1 H locs ls hf hP hS hl
    unfold f_X6_setRules_111 at hf
    refine lv_iadd hx hb dX6_setRules_111 ?_
    refine lv_topi (fun x26 ex26 => ?_)
    have hf := lt_so ex26 hf
    refine lv_istore (lv' := [(5, .int x26), (0, .ref (ad 0)), (6, .int v6)]) hx hb dX6_setRules_112 hl (by decide) rfl (fun ls hl => ?_)
    obtain ⟨x27, ex27, hf⟩ := lt_ex hf
    refine lv_iinc (v := x27) (lv' := [(6, .int x27), (5, .int x26), (0, .ref (ad 0))]) hx hb dX6_setRules_114 hl (k := 2) rfl (by rw [ex27]; rfl) (by decide) rfl (fun ls hl => ?_)
    refine lv_goto (tgt := 86) hx hb dX6_setRules_117 (by decide) ?_
    exact hk_86 sg x26 x27 _ _ _ hf hP hS (lv_sub hl [2, 1, 0] rfl)
  have hL_86 : ∀ (n : Nat), ∀ (sg : dd_S) (v5 : Int32) (v6 : Int32) (H : Heap) (locs : List Loc) (ls : Array Slot), f_X6_setRules_86 a1 a2 a3 a4 n sg v5 v6 = some (r0, s0) → va_P g.1 vwCl (WM g ad sg ++ X) H → va_S (dd_A 9 ad X s.heap.size) s.heap H locs → lv_has ls 7 [(0, .ref (ad 0)), (5, .int v5), (6, .int v6)] → W p l e (headSpec (lw_ws yX6_setRules cX6_setRules 7 (some .int)) ({ frames := 2, cells := 0, slots := 0, locals := 50 } : Room)).room s m ([.ref (ad 0), .int a1, .int a2, .int a3, .int a4] : List Value).toArray below meth c H locs 0 0 (MQ below (QI g (WM g ad s0 ++ X) (dd_A 9 ad X s.heap.size) r0) ([.ref (ad 0), .int a1, .int a2, .int a3, .int a4] : List Value).toArray s 0 0 (dd_A 9 ad X s.heap.size)) (F0 m 86 ls []) := by
    intro n
    induction n with
    | zero =>
      intro sg v5 v6 H locs ls hf
      rw [f_X6_setRules_86] at hf
      cases hf
    | succ n ih =>
      intro sg v5 v6 H locs ls hf hP hS hl
      rw [f_X6_setRules_86] at hf
      refine lv_iload hx hb dX6_setRules_86 (lv_at hl 2 rfl) ?_
      refine lv_aload_n hx hb dX6_setRules_88 rfl (lv_at hl 0 rfl) ?_
      refine gf_X6_57 hx hb hts hown hK hP dX6_setRules_89 ?_
      refine lv_icmp_ge (tgt := 120) hx hb dX6_setRules_92 (by decide) (fun c21 => ?_) (fun c21 => ?_)
      · have hf := if_t c21 hf
        refine lv_iload hx hb dX6_setRules_120 (lv_at hl 1 rfl) ?_
        exact W.iret (v := v5) hx hb hr (fun t ht hW => ⟨⟨v5, (), rfl, (so2 hf).1, P_at2 (so2 hf).2 ht hP⟩, hS.F ht⟩) hS.2.2 dX6_setRules_122
      · have hf := if_f c21 hf
        refine lv_iload hx hb dX6_setRules_95 (lv_at hl 1 rfl) ?_
        refine lv_aload_n hx hb dX6_setRules_97 rfl (lv_at hl 0 rfl) ?_
        refine lv_iload hx hb dX6_setRules_98 (lv_at hl 2 rfl) ?_
        obtain ⟨r24, sg23, q22, hf⟩ := bd2_so hf
        refine cl_i (va_runV (As := [.int v6]) (rest := [.int v5]) ⟨hx, hb, hml, hown, hts⟩ (c_X6_look l g ad X _ sg v6 r24 sg23 q22) (cwV 1 hts gl_X6_71 rfl rfl rfl yd_X6_look ⟨Nat.le_of_ble_eq_true rfl, Nat.le_of_ble_eq_true rfl⟩) (preV_of hK hP (hD sg) (dd_at (by decide) cm_0) rfl) rfl rfl hl.1 rfl (lv_room (Nat.le_of_ble_eq_true rfl)) dX6_setRules_100 ⟨Nat.le_of_ble_eq_true rfl, Nat.le_of_ble_eq_true rfl⟩) hS (fun q h => dd_A_mono hS.1 h) (fun q h => dd_A_mono hS.1 h) (fun H locs hP hS => ?_)
        refine lv_if_eq (tgt := 110) hx hb dX6_setRules_103 (by decide) (fun c25 => ?_) (fun c25 => ?_)
        · have hf := if_t c25 hf
          refine lv_iconst (v := (1 : Int32)) hx hb dX6_setRules_110 (by decide) ?_
          exact hL_111 (fun zs z0 z1 => f_X6_setRules_86 a1 a2 a3 a4 n zs z0 z1) ih sg23 v6 (1 : Int32) v5 _ _ _ hf hP hS (lv_sub hl [0, 2] rfl)
        · have hf := if_f c25 hf
          refine lv_iconst (v := (0 : Int32)) hx hb dX6_setRules_106 (by decide) ?_
          refine lv_goto (tgt := 111) hx hb dX6_setRules_107 (by decide) ?_
          exact hL_111 (fun zs z0 z1 => f_X6_setRules_86 a1 a2 a3 a4 n zs z0 z1) ih sg23 v6 (0 : Int32) v5 _ _ _ hf hP hS (lv_sub hl [0, 2] rfl)
  unfold f_X6_setRules at hf
  have hl := lv_entry ([.ref (ad 0), .int a1, .int a2, .int a3, .int a4]) (n := 7) (Nat.le_of_ble_eq_true rfl)
  rw [lg_entry_eq]
  generalize (lg_sl ([.ref (ad 0), .int a1, .int a2, .int a3, .int a4]) ++ List.replicate (7 - (lg_sl ([.ref (ad 0), .int a1, .int a2, .int a3, .int a4])).length) Slot.unset).toArray = ls at hl ⊢
  have hl : lv_has ls 7 [(0, .ref (ad 0)), (1, .int a1), (2, .int a2), (3, .int a3), (4, .int a4)] := hl
  refine lv_aload_n hx hb dX6_setRules_0 rfl (lv_at hl 0 rfl) ?_
  refine lv_iconst (v := (0 : Int32)) hx hb dX6_setRules_1 (by decide) ?_
  obtain ⟨sg1, esg1, hf⟩ := lt_ex hf
  refine pf_X6_47 hx hb hts hown hK hP hD hS dX6_setRules_2 (fun H locs hP hS => ?_)
  rw [← esg1] at hP
  refine lv_iload_n hx hb dX6_setRules_5 rfl (lv_at hl 1 rfl) ?_
  refine lv_bipush (v := (60 : Int32)) hx hb dX6_setRules_6 (by decide) ?_
  refine lv_sipush (v := (600 : Int32)) hx hb dX6_setRules_8 (by decide) ?_
  obtain ⟨r3, q2, hf⟩ := bd_so hf
  refine cl_i (va_runS (As := [.int a1, .int (60 : Int32), .int (600 : Int32)]) (rest := []) ⟨hx, hb, hml, hown, hts⟩ (c_X6_isIn l g ad X _ sg1 a1 (60 : Int32) (600 : Int32) r3 q2) (cwS 3 hts gl_X6_53 rfl rfl rfl yd_X6_isIn ⟨Nat.le_of_ble_eq_true rfl, Nat.le_of_ble_eq_true rfl⟩) (preS_of hK hP (hD sg1)) rfl rfl hl.1 rfl (lv_room (Nat.le_of_ble_eq_true rfl)) dX6_setRules_11 ⟨Nat.le_of_ble_eq_true rfl, Nat.le_of_ble_eq_true rfl⟩) hS (fun q h => dd_A_mono hS.1 h) (fun q h => dd_A_mono hS.1 h) (fun H locs hP hS => ?_)
  refine lv_if_eq (tgt := 53) hx hb dX6_setRules_14 (by decide) (fun c4 => ?_) (fun c4 => ?_)
  · have hf := if_t c4 hf
    exact hL_53 sg1 _ _ _ hf hP hS (lv_sub hl [0] rfl)
  · have hf := if_f c4 hf
    refine lv_iload_n hx hb dX6_setRules_17 rfl (lv_at hl 2 rfl) ?_
    refine lv_sipush (v := (240 : Int32)) hx hb dX6_setRules_18 (by decide) ?_
    refine lv_sipush (v := (1000 : Int32)) hx hb dX6_setRules_21 (by decide) ?_
    obtain ⟨r6, q5, hf⟩ := bd_so hf
    refine cl_i (va_runS (As := [.int a2, .int (240 : Int32), .int (1000 : Int32)]) (rest := []) ⟨hx, hb, hml, hown, hts⟩ (c_X6_isIn l g ad X _ sg1 a2 (240 : Int32) (1000 : Int32) r6 q5) (cwS 3 hts gl_X6_53 rfl rfl rfl yd_X6_isIn ⟨Nat.le_of_ble_eq_true rfl, Nat.le_of_ble_eq_true rfl⟩) (preS_of hK hP (hD sg1)) rfl rfl hl.1 rfl (lv_room (Nat.le_of_ble_eq_true rfl)) dX6_setRules_24 ⟨Nat.le_of_ble_eq_true rfl, Nat.le_of_ble_eq_true rfl⟩) hS (fun q h => dd_A_mono hS.1 h) (fun q h => dd_A_mono hS.1 h) (fun H locs hP hS => ?_)
    refine lv_if_eq (tgt := 53) hx hb dX6_setRules_27 (by decide) (fun c7 => ?_) (fun c7 => ?_)
    · have hf := if_t c7 hf
      exact hL_53 sg1 _ _ _ hf hP hS (lv_sub hl [0] rfl)
    · have hf := if_f c7 hf
      refine lv_iload_n hx hb dX6_setRules_30 rfl (lv_at hl 3 rfl) ?_
      refine lv_bipush (v := (10 : Int32)) hx hb dX6_setRules_31 (by decide) ?_
      refine lv_bipush (v := (90 : Int32)) hx hb dX6_setRules_33 (by decide) ?_
      obtain ⟨r9, q8, hf⟩ := bd_so hf
      refine cl_i (va_runS (As := [.int a3, .int (10 : Int32), .int (90 : Int32)]) (rest := []) ⟨hx, hb, hml, hown, hts⟩ (c_X6_isIn l g ad X _ sg1 a3 (10 : Int32) (90 : Int32) r9 q8) (cwS 3 hts gl_X6_53 rfl rfl rfl yd_X6_isIn ⟨Nat.le_of_ble_eq_true rfl, Nat.le_of_ble_eq_true rfl⟩) (preS_of hK hP (hD sg1)) rfl rfl hl.1 rfl (lv_room (Nat.le_of_ble_eq_true rfl)) dX6_setRules_35 ⟨Nat.le_of_ble_eq_true rfl, Nat.le_of_ble_eq_true rfl⟩) hS (fun q h => dd_A_mono hS.1 h) (fun q h => dd_A_mono hS.1 h) (fun H locs hP hS => ?_)
      refine lv_if_eq (tgt := 53) hx hb dX6_setRules_38 (by decide) (fun c10 => ?_) (fun c10 => ?_)
      · have hf := if_t c10 hf
        exact hL_53 sg1 _ _ _ hf hP hS (lv_sub hl [0] rfl)
      · have hf := if_f c10 hf
        refine lv_iload hx hb dX6_setRules_41 (lv_at hl 4 rfl) ?_
        refine lv_iconst (v := (0 : Int32)) hx hb dX6_setRules_43 (by decide) ?_
        refine lv_sipush (v := (900 : Int32)) hx hb dX6_setRules_44 (by decide) ?_
        obtain ⟨r12, q11, hf⟩ := bd_so hf
        refine cl_i (va_runS (As := [.int a4, .int (0 : Int32), .int (900 : Int32)]) (rest := []) ⟨hx, hb, hml, hown, hts⟩ (c_X6_isIn l g ad X _ sg1 a4 (0 : Int32) (900 : Int32) r12 q11) (cwS 3 hts gl_X6_53 rfl rfl rfl yd_X6_isIn ⟨Nat.le_of_ble_eq_true rfl, Nat.le_of_ble_eq_true rfl⟩) (preS_of hK hP (hD sg1)) rfl rfl hl.1 rfl (lv_room (Nat.le_of_ble_eq_true rfl)) dX6_setRules_47 ⟨Nat.le_of_ble_eq_true rfl, Nat.le_of_ble_eq_true rfl⟩) hS (fun q h => dd_A_mono hS.1 h) (fun q h => dd_A_mono hS.1 h) (fun H locs hP hS => ?_)
        refine lv_if_ne (tgt := 59) hx hb dX6_setRules_50 (by decide) (fun c13 => ?_) (fun c13 => ?_)
        · have hf := if_f c13 hf
          refine lv_aload_n hx hb dX6_setRules_59 rfl (lv_at hl 0 rfl) ?_
          refine lv_iload_n hx hb dX6_setRules_60 rfl (lv_at hl 1 rfl) ?_
          obtain ⟨sg14, esg14, hf⟩ := lt_ex hf
          refine pf_X6_31 hx hb hts hown hK hP hD hS dX6_setRules_61 (fun H locs hP hS => ?_)
          rw [← esg14] at hP
          refine lv_aload_n hx hb dX6_setRules_64 rfl (lv_at hl 0 rfl) ?_
          refine lv_iload_n hx hb dX6_setRules_65 rfl (lv_at hl 2 rfl) ?_
          obtain ⟨sg15, esg15, hf⟩ := lt_ex hf
          refine pf_X6_35 hx hb hts hown hK hP hD hS dX6_setRules_66 (fun H locs hP hS => ?_)
          rw [← esg15] at hP
          refine lv_aload_n hx hb dX6_setRules_69 rfl (lv_at hl 0 rfl) ?_
          refine lv_iload_n hx hb dX6_setRules_70 rfl (lv_at hl 3 rfl) ?_
          obtain ⟨sg16, esg16, hf⟩ := lt_ex hf
          refine pf_X6_38 hx hb hts hown hK hP hD hS dX6_setRules_71 (fun H locs hP hS => ?_)
          rw [← esg16] at hP
          refine lv_aload_n hx hb dX6_setRules_74 rfl (lv_at hl 0 rfl) ?_
          refine lv_iload hx hb dX6_setRules_75 (lv_at hl 4 rfl) ?_
          obtain ⟨sg17, esg17, hf⟩ := lt_ex hf
          refine pf_X6_41 hx hb hts hown hK hP hD hS dX6_setRules_77 (fun H locs hP hS => ?_)
          rw [← esg17] at hP
          refine lv_iconst (v := (0 : Int32)) hx hb dX6_setRules_80 (by decide) ?_
          refine lv_istore (lv' := [(5, .int (0 : Int32)), (0, .ref (ad 0)), (1, .int a1), (2, .int a2), (3, .int a3), (4, .int a4)]) hx hb dX6_setRules_81 hl (by decide) rfl (fun ls hl => ?_)
          refine lv_iconst (v := (0 : Int32)) hx hb dX6_setRules_83 (by decide) ?_
          refine lv_istore (lv' := [(6, .int (0 : Int32)), (5, .int (0 : Int32)), (0, .ref (ad 0)), (1, .int a1), (2, .int a2), (3, .int a3), (4, .int a4)]) hx hb dX6_setRules_84 hl (by decide) rfl (fun ls hl => ?_)
          exact hL_86 64 sg17 (0 : Int32) (0 : Int32) _ _ _ hf hP hS (lv_sub hl [2, 1, 0] rfl)
        · have hf := if_t c13 hf
          exact hL_53 sg1 _ _ _ hf hP hS (lv_sub hl [0] rfl)
set_option maxHeartbeats 4000000 in
set_option maxRecDepth 100000 in
theorem c_X6_isFixed (l : Launch) (g : dd_G) (ad : Nat → Nat) (X : va_W) (sz : Nat) (sg : dd_S) (a1 : Int32) (r0 : Int32) (hf : f_X6_isFixed sg a1 = some (r0)) : Met l yX6_isFixed (lw_ws yX6_isFixed cX6_isFixed 4 (some .boolean)) ({ frames := 0, cells := 0, slots := 0, locals := 0 } : Room) (va_Pc [.ref (ad 0), .int a1] (PreW g (WM g ad sg ++ X) sz)) (QI g (WM g ad sg ++ X) (dd_A 9 ad X sz) r0) 0 0 (dd_A 9 ad X sz) := by
  refine Met.ofW (cc := cX6_isFixed) (maxL := 4) (ret := some .boolean) (by decide) rfl ?_
  intro p e s m args below meth c s₁ B hml hv
  obtain ⟨rfl, rfl, hP, hK, hD0⟩ := hv
  have hx := B.exec
  have hb := B.bytes
  have hr := B.returns
  have hts := atoms_spec (ws := (lw_ws yX6_isFixed cX6_isFixed 4 (some .boolean))) B.pre
  have hts : ∀ w ∈ lw_all, w.before _ s = true := fun w h => hts w (List.mem_cons_of_mem _ h)
  have hown : s.vm.findClass RX6 = some m.cls := findClass_of_methodNamed B.named
  have hlocks := B.notSynchronized
  have hD : ∀ s2 : dd_S, va_D (dd_A 9 ad X s.heap.size) (WM g ad s2 ++ X) := fun s2 => dd_D (dd_A_D hD0)
  have hS : va_S (dd_A 9 ad X s.heap.size) s.heap s.heap [] := va_S.rf
  have hL_34 : ∀ (k_4 : Int32 → Int32 → Option (Int32)) (hk_4 : ∀ (v2 : Int32) (v3 : Int32) (H : Heap) (locs : List Loc) (ls : Array Slot), k_4 v2 v3 = some (r0) → va_P g.1 vwCl (WM g ad sg ++ X) H → va_S (dd_A 9 ad X s.heap.size) s.heap H locs → lv_has ls 4 [(0, .ref (ad 0)), (1, .int a1), (2, .int v2), (3, .int v3)] → W p l e (headSpec (lw_ws yX6_isFixed cX6_isFixed 4 (some .boolean)) ({ frames := 0, cells := 0, slots := 0, locals := 0 } : Room)).room s m ([.ref (ad 0), .int a1] : List Value).toArray below meth c H locs 0 0 (MQ below (QI g (WM g ad sg ++ X) (dd_A 9 ad X s.heap.size) r0) ([.ref (ad 0), .int a1] : List Value).toArray s 0 0 (dd_A 9 ad X s.heap.size)) (F0 m 4 ls [])), ∀ (v3 : Int32) (t0 : Int32) (H : Heap) (locs : List Loc) (ls : Array Slot), f_X6_isFixed_34 sg a1 k_4 v3 t0 = some (r0) → va_P g.1 vwCl (WM g ad sg ++ X) H → va_S (dd_A 9 ad X s.heap.size) s.heap H locs → lv_has ls 4 [(0, .ref (ad 0)), (1, .int a1), (3, .int v3)] → W p l e (headSpec (lw_ws yX6_isFixed cX6_isFixed 4 (some .boolean)) ({ frames := 0, cells := 0, slots := 0, locals := 0 } : Room)).room s m ([.ref (ad 0), .int a1] : List Value).toArray below meth c H locs 0 0 (MQ below (QI g (WM g ad sg ++ X) (dd_A 9 ad X s.heap.size) r0) ([.ref (ad 0), .int a1] : List Value).toArray s 0 0 (dd_A 9 ad X s.heap.size)) (F0 m 34 ls [.int t0]) := by
    intro k_4 hk_4 v3 t0 H locs ls hf hP hS hl
    unfold f_X6_isFixed_34 at hf
    refine lv_istore_n (lv' := [(2, .int t0), (0, .ref (ad 0)), (1, .int a1), (3, .int v3)]) hx hb dX6_isFixed_34 rfl hl (by decide) rfl (fun ls hl => ?_)
    obtain ⟨x6, ex6, hf⟩ := lt_ex hf
    refine lv_iinc (v := x6) (lv' := [(3, .int x6), (2, .int t0), (0, .ref (ad 0)), (1, .int a1)]) hx hb dX6_isFixed_35 hl (k := 3) rfl (by rw [ex6]; rfl) (by decide) rfl (fun ls hl => ?_)
    refine lv_goto (tgt := 4) hx hb dX6_isFixed_38 (by decide) ?_
    exact hk_4 t0 x6 _ _ _ hf hP hS (lv_sub hl [2, 3, 1, 0] rfl)
  have hL_29 : ∀ (k_4 : Int32 → Int32 → Option (Int32)) (hk_4 : ∀ (v2 : Int32) (v3 : Int32) (H : Heap) (locs : List Loc) (ls : Array Slot), k_4 v2 v3 = some (r0) → va_P g.1 vwCl (WM g ad sg ++ X) H → va_S (dd_A 9 ad X s.heap.size) s.heap H locs → lv_has ls 4 [(0, .ref (ad 0)), (1, .int a1), (2, .int v2), (3, .int v3)] → W p l e (headSpec (lw_ws yX6_isFixed cX6_isFixed 4 (some .boolean)) ({ frames := 0, cells := 0, slots := 0, locals := 0 } : Room)).room s m ([.ref (ad 0), .int a1] : List Value).toArray below meth c H locs 0 0 (MQ below (QI g (WM g ad sg ++ X) (dd_A 9 ad X s.heap.size) r0) ([.ref (ad 0), .int a1] : List Value).toArray s 0 0 (dd_A 9 ad X s.heap.size)) (F0 m 4 ls [])), ∀ (v3 : Int32) (H : Heap) (locs : List Loc) (ls : Array Slot), f_X6_isFixed_29 sg a1 k_4 v3 = some (r0) → va_P g.1 vwCl (WM g ad sg ++ X) H → va_S (dd_A 9 ad X s.heap.size) s.heap H locs → lv_has ls 4 [(0, .ref (ad 0)), (1, .int a1), (3, .int v3)] → W p l e (headSpec (lw_ws yX6_isFixed cX6_isFixed 4 (some .boolean)) ({ frames := 0, cells := 0, slots := 0, locals := 0 } : Room)).room s m ([.ref (ad 0), .int a1] : List Value).toArray below meth c H locs 0 0 (MQ below (QI g (WM g ad sg ++ X) (dd_A 9 ad X s.heap.size) r0) ([.ref (ad 0), .int a1] : List Value).toArray s 0 0 (dd_A 9 ad X s.heap.size)) (F0 m 29 ls []) := by
    intro k_4 hk_4 v3 H locs ls hf hP hS hl
    unfold f_X6_isFixed_29 at hf
    refine lv_iconst (v := (1 : Int32)) hx hb dX6_isFixed_29 (by decide) ?_
    refine lv_goto (tgt := 34) hx hb dX6_isFixed_30 (by decide) ?_
    exact hL_34 k_4 hk_4 v3 (1 : Int32) _ _ _ hf hP hS (lv_sub hl [0, 1, 2] rfl)
  have hL_4 : ∀ (n : Nat), ∀ (v2 : Int32) (v3 : Int32) (H : Heap) (locs : List Loc) (ls : Array Slot), f_X6_isFixed_4 sg a1 n v2 v3 = some (r0) → va_P g.1 vwCl (WM g ad sg ++ X) H → va_S (dd_A 9 ad X s.heap.size) s.heap H locs → lv_has ls 4 [(0, .ref (ad 0)), (1, .int a1), (2, .int v2), (3, .int v3)] → W p l e (headSpec (lw_ws yX6_isFixed cX6_isFixed 4 (some .boolean)) ({ frames := 0, cells := 0, slots := 0, locals := 0 } : Room)).room s m ([.ref (ad 0), .int a1] : List Value).toArray below meth c H locs 0 0 (MQ below (QI g (WM g ad sg ++ X) (dd_A 9 ad X s.heap.size) r0) ([.ref (ad 0), .int a1] : List Value).toArray s 0 0 (dd_A 9 ad X s.heap.size)) (F0 m 4 ls []) := by
    intro n
    induction n with
    | zero =>
      intro v2 v3 H locs ls hf
      rw [f_X6_isFixed_4] at hf
      cases hf
    | succ n ih =>
      intro v2 v3 H locs ls hf hP hS hl
      rw [f_X6_isFixed_4] at hf
      refine lv_iload_n hx hb dX6_isFixed_4 rfl (lv_at hl 3 rfl) ?_
      refine lv_bipush (v := (7 : Int32)) hx hb dX6_isFixed_5 (by decide) ?_
      refine lv_aload_n hx hb dX6_isFixed_7 rfl (lv_at hl 0 rfl) ?_
      refine gf_X6_74 hx hb hts hown hK hP dX6_isFixed_8 ?_
      refine lv_imul hx hb dX6_isFixed_11 ?_
      refine lv_icmp_ge (tgt := 41) hx hb dX6_isFixed_12 (by decide) (fun c1 => ?_) (fun c1 => ?_)
      · have hf := if_t c1 hf
        refine lv_iload_n hx hb dX6_isFixed_41 rfl (lv_at hl 2 rfl) ?_
        obtain ⟨hz2, hf⟩ := gd_so hf
        exact W.zret (v := v2) hx hb hr (bz_z hz2) (fun t ht hW => ⟨⟨v2, (), rfl, so1 hf, P_at ht hP⟩, hS.F ht⟩) hS.2.2 dX6_isFixed_42
      · have hf := if_f c1 hf
        refine lv_iload_n hx hb dX6_isFixed_15 rfl (lv_at hl 2 rfl) ?_
        refine lv_if_ne (tgt := 29) hx hb dX6_isFixed_16 (by decide) (fun c3 => ?_) (fun c3 => ?_)
        · have hf := if_f c3 hf
          exact hL_29 (fun z0 z1 => f_X6_isFixed_4 sg a1 n z0 z1) ih v3 _ _ _ hf hP hS (lv_sub hl [0, 1, 3] rfl)
        · have hf := if_t c3 hf
          refine lv_aload_n hx hb dX6_isFixed_19 rfl (lv_at hl 0 rfl) ?_
          refine gf_X6_28 hx hb hts hown hK hP dX6_isFixed_20 ?_
          refine lv_iload_n hx hb dX6_isFixed_23 rfl (lv_at hl 3 rfl) ?_
          obtain ⟨hi4, hf⟩ := gd_so hf
          refine W_iald hx hb hK hP 7 (by decide) cm_7 (ix_in hi4) dX6_isFixed_24 ?_
          refine lv_iload_n hx hb dX6_isFixed_25 rfl (lv_at hl 1 rfl) ?_
          refine lv_icmp_ne (tgt := 33) hx hb dX6_isFixed_26 (by decide) (fun c5 => ?_) (fun c5 => ?_)
          · have hf := if_f c5 hf
            refine lv_iconst (v := (0 : Int32)) hx hb dX6_isFixed_33 (by decide) ?_
            exact hL_34 (fun z0 z1 => f_X6_isFixed_4 sg a1 n z0 z1) ih v3 (0 : Int32) _ _ _ hf hP hS (lv_sub hl [0, 1, 3] rfl)
          · have hf := if_t c5 hf
            exact hL_29 (fun z0 z1 => f_X6_isFixed_4 sg a1 n z0 z1) ih v3 _ _ _ hf hP hS (lv_sub hl [0, 1, 3] rfl)
  unfold f_X6_isFixed at hf
  have hl := lv_entry ([.ref (ad 0), .int a1]) (n := 4) (Nat.le_of_ble_eq_true rfl)
  rw [lg_entry_eq]
  generalize (lg_sl ([.ref (ad 0), .int a1]) ++ List.replicate (4 - (lg_sl ([.ref (ad 0), .int a1])).length) Slot.unset).toArray = ls at hl ⊢
  have hl : lv_has ls 4 [(0, .ref (ad 0)), (1, .int a1)] := hl
  refine lv_iconst (v := (0 : Int32)) hx hb dX6_isFixed_0 (by decide) ?_
  refine lv_istore_n (lv' := [(2, .int (0 : Int32)), (0, .ref (ad 0)), (1, .int a1)]) hx hb dX6_isFixed_1 rfl hl (by decide) rfl (fun ls hl => ?_)
  refine lv_iconst (v := (0 : Int32)) hx hb dX6_isFixed_2 (by decide) ?_
  refine lv_istore_n (lv' := [(3, .int (0 : Int32)), (2, .int (0 : Int32)), (0, .ref (ad 0)), (1, .int a1)]) hx hb dX6_isFixed_3 rfl hl (by decide) rfl (fun ls hl => ?_)
  exact hL_4 64 (0 : Int32) (0 : Int32) _ _ _ hf hP hS (lv_sub hl [2, 3, 1, 0] rfl)
set_option maxHeartbeats 4000000 in
set_option maxRecDepth 100000 in
theorem c_X6_addDuty (l : Launch) (g : dd_G) (ad : Nat → Nat) (X : va_W) (sz : Nat) (sg : dd_S) (r0 : Int32) (s0 : dd_S) (hf : f_X6_addDuty sg = some (r0, s0)) : Met l yX6_addDuty (lw_ws yX6_addDuty cX6_addDuty 1 (some .int)) ({ frames := 1, cells := 0, slots := 0, locals := 21 } : Room) (va_Pc [.ref (ad 0)] (PreW g (WM g ad sg ++ X) sz)) (QI g (WM g ad s0 ++ X) (dd_A 9 ad X sz) r0) 0 0 (dd_A 9 ad X sz) := by
  refine Met.ofW (cc := cX6_addDuty) (maxL := 1) (ret := some .int) (by decide) rfl ?_
  intro p e s m args below meth c s₁ B hml hv
  obtain ⟨rfl, rfl, hP, hK, hD0⟩ := hv
  have hx := B.exec
  have hb := B.bytes
  have hr := B.returns
  have hts := atoms_spec (ws := (lw_ws yX6_addDuty cX6_addDuty 1 (some .int))) B.pre
  have hts : ∀ w ∈ lw_all, w.before _ s = true := fun w h => hts w (List.mem_cons_of_mem _ h)
  have hown : s.vm.findClass RX6 = some m.cls := findClass_of_methodNamed B.named
  have hlocks := B.notSynchronized
  have hD : ∀ s2 : dd_S, va_D (dd_A 9 ad X s.heap.size) (WM g ad s2 ++ X) := fun s2 => dd_D (dd_A_D hD0)
  have hS : va_S (dd_A 9 ad X s.heap.size) s.heap s.heap [] := va_S.rf
  unfold f_X6_addDuty at hf
  have hl := lv_entry ([.ref (ad 0)]) (n := 1) (Nat.le_of_ble_eq_true rfl)
  rw [lg_entry_eq]
  generalize (lg_sl ([.ref (ad 0)]) ++ List.replicate (1 - (lg_sl ([.ref (ad 0)])).length) Slot.unset).toArray = ls at hl ⊢
  have hl : lv_has ls 1 [(0, .ref (ad 0))] := hl
  refine lv_aload_n hx hb dX6_addDuty_0 rfl (lv_at hl 0 rfl) ?_
  refine lv_iconst (v := (0 : Int32)) hx hb dX6_addDuty_1 (by decide) ?_
  obtain ⟨sg1, esg1, hf⟩ := lt_ex hf
  refine pf_X6_47 hx hb hts hown hK hP hD hS dX6_addDuty_2 (fun H locs hP hS => ?_)
  rw [← esg1] at hP
  refine lv_aload_n hx hb dX6_addDuty_5 rfl (lv_at hl 0 rfl) ?_
  refine gf_X6_57 hx hb hts hown hK hP dX6_addDuty_6 ?_
  refine lv_bipush (v := (12 : Int32)) hx hb dX6_addDuty_9 (by decide) ?_
  refine lv_icmp_ne (tgt := 20) hx hb dX6_addDuty_11 (by decide) (fun c2 => ?_) (fun c2 => ?_)
  · have hf := if_f c2 hf
    refine lv_aload_n hx hb dX6_addDuty_20 rfl (lv_at hl 0 rfl) ?_
    refine lv_dup hx hb dX6_addDuty_21 rfl ?_
    refine gf_X6_57 hx hb hts hown hK hP dX6_addDuty_22 ?_
    refine lv_iconst (v := (1 : Int32)) hx hb dX6_addDuty_25 (by decide) ?_
    refine lv_iadd hx hb dX6_addDuty_26 ?_
    obtain ⟨sg3, esg3, hf⟩ := lt_ex hf
    refine pf_X6_57 hx hb hts hown hK hP hD hS dX6_addDuty_27 (fun H locs hP hS => ?_)
    rw [← esg3] at hP
    refine lv_aload_n hx hb dX6_addDuty_30 rfl (lv_at hl 0 rfl) ?_
    refine gf_X6_57 hx hb hts hown hK hP dX6_addDuty_31 ?_
    refine lv_iconst (v := (1 : Int32)) hx hb dX6_addDuty_34 (by decide) ?_
    refine lv_isub hx hb dX6_addDuty_35 ?_
    exact W.iret (v := ((sg3 0 8) - (1 : Int32))) hx hb hr (fun t ht hW => ⟨⟨((sg3 0 8) - (1 : Int32)), (), rfl, (so2 hf).1, P_at2 (so2 hf).2 ht hP⟩, hS.F ht⟩) hS.2.2 dX6_addDuty_36
  · have hf := if_t c2 hf
    refine lv_aload_n hx hb dX6_addDuty_14 rfl (lv_at hl 0 rfl) ?_
    refine lv_iconst (v := (1 : Int32)) hx hb dX6_addDuty_15 (by decide) ?_
    obtain ⟨r6, sg5, q4, hf⟩ := bd2_so hf
    refine cl_i (va_runV (As := [.int (1 : Int32)]) (rest := []) ⟨hx, hb, hml, hown, hts⟩ (c_X6_no l g ad X _ sg1 (1 : Int32) r6 sg5 q4) (cwV 1 hts gl_X6_64 rfl rfl rfl yd_X6_no ⟨Nat.le_of_ble_eq_true rfl, Nat.le_of_ble_eq_true rfl⟩) (preV_of hK hP (hD sg1) (dd_at (by decide) cm_0) rfl) rfl rfl hl.1 rfl (lv_room (Nat.le_of_ble_eq_true rfl)) dX6_addDuty_16 ⟨Nat.le_of_ble_eq_true rfl, Nat.le_of_ble_eq_true rfl⟩) hS (fun q h => dd_A_mono hS.1 h) (fun q h => dd_A_mono hS.1 h) (fun H locs hP hS => ?_)
    exact W.iret (v := r6) hx hb hr (fun t ht hW => ⟨⟨r6, (), rfl, (so2 hf).1, P_at2 (so2 hf).2 ht hP⟩, hS.F ht⟩) hS.2.2 dX6_addDuty_19
set_option maxHeartbeats 4000000 in
set_option maxRecDepth 100000 in
theorem c_X6_hasDeparture (l : Launch) (g : dd_G) (ad : Nat → Nat) (X : va_W) (sz : Nat) (sg : dd_S) (a1 : Int32) (a2 : Int32) (r0 : Int32) (hf : f_X6_hasDeparture sg a1 a2 = some (r0)) : Met l yX6_hasDeparture (lw_ws yX6_hasDeparture cX6_hasDeparture 5 (some .boolean)) ({ frames := 0, cells := 0, slots := 0, locals := 0 } : Room) (va_Pc [.ref (ad 0), .int a1, .int a2] (PreW g (WM g ad sg ++ X) sz)) (QI g (WM g ad sg ++ X) (dd_A 9 ad X sz) r0) 0 0 (dd_A 9 ad X sz) := by
  refine Met.ofW (cc := cX6_hasDeparture) (maxL := 5) (ret := some .boolean) (by decide) rfl ?_
  intro p e s m args below meth c s₁ B hml hv
  obtain ⟨rfl, rfl, hP, hK, hD0⟩ := hv
  have hx := B.exec
  have hb := B.bytes
  have hr := B.returns
  have hts := atoms_spec (ws := (lw_ws yX6_hasDeparture cX6_hasDeparture 5 (some .boolean))) B.pre
  have hts : ∀ w ∈ lw_all, w.before _ s = true := fun w h => hts w (List.mem_cons_of_mem _ h)
  have hown : s.vm.findClass RX6 = some m.cls := findClass_of_methodNamed B.named
  have hlocks := B.notSynchronized
  have hD : ∀ s2 : dd_S, va_D (dd_A 9 ad X s.heap.size) (WM g ad s2 ++ X) := fun s2 => dd_D (dd_A_D hD0)
  have hS : va_S (dd_A 9 ad X s.heap.size) s.heap s.heap [] := va_S.rf
  have hL_50 : ∀ (k_5 : Int32 → Int32 → Option (Int32)) (hk_5 : ∀ (v3 : Int32) (v4 : Int32) (H : Heap) (locs : List Loc) (ls : Array Slot), k_5 v3 v4 = some (r0) → va_P g.1 vwCl (WM g ad sg ++ X) H → va_S (dd_A 9 ad X s.heap.size) s.heap H locs → lv_has ls 5 [(0, .ref (ad 0)), (1, .int a1), (2, .int a2), (3, .int v3), (4, .int v4)] → W p l e (headSpec (lw_ws yX6_hasDeparture cX6_hasDeparture 5 (some .boolean)) ({ frames := 0, cells := 0, slots := 0, locals := 0 } : Room)).room s m ([.ref (ad 0), .int a1, .int a2] : List Value).toArray below meth c H locs 0 0 (MQ below (QI g (WM g ad sg ++ X) (dd_A 9 ad X s.heap.size) r0) ([.ref (ad 0), .int a1, .int a2] : List Value).toArray s 0 0 (dd_A 9 ad X s.heap.size)) (F0 m 5 ls [])), ∀ (v4 : Int32) (t0 : Int32) (H : Heap) (locs : List Loc) (ls : Array Slot), f_X6_hasDeparture_50 sg a1 a2 k_5 v4 t0 = some (r0) → va_P g.1 vwCl (WM g ad sg ++ X) H → va_S (dd_A 9 ad X s.heap.size) s.heap H locs → lv_has ls 5 [(0, .ref (ad 0)), (1, .int a1), (2, .int a2), (4, .int v4)] → W p l e (headSpec (lw_ws yX6_hasDeparture cX6_hasDeparture 5 (some .boolean)) ({ frames := 0, cells := 0, slots := 0, locals := 0 } : Room)).room s m ([.ref (ad 0), .int a1, .int a2] : List Value).toArray below meth c H locs 0 0 (MQ below (QI g (WM g ad sg ++ X) (dd_A 9 ad X s.heap.size) r0) ([.ref (ad 0), .int a1, .int a2] : List Value).toArray s 0 0 (dd_A 9 ad X s.heap.size)) (F0 m 50 ls [.int t0]) := by
    intro k_5 hk_5 v4 t0 H locs ls hf hP hS hl
    unfold f_X6_hasDeparture_50 at hf
    refine lv_istore_n (lv' := [(3, .int t0), (0, .ref (ad 0)), (1, .int a1), (2, .int a2), (4, .int v4)]) hx hb dX6_hasDeparture_50 rfl hl (by decide) rfl (fun ls hl => ?_)
    obtain ⟨x9, ex9, hf⟩ := lt_ex hf
    refine lv_iinc (v := x9) (lv' := [(4, .int x9), (3, .int t0), (0, .ref (ad 0)), (1, .int a1), (2, .int a2)]) hx hb dX6_hasDeparture_51 hl (k := 4) rfl (by rw [ex9]; rfl) (by decide) rfl (fun ls hl => ?_)
    refine lv_goto (tgt := 5) hx hb dX6_hasDeparture_54 (by decide) ?_
    exact hk_5 t0 x9 _ _ _ hf hP hS (lv_sub hl [2, 3, 4, 1, 0] rfl)
  have hL_45 : ∀ (k_5 : Int32 → Int32 → Option (Int32)) (hk_5 : ∀ (v3 : Int32) (v4 : Int32) (H : Heap) (locs : List Loc) (ls : Array Slot), k_5 v3 v4 = some (r0) → va_P g.1 vwCl (WM g ad sg ++ X) H → va_S (dd_A 9 ad X s.heap.size) s.heap H locs → lv_has ls 5 [(0, .ref (ad 0)), (1, .int a1), (2, .int a2), (3, .int v3), (4, .int v4)] → W p l e (headSpec (lw_ws yX6_hasDeparture cX6_hasDeparture 5 (some .boolean)) ({ frames := 0, cells := 0, slots := 0, locals := 0 } : Room)).room s m ([.ref (ad 0), .int a1, .int a2] : List Value).toArray below meth c H locs 0 0 (MQ below (QI g (WM g ad sg ++ X) (dd_A 9 ad X s.heap.size) r0) ([.ref (ad 0), .int a1, .int a2] : List Value).toArray s 0 0 (dd_A 9 ad X s.heap.size)) (F0 m 5 ls [])), ∀ (v4 : Int32) (H : Heap) (locs : List Loc) (ls : Array Slot), f_X6_hasDeparture_45 sg a1 a2 k_5 v4 = some (r0) → va_P g.1 vwCl (WM g ad sg ++ X) H → va_S (dd_A 9 ad X s.heap.size) s.heap H locs → lv_has ls 5 [(0, .ref (ad 0)), (1, .int a1), (2, .int a2), (4, .int v4)] → W p l e (headSpec (lw_ws yX6_hasDeparture cX6_hasDeparture 5 (some .boolean)) ({ frames := 0, cells := 0, slots := 0, locals := 0 } : Room)).room s m ([.ref (ad 0), .int a1, .int a2] : List Value).toArray below meth c H locs 0 0 (MQ below (QI g (WM g ad sg ++ X) (dd_A 9 ad X s.heap.size) r0) ([.ref (ad 0), .int a1, .int a2] : List Value).toArray s 0 0 (dd_A 9 ad X s.heap.size)) (F0 m 45 ls []) := by
    intro k_5 hk_5 v4 H locs ls hf hP hS hl
    unfold f_X6_hasDeparture_45 at hf
    refine lv_iconst (v := (1 : Int32)) hx hb dX6_hasDeparture_45 (by decide) ?_
    refine lv_goto (tgt := 50) hx hb dX6_hasDeparture_46 (by decide) ?_
    exact hL_50 k_5 hk_5 v4 (1 : Int32) _ _ _ hf hP hS (lv_sub hl [0, 1, 2, 3] rfl)
  have hL_49 : ∀ (k_5 : Int32 → Int32 → Option (Int32)) (hk_5 : ∀ (v3 : Int32) (v4 : Int32) (H : Heap) (locs : List Loc) (ls : Array Slot), k_5 v3 v4 = some (r0) → va_P g.1 vwCl (WM g ad sg ++ X) H → va_S (dd_A 9 ad X s.heap.size) s.heap H locs → lv_has ls 5 [(0, .ref (ad 0)), (1, .int a1), (2, .int a2), (3, .int v3), (4, .int v4)] → W p l e (headSpec (lw_ws yX6_hasDeparture cX6_hasDeparture 5 (some .boolean)) ({ frames := 0, cells := 0, slots := 0, locals := 0 } : Room)).room s m ([.ref (ad 0), .int a1, .int a2] : List Value).toArray below meth c H locs 0 0 (MQ below (QI g (WM g ad sg ++ X) (dd_A 9 ad X s.heap.size) r0) ([.ref (ad 0), .int a1, .int a2] : List Value).toArray s 0 0 (dd_A 9 ad X s.heap.size)) (F0 m 5 ls [])), ∀ (v4 : Int32) (H : Heap) (locs : List Loc) (ls : Array Slot), f_X6_hasDeparture_49 sg a1 a2 k_5 v4 = some (r0) → va_P g.1 vwCl (WM g ad sg ++ X) H → va_S (dd_A 9 ad X s.heap.size) s.heap H locs → lv_has ls 5 [(0, .ref (ad 0)), (1, .int a1), (2, .int a2), (4, .int v4)] → W p l e (headSpec (lw_ws yX6_hasDeparture cX6_hasDeparture 5 (some .boolean)) ({ frames := 0, cells := 0, slots := 0, locals := 0 } : Room)).room s m ([.ref (ad 0), .int a1, .int a2] : List Value).toArray below meth c H locs 0 0 (MQ below (QI g (WM g ad sg ++ X) (dd_A 9 ad X s.heap.size) r0) ([.ref (ad 0), .int a1, .int a2] : List Value).toArray s 0 0 (dd_A 9 ad X s.heap.size)) (F0 m 49 ls []) := by
    intro k_5 hk_5 v4 H locs ls hf hP hS hl
    unfold f_X6_hasDeparture_49 at hf
    refine lv_iconst (v := (0 : Int32)) hx hb dX6_hasDeparture_49 (by decide) ?_
    exact hL_50 k_5 hk_5 v4 (0 : Int32) _ _ _ hf hP hS (lv_sub hl [0, 1, 2, 3] rfl)
  have hL_5 : ∀ (n : Nat), ∀ (v3 : Int32) (v4 : Int32) (H : Heap) (locs : List Loc) (ls : Array Slot), f_X6_hasDeparture_5 sg a1 a2 n v3 v4 = some (r0) → va_P g.1 vwCl (WM g ad sg ++ X) H → va_S (dd_A 9 ad X s.heap.size) s.heap H locs → lv_has ls 5 [(0, .ref (ad 0)), (1, .int a1), (2, .int a2), (3, .int v3), (4, .int v4)] → W p l e (headSpec (lw_ws yX6_hasDeparture cX6_hasDeparture 5 (some .boolean)) ({ frames := 0, cells := 0, slots := 0, locals := 0 } : Room)).room s m ([.ref (ad 0), .int a1, .int a2] : List Value).toArray below meth c H locs 0 0 (MQ below (QI g (WM g ad sg ++ X) (dd_A 9 ad X s.heap.size) r0) ([.ref (ad 0), .int a1, .int a2] : List Value).toArray s 0 0 (dd_A 9 ad X s.heap.size)) (F0 m 5 ls []) := by
    intro n
    induction n with
    | zero =>
      intro v3 v4 H locs ls hf
      rw [f_X6_hasDeparture_5] at hf
      cases hf
    | succ n ih =>
      intro v3 v4 H locs ls hf hP hS hl
      rw [f_X6_hasDeparture_5] at hf
      refine lv_iload hx hb dX6_hasDeparture_5 (lv_at hl 4 rfl) ?_
      refine lv_aload_n hx hb dX6_hasDeparture_7 rfl (lv_at hl 0 rfl) ?_
      refine gf_X6_50 hx hb hts hown hK hP dX6_hasDeparture_8 ?_
      refine lv_icmp_ge (tgt := 57) hx hb dX6_hasDeparture_11 (by decide) (fun c1 => ?_) (fun c1 => ?_)
      · have hf := if_t c1 hf
        refine lv_iload_n hx hb dX6_hasDeparture_57 rfl (lv_at hl 3 rfl) ?_
        obtain ⟨hz2, hf⟩ := gd_so hf
        exact W.zret (v := v3) hx hb hr (bz_z hz2) (fun t ht hW => ⟨⟨v3, (), rfl, so1 hf, P_at ht hP⟩, hS.F ht⟩) hS.2.2 dX6_hasDeparture_58
      · have hf := if_f c1 hf
        refine lv_iload_n hx hb dX6_hasDeparture_14 rfl (lv_at hl 3 rfl) ?_
        refine lv_if_ne (tgt := 45) hx hb dX6_hasDeparture_15 (by decide) (fun c3 => ?_) (fun c3 => ?_)
        · have hf := if_f c3 hf
          exact hL_45 (fun z0 z1 => f_X6_hasDeparture_5 sg a1 a2 n z0 z1) ih v4 _ _ _ hf hP hS (lv_sub hl [0, 1, 2, 4] rfl)
        · have hf := if_t c3 hf
          refine lv_aload_n hx hb dX6_hasDeparture_18 rfl (lv_at hl 0 rfl) ?_
          refine gf_X6_25 hx hb hts hown hK hP dX6_hasDeparture_19 ?_
          refine lv_iload hx hb dX6_hasDeparture_22 (lv_at hl 4 rfl) ?_
          obtain ⟨hi4, hf⟩ := gd_so hf
          refine W_iald hx hb hK hP 6 (by decide) cm_6 (ix_in hi4) dX6_hasDeparture_24 ?_
          refine lv_iload_n hx hb dX6_hasDeparture_25 rfl (lv_at hl 1 rfl) ?_
          refine lv_icmp_ne (tgt := 49) hx hb dX6_hasDeparture_26 (by decide) (fun c5 => ?_) (fun c5 => ?_)
          · have hf := if_f c5 hf
            exact hL_49 (fun z0 z1 => f_X6_hasDeparture_5 sg a1 a2 n z0 z1) ih v4 _ _ _ hf hP hS (lv_sub hl [0, 1, 2, 4] rfl)
          · have hf := if_t c5 hf
            refine lv_aload_n hx hb dX6_hasDeparture_29 rfl (lv_at hl 0 rfl) ?_
            refine gf_X6_19 hx hb hts hown hK hP dX6_hasDeparture_30 ?_
            refine lv_iload hx hb dX6_hasDeparture_33 (lv_at hl 4 rfl) ?_
            obtain ⟨hi6, hf⟩ := gd_so hf
            refine W_iald hx hb hK hP 4 (by decide) cm_4 (ix_in hi6) dX6_hasDeparture_35 ?_
            refine lv_aload_n hx hb dX6_hasDeparture_36 rfl (lv_at hl 0 rfl) ?_
            refine gf_X6_19 hx hb hts hown hK hP dX6_hasDeparture_37 ?_
            refine lv_iload_n hx hb dX6_hasDeparture_40 rfl (lv_at hl 2 rfl) ?_
            obtain ⟨hi7, hf⟩ := gd_so hf
            refine W_iald hx hb hK hP 4 (by decide) cm_4 (ix_in hi7) dX6_hasDeparture_41 ?_
            refine lv_icmp_ne (tgt := 49) hx hb dX6_hasDeparture_42 (by decide) (fun c8 => ?_) (fun c8 => ?_)
            · have hf := if_f c8 hf
              exact hL_49 (fun z0 z1 => f_X6_hasDeparture_5 sg a1 a2 n z0 z1) ih v4 _ _ _ hf hP hS (lv_sub hl [0, 1, 2, 4] rfl)
            · have hf := if_t c8 hf
              exact hL_45 (fun z0 z1 => f_X6_hasDeparture_5 sg a1 a2 n z0 z1) ih v4 _ _ _ hf hP hS (lv_sub hl [0, 1, 2, 4] rfl)
  unfold f_X6_hasDeparture at hf
  have hl := lv_entry ([.ref (ad 0), .int a1, .int a2]) (n := 5) (Nat.le_of_ble_eq_true rfl)
  rw [lg_entry_eq]
  generalize (lg_sl ([.ref (ad 0), .int a1, .int a2]) ++ List.replicate (5 - (lg_sl ([.ref (ad 0), .int a1, .int a2])).length) Slot.unset).toArray = ls at hl ⊢
  have hl : lv_has ls 5 [(0, .ref (ad 0)), (1, .int a1), (2, .int a2)] := hl
  refine lv_iconst (v := (0 : Int32)) hx hb dX6_hasDeparture_0 (by decide) ?_
  refine lv_istore_n (lv' := [(3, .int (0 : Int32)), (0, .ref (ad 0)), (1, .int a1), (2, .int a2)]) hx hb dX6_hasDeparture_1 rfl hl (by decide) rfl (fun ls hl => ?_)
  refine lv_iconst (v := (0 : Int32)) hx hb dX6_hasDeparture_2 (by decide) ?_
  refine lv_istore (lv' := [(4, .int (0 : Int32)), (3, .int (0 : Int32)), (0, .ref (ad 0)), (1, .int a1), (2, .int a2)]) hx hb dX6_hasDeparture_3 hl (by decide) rfl (fun ls hl => ?_)
  exact hL_5 64 (0 : Int32) (0 : Int32) _ _ _ hf hP hS (lv_sub hl [2, 3, 4, 1, 0] rfl)
set_option maxHeartbeats 4000000 in
set_option maxRecDepth 100000 in
theorem c_X6_canPut (l : Launch) (g : dd_G) (ad : Nat → Nat) (X : va_W) (sz : Nat) (sg : dd_S) (a1 : Int32) (a2 : Int32) (r0 : Int32) (s0 : dd_S) (hf : f_X6_canPut sg a1 a2 = some (r0, s0)) : Met l yX6_canPut (lw_ws yX6_canPut cX6_canPut 4 (some .boolean)) ({ frames := 2, cells := 0, slots := 0, locals := 50 } : Room) (va_Pc [.ref (ad 0), .int a1, .int a2] (PreW g (WM g ad sg ++ X) sz)) (QI g (WM g ad s0 ++ X) (dd_A 9 ad X sz) r0) 0 0 (dd_A 9 ad X sz) := by
  refine Met.ofW (cc := cX6_canPut) (maxL := 4) (ret := some .boolean) (by decide) rfl ?_
  intro p e s m args below meth c s₁ B hml hv
  obtain ⟨rfl, rfl, hP, hK, hD0⟩ := hv
  have hx := B.exec
  have hb := B.bytes
  have hr := B.returns
  have hts := atoms_spec (ws := (lw_ws yX6_canPut cX6_canPut 4 (some .boolean))) B.pre
  have hts : ∀ w ∈ lw_all, w.before _ s = true := fun w h => hts w (List.mem_cons_of_mem _ h)
  have hown : s.vm.findClass RX6 = some m.cls := findClass_of_methodNamed B.named
  have hlocks := B.notSynchronized
  have hD : ∀ s2 : dd_S, va_D (dd_A 9 ad X s.heap.size) (WM g ad s2 ++ X) := fun s2 => dd_D (dd_A_D hD0)
  have hS : va_S (dd_A 9 ad X s.heap.size) s.heap s.heap [] := va_S.rf
  have hL_27 : ∀ (sg : dd_S) (H : Heap) (locs : List Loc) (ls : Array Slot), f_X6_canPut_27 a1 a2 sg = some (r0, s0) → va_P g.1 vwCl (WM g ad sg ++ X) H → va_S (dd_A 9 ad X s.heap.size) s.heap H locs → lv_has ls 4 [] → W p l e (headSpec (lw_ws yX6_canPut cX6_canPut 4 (some .boolean)) ({ frames := 2, cells := 0, slots := 0, locals := 50 } : Room)).room s m ([.ref (ad 0), .int a1, .int a2] : List Value).toArray below meth c H locs 0 0 (MQ below (QI g (WM g ad s0 ++ X) (dd_A 9 ad X s.heap.size) r0) ([.ref (ad 0), .int a1, .int a2] : List Value).toArray s 0 0 (dd_A 9 ad X s.heap.size)) (F0 m 27 ls []) := by
    intro sg H locs ls hf hP hS hl
    unfold f_X6_canPut_27 at hf
    refine lv_iconst (v := (0 : Int32)) hx hb dX6_canPut_27 (by decide) ?_
    exact W.zret (v := (0 : Int32)) hx hb hr rfl (fun t ht hW => ⟨⟨(0 : Int32), (), rfl, (so2 hf).1, P_at2 (so2 hf).2 ht hP⟩, hS.F ht⟩) hS.2.2 dX6_canPut_28
  unfold f_X6_canPut at hf
  have hl := lv_entry ([.ref (ad 0), .int a1, .int a2]) (n := 4) (Nat.le_of_ble_eq_true rfl)
  rw [lg_entry_eq]
  generalize (lg_sl ([.ref (ad 0), .int a1, .int a2]) ++ List.replicate (4 - (lg_sl ([.ref (ad 0), .int a1, .int a2])).length) Slot.unset).toArray = ls at hl ⊢
  have hl : lv_has ls 4 [(0, .ref (ad 0)), (1, .int a1), (2, .int a2)] := hl
  refine lv_aload_n hx hb dX6_canPut_0 rfl (lv_at hl 0 rfl) ?_
  refine gf_X6_25 hx hb hts hown hK hP dX6_canPut_1 ?_
  refine lv_iload_n hx hb dX6_canPut_4 rfl (lv_at hl 2 rfl) ?_
  obtain ⟨hi1, hf⟩ := gd_so hf
  refine W_iald hx hb hK hP 6 (by decide) cm_6 (ix_in hi1) dX6_canPut_5 ?_
  refine lv_iconst (v := (-1 : Int32)) hx hb dX6_canPut_6 (by decide) ?_
  refine lv_icmp_ne (tgt := 27) hx hb dX6_canPut_7 (by decide) (fun c2 => ?_) (fun c2 => ?_)
  · have hf := if_f c2 hf
    exact hL_27 sg _ _ _ hf hP hS (lv_sub hl [] rfl)
  · have hf := if_t c2 hf
    refine lv_aload_n hx hb dX6_canPut_10 rfl (lv_at hl 0 rfl) ?_
    refine lv_iload_n hx hb dX6_canPut_11 rfl (lv_at hl 1 rfl) ?_
    obtain ⟨r4, q3, hf⟩ := bd_so hf
    refine cl_i (va_runV (As := [.int a1]) (rest := []) ⟨hx, hb, hml, hown, hts⟩ (c_X6_isFixed l g ad X _ sg a1 r4 q3) (cwV 1 hts gl_X6_119 rfl rfl rfl yd_X6_isFixed ⟨Nat.le_of_ble_eq_true rfl, Nat.le_of_ble_eq_true rfl⟩) (preV_of hK hP (hD sg) (dd_at (by decide) cm_0) rfl) rfl rfl hl.1 rfl (lv_room (Nat.le_of_ble_eq_true rfl)) dX6_canPut_12 ⟨Nat.le_of_ble_eq_true rfl, Nat.le_of_ble_eq_true rfl⟩) hS (fun q h => dd_A_mono hS.1 h) (fun q h => dd_A_mono hS.1 h) (fun H locs hP hS => ?_)
    refine lv_if_ne (tgt := 27) hx hb dX6_canPut_15 (by decide) (fun c5 => ?_) (fun c5 => ?_)
    · have hf := if_f c5 hf
      exact hL_27 sg _ _ _ hf hP hS (lv_sub hl [] rfl)
    · have hf := if_t c5 hf
      refine lv_aload_n hx hb dX6_canPut_18 rfl (lv_at hl 0 rfl) ?_
      refine lv_iload_n hx hb dX6_canPut_19 rfl (lv_at hl 1 rfl) ?_
      refine lv_iload_n hx hb dX6_canPut_20 rfl (lv_at hl 2 rfl) ?_
      obtain ⟨r7, q6, hf⟩ := bd_so hf
      refine cl_i (va_runV (As := [.int a1, .int a2]) (rest := []) ⟨hx, hb, hml, hown, hts⟩ (c_X6_hasDeparture l g ad X _ sg a1 a2 r7 q6) (cwV 2 hts gl_X6_122 rfl rfl rfl yd_X6_hasDeparture ⟨Nat.le_of_ble_eq_true rfl, Nat.le_of_ble_eq_true rfl⟩) (preV_of hK hP (hD sg) (dd_at (by decide) cm_0) rfl) rfl rfl hl.1 rfl (lv_room (Nat.le_of_ble_eq_true rfl)) dX6_canPut_21 ⟨Nat.le_of_ble_eq_true rfl, Nat.le_of_ble_eq_true rfl⟩) hS (fun q h => dd_A_mono hS.1 h) (fun q h => dd_A_mono hS.1 h) (fun H locs hP hS => ?_)
      refine lv_if_eq (tgt := 29) hx hb dX6_canPut_24 (by decide) (fun c8 => ?_) (fun c8 => ?_)
      · have hf := if_t c8 hf
        refine lv_aload_n hx hb dX6_canPut_29 rfl (lv_at hl 0 rfl) ?_
        refine gf_X6_25 hx hb hts hown hK hP dX6_canPut_30 ?_
        refine lv_iload_n hx hb dX6_canPut_33 rfl (lv_at hl 2 rfl) ?_
        refine lv_iload_n hx hb dX6_canPut_34 rfl (lv_at hl 1 rfl) ?_
        obtain ⟨hi9, hf⟩ := gd_so hf
        obtain ⟨sg10, esg10, hf⟩ := lt_ex hf
        refine W_iast hx hb hK hP hD hS 6 (by decide) (fun _ => cm_6) (ix_in hi9) dX6_canPut_35 (fun H locs hP hS => ?_)
        rw [← esg10] at hP
        refine lv_aload_n hx hb dX6_canPut_36 rfl (lv_at hl 0 rfl) ?_
        refine lv_iload_n hx hb dX6_canPut_37 rfl (lv_at hl 1 rfl) ?_
        obtain ⟨r13, sg12, q11, hf⟩ := bd2_so hf
        refine cl_i (va_runV (As := [.int a1]) (rest := []) ⟨hx, hb, hml, hown, hts⟩ (c_X6_look l g ad X _ sg10 a1 r13 sg12 q11) (cwV 1 hts gl_X6_71 rfl rfl rfl yd_X6_look ⟨Nat.le_of_ble_eq_true rfl, Nat.le_of_ble_eq_true rfl⟩) (preV_of hK hP (hD sg10) (dd_at (by decide) cm_0) rfl) rfl rfl hl.1 rfl (lv_room (Nat.le_of_ble_eq_true rfl)) dX6_canPut_38 ⟨Nat.le_of_ble_eq_true rfl, Nat.le_of_ble_eq_true rfl⟩) hS (fun q h => dd_A_mono hS.1 h) (fun q h => dd_A_mono hS.1 h) (fun H locs hP hS => ?_)
        refine lv_istore_n (lv' := [(3, .int r13), (0, .ref (ad 0)), (1, .int a1), (2, .int a2)]) hx hb dX6_canPut_41 rfl hl (by decide) rfl (fun ls hl => ?_)
        refine lv_aload_n hx hb dX6_canPut_42 rfl (lv_at hl 1 rfl) ?_
        refine gf_X6_25 hx hb hts hown hK hP dX6_canPut_43 ?_
        refine lv_iload_n hx hb dX6_canPut_46 rfl (lv_at hl 3 rfl) ?_
        refine lv_iconst (v := (-1 : Int32)) hx hb dX6_canPut_47 (by decide) ?_
        obtain ⟨hi14, hf⟩ := gd_so hf
        obtain ⟨sg15, esg15, hf⟩ := lt_ex hf
        refine W_iast hx hb hK hP hD hS 6 (by decide) (fun _ => cm_6) (ix_in hi14) dX6_canPut_48 (fun H locs hP hS => ?_)
        rw [← esg15] at hP
        refine lv_iload_n hx hb dX6_canPut_49 rfl (lv_at hl 0 rfl) ?_
        obtain ⟨hz16, hf⟩ := gd_so hf
        exact W.zret (v := r13) hx hb hr (bz_z hz16) (fun t ht hW => ⟨⟨r13, (), rfl, (so2 hf).1, P_at2 (so2 hf).2 ht hP⟩, hS.F ht⟩) hS.2.2 dX6_canPut_50
      · have hf := if_f c8 hf
        exact hL_27 sg _ _ _ hf hP hS (lv_sub hl [] rfl)
set_option maxHeartbeats 4000000 in
set_option maxRecDepth 100000 in
theorem c_X6_put (l : Launch) (g : dd_G) (ad : Nat → Nat) (X : va_W) (sz : Nat) (sg : dd_S) (a1 : Int32) (a2 : Int32) (r0 : Int32) (s0 : dd_S) (hf : f_X6_put sg a1 a2 = some (r0, s0)) : Met l yX6_put (lw_ws yX6_put cX6_put 4 (some .int)) ({ frames := 3, cells := 0, slots := 0, locals := 73 } : Room) (va_Pc [.ref (ad 0), .int a1, .int a2] (PreW g (WM g ad sg ++ X) sz)) (QI g (WM g ad s0 ++ X) (dd_A 9 ad X sz) r0) 0 0 (dd_A 9 ad X sz) := by
  refine Met.ofW (cc := cX6_put) (maxL := 4) (ret := some .int) (by decide) rfl ?_
  intro p e s m args below meth c s₁ B hml hv
  obtain ⟨rfl, rfl, hP, hK, hD0⟩ := hv
  have hx := B.exec
  have hb := B.bytes
  have hr := B.returns
  have hts := atoms_spec (ws := (lw_ws yX6_put cX6_put 4 (some .int))) B.pre
  have hts : ∀ w ∈ lw_all, w.before _ s = true := fun w h => hts w (List.mem_cons_of_mem _ h)
  have hown : s.vm.findClass RX6 = some m.cls := findClass_of_methodNamed B.named
  have hlocks := B.notSynchronized
  have hD : ∀ s2 : dd_S, va_D (dd_A 9 ad X s.heap.size) (WM g ad s2 ++ X) := fun s2 => dd_D (dd_A_D hD0)
  have hS : va_S (dd_A 9 ad X s.heap.size) s.heap s.heap [] := va_S.rf
  have hL_21 : ∀ (sg : dd_S) (H : Heap) (locs : List Loc) (ls : Array Slot), f_X6_put_21 a1 a2 sg = some (r0, s0) → va_P g.1 vwCl (WM g ad sg ++ X) H → va_S (dd_A 9 ad X s.heap.size) s.heap H locs → lv_has ls 4 [(0, .ref (ad 0))] → W p l e (headSpec (lw_ws yX6_put cX6_put 4 (some .int)) ({ frames := 3, cells := 0, slots := 0, locals := 73 } : Room)).room s m ([.ref (ad 0), .int a1, .int a2] : List Value).toArray below meth c H locs 0 0 (MQ below (QI g (WM g ad s0 ++ X) (dd_A 9 ad X s.heap.size) r0) ([.ref (ad 0), .int a1, .int a2] : List Value).toArray s 0 0 (dd_A 9 ad X s.heap.size)) (F0 m 21 ls []) := by
    intro sg H locs ls hf hP hS hl
    unfold f_X6_put_21 at hf
    refine lv_aload_n hx hb dX6_put_21 rfl (lv_at hl 0 rfl) ?_
    refine lv_iconst (v := (1 : Int32)) hx hb dX6_put_22 (by decide) ?_
    obtain ⟨r21, sg20, q19, hf⟩ := bd2_so hf
    refine cl_i (va_runV (As := [.int (1 : Int32)]) (rest := []) ⟨hx, hb, hml, hown, hts⟩ (c_X6_no l g ad X _ sg (1 : Int32) r21 sg20 q19) (cwV 1 hts gl_X6_64 rfl rfl rfl yd_X6_no ⟨Nat.le_of_ble_eq_true rfl, Nat.le_of_ble_eq_true rfl⟩) (preV_of hK hP (hD sg) (dd_at (by decide) cm_0) rfl) rfl rfl hl.1 rfl (lv_room (Nat.le_of_ble_eq_true rfl)) dX6_put_23 ⟨Nat.le_of_ble_eq_true rfl, Nat.le_of_ble_eq_true rfl⟩) hS (fun q h => dd_A_mono hS.1 h) (fun q h => dd_A_mono hS.1 h) (fun H locs hP hS => ?_)
    exact W.iret (v := r21) hx hb hr (fun t ht hW => ⟨⟨r21, (), rfl, (so2 hf).1, P_at2 (so2 hf).2 ht hP⟩, hS.F ht⟩) hS.2.2 dX6_put_26
  have hL_56 : ∀ (n : Nat), ∀ (sg : dd_S) (v3 : Int32) (H : Heap) (locs : List Loc) (ls : Array Slot), f_X6_put_56 a1 a2 n sg v3 = some (r0, s0) → va_P g.1 vwCl (WM g ad sg ++ X) H → va_S (dd_A 9 ad X s.heap.size) s.heap H locs → lv_has ls 4 [(0, .ref (ad 0)), (2, .int a2), (3, .int v3)] → W p l e (headSpec (lw_ws yX6_put cX6_put 4 (some .int)) ({ frames := 3, cells := 0, slots := 0, locals := 73 } : Room)).room s m ([.ref (ad 0), .int a1, .int a2] : List Value).toArray below meth c H locs 0 0 (MQ below (QI g (WM g ad s0 ++ X) (dd_A 9 ad X s.heap.size) r0) ([.ref (ad 0), .int a1, .int a2] : List Value).toArray s 0 0 (dd_A 9 ad X s.heap.size)) (F0 m 56 ls []) := by
    intro n
    induction n with
    | zero =>
      intro sg v3 H locs ls hf
      rw [f_X6_put_56] at hf
      cases hf
    | succ n ih =>
      intro sg v3 H locs ls hf hP hS hl
      rw [f_X6_put_56] at hf
      refine lv_aload_n hx hb dX6_put_56 rfl (lv_at hl 0 rfl) ?_
      refine gf_X6_44 hx hb hts hown hK hP dX6_put_57 ?_
      refine lv_iload_n hx hb dX6_put_60 rfl (lv_at hl 2 rfl) ?_
      obtain ⟨hi22, hf⟩ := gd_so hf
      refine W_iald hx hb hK hP 8 (by decide) cm_8 (ix_in hi22) dX6_put_61 ?_
      refine lv_iload_n hx hb dX6_put_62 rfl (lv_at hl 1 rfl) ?_
      refine lv_icmp_eq (tgt := 72) hx hb dX6_put_63 (by decide) (fun c23 => ?_) (fun c23 => ?_)
      · have hf := if_t c23 hf
        refine lv_iload_n hx hb dX6_put_72 rfl (lv_at hl 2 rfl) ?_
        exact W.iret (v := v3) hx hb hr (fun t ht hW => ⟨⟨v3, (), rfl, (so2 hf).1, P_at2 (so2 hf).2 ht hP⟩, hS.F ht⟩) hS.2.2 dX6_put_73
      · have hf := if_f c23 hf
        obtain ⟨x24, ex24, hf⟩ := lt_ex hf
        refine lv_iinc (v := x24) (lv' := [(3, .int x24), (0, .ref (ad 0)), (2, .int a2)]) hx hb dX6_put_66 hl (k := 2) rfl (by rw [ex24]; rfl) (by decide) rfl (fun ls hl => ?_)
        refine lv_goto (tgt := 56) hx hb dX6_put_69 (by decide) ?_
        exact ih sg x24 _ _ _ hf hP hS (lv_sub hl [1, 2, 0] rfl)
  unfold f_X6_put at hf
  have hl := lv_entry ([.ref (ad 0), .int a1, .int a2]) (n := 4) (Nat.le_of_ble_eq_true rfl)
  rw [lg_entry_eq]
  generalize (lg_sl ([.ref (ad 0), .int a1, .int a2]) ++ List.replicate (4 - (lg_sl ([.ref (ad 0), .int a1, .int a2])).length) Slot.unset).toArray = ls at hl ⊢
  have hl : lv_has ls 4 [(0, .ref (ad 0)), (1, .int a1), (2, .int a2)] := hl
  refine lv_aload_n hx hb dX6_put_0 rfl (lv_at hl 0 rfl) ?_
  refine lv_iconst (v := (0 : Int32)) hx hb dX6_put_1 (by decide) ?_
  obtain ⟨sg1, esg1, hf⟩ := lt_ex hf
  refine pf_X6_47 hx hb hts hown hK hP hD hS dX6_put_2 (fun H locs hP hS => ?_)
  rw [← esg1] at hP
  refine lv_aload_n hx hb dX6_put_5 rfl (lv_at hl 0 rfl) ?_
  refine lv_iload_n hx hb dX6_put_6 rfl (lv_at hl 1 rfl) ?_
  obtain ⟨r3, q2, hf⟩ := bd_so hf
  refine cl_i (va_runV (As := [.int a1]) (rest := []) ⟨hx, hb, hml, hown, hts⟩ (c_X6_isDuty l g ad X _ sg1 a1 r3 q2) (cwV 1 hts gl_X6_126 rfl rfl rfl yd_X6_isDuty ⟨Nat.le_of_ble_eq_true rfl, Nat.le_of_ble_eq_true rfl⟩) (preV_of hK hP (hD sg1) (dd_at (by decide) cm_0) rfl) rfl rfl hl.1 rfl (lv_room (Nat.le_of_ble_eq_true rfl)) dX6_put_7 ⟨Nat.le_of_ble_eq_true rfl, Nat.le_of_ble_eq_true rfl⟩) hS (fun q h => dd_A_mono hS.1 h) (fun q h => dd_A_mono hS.1 h) (fun H locs hP hS => ?_)
  refine lv_if_eq (tgt := 21) hx hb dX6_put_10 (by decide) (fun c4 => ?_) (fun c4 => ?_)
  · have hf := if_t c4 hf
    exact hL_21 sg1 _ _ _ hf hP hS (lv_sub hl [0] rfl)
  · have hf := if_f c4 hf
    refine lv_aload_n hx hb dX6_put_13 rfl (lv_at hl 0 rfl) ?_
    refine lv_iload_n hx hb dX6_put_14 rfl (lv_at hl 2 rfl) ?_
    obtain ⟨r6, q5, hf⟩ := bd_so hf
    refine cl_i (va_runV (As := [.int a2]) (rest := []) ⟨hx, hb, hml, hown, hts⟩ (c_X6_isTrip l g ad X _ sg1 a2 r6 q5) (cwV 1 hts gl_X6_68 rfl rfl rfl yd_X6_isTrip ⟨Nat.le_of_ble_eq_true rfl, Nat.le_of_ble_eq_true rfl⟩) (preV_of hK hP (hD sg1) (dd_at (by decide) cm_0) rfl) rfl rfl hl.1 rfl (lv_room (Nat.le_of_ble_eq_true rfl)) dX6_put_15 ⟨Nat.le_of_ble_eq_true rfl, Nat.le_of_ble_eq_true rfl⟩) hS (fun q h => dd_A_mono hS.1 h) (fun q h => dd_A_mono hS.1 h) (fun H locs hP hS => ?_)
    refine lv_if_ne (tgt := 27) hx hb dX6_put_18 (by decide) (fun c7 => ?_) (fun c7 => ?_)
    · have hf := if_f c7 hf
      refine lv_aload_n hx hb dX6_put_27 rfl (lv_at hl 0 rfl) ?_
      refine lv_iload_n hx hb dX6_put_28 rfl (lv_at hl 1 rfl) ?_
      refine lv_iload_n hx hb dX6_put_29 rfl (lv_at hl 2 rfl) ?_
      obtain ⟨r10, sg9, q8, hf⟩ := bd2_so hf
      refine cl_i (va_runV (As := [.int a1, .int a2]) (rest := []) ⟨hx, hb, hml, hown, hts⟩ (c_X6_canPut l g ad X _ sg1 a1 a2 r10 sg9 q8) (cwV 2 hts gl_X6_129 rfl rfl rfl yd_X6_canPut ⟨Nat.le_of_ble_eq_true rfl, Nat.le_of_ble_eq_true rfl⟩) (preV_of hK hP (hD sg1) (dd_at (by decide) cm_0) rfl) rfl rfl hl.1 rfl (lv_room (Nat.le_of_ble_eq_true rfl)) dX6_put_30 ⟨Nat.le_of_ble_eq_true rfl, Nat.le_of_ble_eq_true rfl⟩) hS (fun q h => dd_A_mono hS.1 h) (fun q h => dd_A_mono hS.1 h) (fun H locs hP hS => ?_)
      refine lv_if_ne (tgt := 42) hx hb dX6_put_33 (by decide) (fun c11 => ?_) (fun c11 => ?_)
      · have hf := if_f c11 hf
        refine lv_aload_n hx hb dX6_put_42 rfl (lv_at hl 0 rfl) ?_
        refine gf_X6_25 hx hb hts hown hK hP dX6_put_43 ?_
        refine lv_iload_n hx hb dX6_put_46 rfl (lv_at hl 2 rfl) ?_
        refine lv_iload_n hx hb dX6_put_47 rfl (lv_at hl 1 rfl) ?_
        obtain ⟨hi12, hf⟩ := gd_so hf
        obtain ⟨sg13, esg13, hf⟩ := lt_ex hf
        refine W_iast hx hb hK hP hD hS 6 (by decide) (fun _ => cm_6) (ix_in hi12) dX6_put_48 (fun H locs hP hS => ?_)
        rw [← esg13] at hP
        refine lv_aload_n hx hb dX6_put_49 rfl (lv_at hl 0 rfl) ?_
        refine lv_iload_n hx hb dX6_put_50 rfl (lv_at hl 1 rfl) ?_
        obtain ⟨sg15, q14, hf⟩ := bd_so hf
        refine cl_v (va_runV (As := [.int a1]) (rest := []) ⟨hx, hb, hml, hown, hts⟩ (c_X6_sort l g ad X _ sg13 a1 sg15 q14) (cwV 1 hts gl_X6_84 rfl rfl rfl yd_X6_sort ⟨Nat.le_of_ble_eq_true rfl, Nat.le_of_ble_eq_true rfl⟩) (preV_of hK hP (hD sg13) (dd_at (by decide) cm_0) rfl) rfl rfl hl.1 rfl (lv_room (Nat.le_of_ble_eq_true rfl)) dX6_put_51 ⟨Nat.le_of_ble_eq_true rfl, Nat.le_of_ble_eq_true rfl⟩) hS (fun q h => dd_A_mono hS.1 h) (fun q h => dd_A_mono hS.1 h) (fun H locs hP hS => ?_)
        refine lv_iconst (v := (0 : Int32)) hx hb dX6_put_54 (by decide) ?_
        refine lv_istore_n (lv' := [(3, .int (0 : Int32)), (0, .ref (ad 0)), (1, .int a1), (2, .int a2)]) hx hb dX6_put_55 rfl hl (by decide) rfl (fun ls hl => ?_)
        exact hL_56 64 sg15 (0 : Int32) _ _ _ hf hP hS (lv_sub hl [1, 3, 0] rfl)
      · have hf := if_t c11 hf
        refine lv_aload_n hx hb dX6_put_36 rfl (lv_at hl 0 rfl) ?_
        refine lv_iconst (v := (2 : Int32)) hx hb dX6_put_37 (by decide) ?_
        obtain ⟨r18, sg17, q16, hf⟩ := bd2_so hf
        refine cl_i (va_runV (As := [.int (2 : Int32)]) (rest := []) ⟨hx, hb, hml, hown, hts⟩ (c_X6_no l g ad X _ sg9 (2 : Int32) r18 sg17 q16) (cwV 1 hts gl_X6_64 rfl rfl rfl yd_X6_no ⟨Nat.le_of_ble_eq_true rfl, Nat.le_of_ble_eq_true rfl⟩) (preV_of hK hP (hD sg9) (dd_at (by decide) cm_0) rfl) rfl rfl hl.1 rfl (lv_room (Nat.le_of_ble_eq_true rfl)) dX6_put_38 ⟨Nat.le_of_ble_eq_true rfl, Nat.le_of_ble_eq_true rfl⟩) hS (fun q h => dd_A_mono hS.1 h) (fun q h => dd_A_mono hS.1 h) (fun H locs hP hS => ?_)
        exact W.iret (v := r18) hx hb hr (fun t ht hW => ⟨⟨r18, (), rfl, (so2 hf).1, P_at2 (so2 hf).2 ht hP⟩, hS.F ht⟩) hS.2.2 dX6_put_41
    · have hf := if_t c7 hf
      exact hL_21 sg1 _ _ _ hf hP hS (lv_sub hl [0] rfl)
set_option maxHeartbeats 4000000 in
set_option maxRecDepth 100000 in
theorem c_X6_takeOut (l : Launch) (g : dd_G) (ad : Nat → Nat) (X : va_W) (sz : Nat) (sg : dd_S) (a1 : Int32) (r0 : Int32) (s0 : dd_S) (hf : f_X6_takeOut sg a1 = some (r0, s0)) : Met l yX6_takeOut (lw_ws yX6_takeOut cX6_takeOut 3 (some .int)) ({ frames := 2, cells := 0, slots := 0, locals := 50 } : Room) (va_Pc [.ref (ad 0), .int a1] (PreW g (WM g ad sg ++ X) sz)) (QI g (WM g ad s0 ++ X) (dd_A 9 ad X sz) r0) 0 0 (dd_A 9 ad X sz) := by
  refine Met.ofW (cc := cX6_takeOut) (maxL := 3) (ret := some .int) (by decide) rfl ?_
  intro p e s m args below meth c s₁ B hml hv
  obtain ⟨rfl, rfl, hP, hK, hD0⟩ := hv
  have hx := B.exec
  have hb := B.bytes
  have hr := B.returns
  have hts := atoms_spec (ws := (lw_ws yX6_takeOut cX6_takeOut 3 (some .int))) B.pre
  have hts : ∀ w ∈ lw_all, w.before _ s = true := fun w h => hts w (List.mem_cons_of_mem _ h)
  have hown : s.vm.findClass RX6 = some m.cls := findClass_of_methodNamed B.named
  have hlocks := B.notSynchronized
  have hD : ∀ s2 : dd_S, va_D (dd_A 9 ad X s.heap.size) (WM g ad s2 ++ X) := fun s2 => dd_D (dd_A_D hD0)
  have hS : va_S (dd_A 9 ad X s.heap.size) s.heap s.heap [] := va_S.rf
  have hL_39 : ∀ (sg : dd_S) (H : Heap) (locs : List Loc) (ls : Array Slot), f_X6_takeOut_39 a1 sg = some (r0, s0) → va_P g.1 vwCl (WM g ad sg ++ X) H → va_S (dd_A 9 ad X s.heap.size) s.heap H locs → lv_has ls 3 [(0, .ref (ad 0))] → W p l e (headSpec (lw_ws yX6_takeOut cX6_takeOut 3 (some .int)) ({ frames := 2, cells := 0, slots := 0, locals := 50 } : Room)).room s m ([.ref (ad 0), .int a1] : List Value).toArray below meth c H locs 0 0 (MQ below (QI g (WM g ad s0 ++ X) (dd_A 9 ad X s.heap.size) r0) ([.ref (ad 0), .int a1] : List Value).toArray s 0 0 (dd_A 9 ad X s.heap.size)) (F0 m 39 ls []) := by
    intro sg H locs ls hf hP hS hl
    unfold f_X6_takeOut_39 at hf
    refine lv_aload_n hx hb dX6_takeOut_39 rfl (lv_at hl 0 rfl) ?_
    refine lv_iconst (v := (2 : Int32)) hx hb dX6_takeOut_40 (by decide) ?_
    obtain ⟨r27, sg26, q25, hf⟩ := bd2_so hf
    refine cl_i (va_runV (As := [.int (2 : Int32)]) (rest := []) ⟨hx, hb, hml, hown, hts⟩ (c_X6_no l g ad X _ sg (2 : Int32) r27 sg26 q25) (cwV 1 hts gl_X6_64 rfl rfl rfl yd_X6_no ⟨Nat.le_of_ble_eq_true rfl, Nat.le_of_ble_eq_true rfl⟩) (preV_of hK hP (hD sg) (dd_at (by decide) cm_0) rfl) rfl rfl hl.1 rfl (lv_room (Nat.le_of_ble_eq_true rfl)) dX6_takeOut_41 ⟨Nat.le_of_ble_eq_true rfl, Nat.le_of_ble_eq_true rfl⟩) hS (fun q h => dd_A_mono hS.1 h) (fun q h => dd_A_mono hS.1 h) (fun H locs hP hS => ?_)
    exact W.iret (v := r27) hx hb hr (fun t ht hW => ⟨⟨r27, (), rfl, (so2 hf).1, P_at2 (so2 hf).2 ht hP⟩, hS.F ht⟩) hS.2.2 dX6_takeOut_44
  unfold f_X6_takeOut at hf
  have hl := lv_entry ([.ref (ad 0), .int a1]) (n := 3) (Nat.le_of_ble_eq_true rfl)
  rw [lg_entry_eq]
  generalize (lg_sl ([.ref (ad 0), .int a1]) ++ List.replicate (3 - (lg_sl ([.ref (ad 0), .int a1])).length) Slot.unset).toArray = ls at hl ⊢
  have hl : lv_has ls 3 [(0, .ref (ad 0)), (1, .int a1)] := hl
  refine lv_aload_n hx hb dX6_takeOut_0 rfl (lv_at hl 0 rfl) ?_
  refine lv_iconst (v := (0 : Int32)) hx hb dX6_takeOut_1 (by decide) ?_
  obtain ⟨sg1, esg1, hf⟩ := lt_ex hf
  refine pf_X6_47 hx hb hts hown hK hP hD hS dX6_takeOut_2 (fun H locs hP hS => ?_)
  rw [← esg1] at hP
  refine lv_aload_n hx hb dX6_takeOut_5 rfl (lv_at hl 0 rfl) ?_
  refine lv_iload_n hx hb dX6_takeOut_6 rfl (lv_at hl 1 rfl) ?_
  obtain ⟨r3, q2, hf⟩ := bd_so hf
  refine cl_i (va_runV (As := [.int a1]) (rest := []) ⟨hx, hb, hml, hown, hts⟩ (c_X6_isTrip l g ad X _ sg1 a1 r3 q2) (cwV 1 hts gl_X6_68 rfl rfl rfl yd_X6_isTrip ⟨Nat.le_of_ble_eq_true rfl, Nat.le_of_ble_eq_true rfl⟩) (preV_of hK hP (hD sg1) (dd_at (by decide) cm_0) rfl) rfl rfl hl.1 rfl (lv_room (Nat.le_of_ble_eq_true rfl)) dX6_takeOut_7 ⟨Nat.le_of_ble_eq_true rfl, Nat.le_of_ble_eq_true rfl⟩) hS (fun q h => dd_A_mono hS.1 h) (fun q h => dd_A_mono hS.1 h) (fun H locs hP hS => ?_)
  refine lv_if_ne (tgt := 19) hx hb dX6_takeOut_10 (by decide) (fun c4 => ?_) (fun c4 => ?_)
  · have hf := if_f c4 hf
    refine lv_aload_n hx hb dX6_takeOut_19 rfl (lv_at hl 0 rfl) ?_
    refine gf_X6_25 hx hb hts hown hK hP dX6_takeOut_20 ?_
    refine lv_iload_n hx hb dX6_takeOut_23 rfl (lv_at hl 1 rfl) ?_
    obtain ⟨hi5, hf⟩ := gd_so hf
    refine W_iald hx hb hK hP 6 (by decide) cm_6 (ix_in hi5) dX6_takeOut_24 ?_
    refine lv_topi (fun x6 ex6 => ?_)
    have hf := lt_so ex6 hf
    refine lv_istore_n (lv' := [(2, .int x6), (0, .ref (ad 0)), (1, .int a1)]) hx hb dX6_takeOut_25 rfl hl (by decide) rfl (fun ls hl => ?_)
    refine lv_iload_n hx hb dX6_takeOut_26 rfl (lv_at hl 0 rfl) ?_
    refine lv_iconst (v := (-1 : Int32)) hx hb dX6_takeOut_27 (by decide) ?_
    refine lv_icmp_eq (tgt := 39) hx hb dX6_takeOut_28 (by decide) (fun c7 => ?_) (fun c7 => ?_)
    · have hf := if_t c7 hf
      exact hL_39 sg1 _ _ _ hf hP hS (lv_sub hl [1] rfl)
    · have hf := if_f c7 hf
      refine lv_aload_n hx hb dX6_takeOut_31 rfl (lv_at hl 1 rfl) ?_
      refine lv_iload_n hx hb dX6_takeOut_32 rfl (lv_at hl 0 rfl) ?_
      obtain ⟨r9, q8, hf⟩ := bd_so hf
      refine cl_i (va_runV (As := [.int x6]) (rest := []) ⟨hx, hb, hml, hown, hts⟩ (c_X6_isFixed l g ad X _ sg1 x6 r9 q8) (cwV 1 hts gl_X6_119 rfl rfl rfl yd_X6_isFixed ⟨Nat.le_of_ble_eq_true rfl, Nat.le_of_ble_eq_true rfl⟩) (preV_of hK hP (hD sg1) (dd_at (by decide) cm_0) rfl) rfl rfl hl.1 rfl (lv_room (Nat.le_of_ble_eq_true rfl)) dX6_takeOut_33 ⟨Nat.le_of_ble_eq_true rfl, Nat.le_of_ble_eq_true rfl⟩) hS (fun q h => dd_A_mono hS.1 h) (fun q h => dd_A_mono hS.1 h) (fun H locs hP hS => ?_)
      refine lv_if_eq (tgt := 45) hx hb dX6_takeOut_36 (by decide) (fun c10 => ?_) (fun c10 => ?_)
      · have hf := if_t c10 hf
        refine lv_aload_n hx hb dX6_takeOut_45 rfl (lv_at hl 1 rfl) ?_
        refine gf_X6_25 hx hb hts hown hK hP dX6_takeOut_46 ?_
        refine lv_iload_n hx hb dX6_takeOut_49 rfl (lv_at hl 2 rfl) ?_
        refine lv_iconst (v := (-1 : Int32)) hx hb dX6_takeOut_50 (by decide) ?_
        obtain ⟨hi11, hf⟩ := gd_so hf
        obtain ⟨sg12, esg12, hf⟩ := lt_ex hf
        refine W_iast hx hb hK hP hD hS 6 (by decide) (fun _ => cm_6) (ix_in hi11) dX6_takeOut_51 (fun H locs hP hS => ?_)
        rw [← esg12] at hP
        refine lv_aload_n hx hb dX6_takeOut_52 rfl (lv_at hl 1 rfl) ?_
        refine lv_iload_n hx hb dX6_takeOut_53 rfl (lv_at hl 0 rfl) ?_
        obtain ⟨r15, sg14, q13, hf⟩ := bd2_so hf
        refine cl_i (va_runV (As := [.int x6]) (rest := []) ⟨hx, hb, hml, hown, hts⟩ (c_X6_look l g ad X _ sg12 x6 r15 sg14 q13) (cwV 1 hts gl_X6_71 rfl rfl rfl yd_X6_look ⟨Nat.le_of_ble_eq_true rfl, Nat.le_of_ble_eq_true rfl⟩) (preV_of hK hP (hD sg12) (dd_at (by decide) cm_0) rfl) rfl rfl hl.1 rfl (lv_room (Nat.le_of_ble_eq_true rfl)) dX6_takeOut_54 ⟨Nat.le_of_ble_eq_true rfl, Nat.le_of_ble_eq_true rfl⟩) hS (fun q h => dd_A_mono hS.1 h) (fun q h => dd_A_mono hS.1 h) (fun H locs hP hS => ?_)
        refine lv_if_eq (tgt := 62) hx hb dX6_takeOut_57 (by decide) (fun c16 => ?_) (fun c16 => ?_)
        · have hf := if_t c16 hf
          refine lv_aload_n hx hb dX6_takeOut_62 rfl (lv_at hl 1 rfl) ?_
          refine gf_X6_25 hx hb hts hown hK hP dX6_takeOut_63 ?_
          refine lv_iload_n hx hb dX6_takeOut_66 rfl (lv_at hl 2 rfl) ?_
          refine lv_iload_n hx hb dX6_takeOut_67 rfl (lv_at hl 0 rfl) ?_
          obtain ⟨hi17, hf⟩ := gd_so hf
          obtain ⟨sg18, esg18, hf⟩ := lt_ex hf
          refine W_iast hx hb hK hP hD hS 6 (by decide) (fun _ => cm_6) (ix_in hi17) dX6_takeOut_68 (fun H locs hP hS => ?_)
          rw [← esg18] at hP
          refine lv_aload_n hx hb dX6_takeOut_69 rfl (lv_at hl 1 rfl) ?_
          refine lv_iconst (v := (2 : Int32)) hx hb dX6_takeOut_70 (by decide) ?_
          obtain ⟨r21, sg20, q19, hf⟩ := bd2_so hf
          refine cl_i (va_runV (As := [.int (2 : Int32)]) (rest := []) ⟨hx, hb, hml, hown, hts⟩ (c_X6_no l g ad X _ sg18 (2 : Int32) r21 sg20 q19) (cwV 1 hts gl_X6_64 rfl rfl rfl yd_X6_no ⟨Nat.le_of_ble_eq_true rfl, Nat.le_of_ble_eq_true rfl⟩) (preV_of hK hP (hD sg18) (dd_at (by decide) cm_0) rfl) rfl rfl hl.1 rfl (lv_room (Nat.le_of_ble_eq_true rfl)) dX6_takeOut_71 ⟨Nat.le_of_ble_eq_true rfl, Nat.le_of_ble_eq_true rfl⟩) hS (fun q h => dd_A_mono hS.1 h) (fun q h => dd_A_mono hS.1 h) (fun H locs hP hS => ?_)
          exact W.iret (v := r21) hx hb hr (fun t ht hW => ⟨⟨r21, (), rfl, (so2 hf).1, P_at2 (so2 hf).2 ht hP⟩, hS.F ht⟩) hS.2.2 dX6_takeOut_74
        · have hf := if_f c16 hf
          refine lv_iload_n hx hb dX6_takeOut_60 rfl (lv_at hl 0 rfl) ?_
          exact W.iret (v := x6) hx hb hr (fun t ht hW => ⟨⟨x6, (), rfl, (so2 hf).1, P_at2 (so2 hf).2 ht hP⟩, hS.F ht⟩) hS.2.2 dX6_takeOut_61
      · have hf := if_f c10 hf
        exact hL_39 sg1 _ _ _ hf hP hS (lv_sub hl [1] rfl)
  · have hf := if_t c4 hf
    refine lv_aload_n hx hb dX6_takeOut_13 rfl (lv_at hl 0 rfl) ?_
    refine lv_iconst (v := (1 : Int32)) hx hb dX6_takeOut_14 (by decide) ?_
    obtain ⟨r24, sg23, q22, hf⟩ := bd2_so hf
    refine cl_i (va_runV (As := [.int (1 : Int32)]) (rest := []) ⟨hx, hb, hml, hown, hts⟩ (c_X6_no l g ad X _ sg1 (1 : Int32) r24 sg23 q22) (cwV 1 hts gl_X6_64 rfl rfl rfl yd_X6_no ⟨Nat.le_of_ble_eq_true rfl, Nat.le_of_ble_eq_true rfl⟩) (preV_of hK hP (hD sg1) (dd_at (by decide) cm_0) rfl) rfl rfl hl.1 rfl (lv_room (Nat.le_of_ble_eq_true rfl)) dX6_takeOut_15 ⟨Nat.le_of_ble_eq_true rfl, Nat.le_of_ble_eq_true rfl⟩) hS (fun q h => dd_A_mono hS.1 h) (fun q h => dd_A_mono hS.1 h) (fun H locs hP hS => ?_)
    exact W.iret (v := r24) hx hb hr (fun t ht hW => ⟨⟨r24, (), rfl, (so2 hf).1, P_at2 (so2 hf).2 ht hP⟩, hS.F ht⟩) hS.2.2 dX6_takeOut_18
set_option maxHeartbeats 4000000 in
set_option maxRecDepth 100000 in
theorem c_X6_tripAt (l : Launch) (g : dd_G) (ad : Nat → Nat) (X : va_W) (sz : Nat) (sg : dd_S) (a1 : Int32) (a2 : Int32) (r0 : Int32) (s0 : dd_S) (hf : f_X6_tripAt sg a1 a2 = some (r0, s0)) : Met l yX6_tripAt (lw_ws yX6_tripAt cX6_tripAt 3 (some .int)) ({ frames := 2, cells := 0, slots := 0, locals := 43 } : Room) (va_Pc [.ref (ad 0), .int a1, .int a2] (PreW g (WM g ad sg ++ X) sz)) (QI g (WM g ad s0 ++ X) (dd_A 9 ad X sz) r0) 0 0 (dd_A 9 ad X sz) := by
  refine Met.ofW (cc := cX6_tripAt) (maxL := 3) (ret := some .int) (by decide) rfl ?_
  intro p e s m args below meth c s₁ B hml hv
  obtain ⟨rfl, rfl, hP, hK, hD0⟩ := hv
  have hx := B.exec
  have hb := B.bytes
  have hr := B.returns
  have hts := atoms_spec (ws := (lw_ws yX6_tripAt cX6_tripAt 3 (some .int))) B.pre
  have hts : ∀ w ∈ lw_all, w.before _ s = true := fun w h => hts w (List.mem_cons_of_mem _ h)
  have hown : s.vm.findClass RX6 = some m.cls := findClass_of_methodNamed B.named
  have hlocks := B.notSynchronized
  have hD : ∀ s2 : dd_S, va_D (dd_A 9 ad X s.heap.size) (WM g ad s2 ++ X) := fun s2 => dd_D (dd_A_D hD0)
  have hS : va_S (dd_A 9 ad X s.heap.size) s.heap s.heap [] := va_S.rf
  have hL_52 : ∀ (sg : dd_S) (t0 : Int32) (H : Heap) (locs : List Loc) (ls : Array Slot), f_X6_tripAt_52 a1 a2 sg t0 = some (r0, s0) → va_P g.1 vwCl (WM g ad sg ++ X) H → va_S (dd_A 9 ad X s.heap.size) s.heap H locs → lv_has ls 3 [] → W p l e (headSpec (lw_ws yX6_tripAt cX6_tripAt 3 (some .int)) ({ frames := 2, cells := 0, slots := 0, locals := 43 } : Room)).room s m ([.ref (ad 0), .int a1, .int a2] : List Value).toArray below meth c H locs 0 0 (MQ below (QI g (WM g ad s0 ++ X) (dd_A 9 ad X s.heap.size) r0) ([.ref (ad 0), .int a1, .int a2] : List Value).toArray s 0 0 (dd_A 9 ad X s.heap.size)) (F0 m 52 ls [.int t0]) := by
    intro sg t0 H locs ls hf hP hS hl
    unfold f_X6_tripAt_52 at hf
    exact W.iret (v := t0) hx hb hr (fun t ht hW => ⟨⟨t0, (), rfl, (so2 hf).1, P_at2 (so2 hf).2 ht hP⟩, hS.F ht⟩) hS.2.2 dX6_tripAt_52
  unfold f_X6_tripAt at hf
  have hl := lv_entry ([.ref (ad 0), .int a1, .int a2]) (n := 3) (Nat.le_of_ble_eq_true rfl)
  rw [lg_entry_eq]
  generalize (lg_sl ([.ref (ad 0), .int a1, .int a2]) ++ List.replicate (3 - (lg_sl ([.ref (ad 0), .int a1, .int a2])).length) Slot.unset).toArray = ls at hl ⊢
  have hl : lv_has ls 3 [(0, .ref (ad 0)), (1, .int a1), (2, .int a2)] := hl
  refine lv_aload_n hx hb dX6_tripAt_0 rfl (lv_at hl 0 rfl) ?_
  refine lv_iconst (v := (0 : Int32)) hx hb dX6_tripAt_1 (by decide) ?_
  obtain ⟨sg1, esg1, hf⟩ := lt_ex hf
  refine pf_X6_47 hx hb hts hown hK hP hD hS dX6_tripAt_2 (fun H locs hP hS => ?_)
  rw [← esg1] at hP
  refine lv_aload_n hx hb dX6_tripAt_5 rfl (lv_at hl 0 rfl) ?_
  refine lv_iload_n hx hb dX6_tripAt_6 rfl (lv_at hl 1 rfl) ?_
  obtain ⟨r3, q2, hf⟩ := bd_so hf
  refine cl_i (va_runV (As := [.int a1]) (rest := []) ⟨hx, hb, hml, hown, hts⟩ (c_X6_isDuty l g ad X _ sg1 a1 r3 q2) (cwV 1 hts gl_X6_126 rfl rfl rfl yd_X6_isDuty ⟨Nat.le_of_ble_eq_true rfl, Nat.le_of_ble_eq_true rfl⟩) (preV_of hK hP (hD sg1) (dd_at (by decide) cm_0) rfl) rfl rfl hl.1 rfl (lv_room (Nat.le_of_ble_eq_true rfl)) dX6_tripAt_7 ⟨Nat.le_of_ble_eq_true rfl, Nat.le_of_ble_eq_true rfl⟩) hS (fun q h => dd_A_mono hS.1 h) (fun q h => dd_A_mono hS.1 h) (fun H locs hP hS => ?_)
  refine lv_if_ne (tgt := 19) hx hb dX6_tripAt_10 (by decide) (fun c4 => ?_) (fun c4 => ?_)
  · have hf := if_f c4 hf
    refine lv_aload_n hx hb dX6_tripAt_19 rfl (lv_at hl 0 rfl) ?_
    refine lv_iload_n hx hb dX6_tripAt_20 rfl (lv_at hl 1 rfl) ?_
    obtain ⟨sg6, q5, hf⟩ := bd_so hf
    refine cl_v (va_runV (As := [.int a1]) (rest := []) ⟨hx, hb, hml, hown, hts⟩ (c_X6_sort l g ad X _ sg1 a1 sg6 q5) (cwV 1 hts gl_X6_84 rfl rfl rfl yd_X6_sort ⟨Nat.le_of_ble_eq_true rfl, Nat.le_of_ble_eq_true rfl⟩) (preV_of hK hP (hD sg1) (dd_at (by decide) cm_0) rfl) rfl rfl hl.1 rfl (lv_room (Nat.le_of_ble_eq_true rfl)) dX6_tripAt_21 ⟨Nat.le_of_ble_eq_true rfl, Nat.le_of_ble_eq_true rfl⟩) hS (fun q h => dd_A_mono hS.1 h) (fun q h => dd_A_mono hS.1 h) (fun H locs hP hS => ?_)
    refine lv_iload_n hx hb dX6_tripAt_24 rfl (lv_at hl 2 rfl) ?_
    refine lv_iconst (v := (0 : Int32)) hx hb dX6_tripAt_25 (by decide) ?_
    refine lv_aload_n hx hb dX6_tripAt_26 rfl (lv_at hl 0 rfl) ?_
    refine gf_X6_81 hx hb hts hown hK hP dX6_tripAt_27 ?_
    refine lv_iconst (v := (1 : Int32)) hx hb dX6_tripAt_30 (by decide) ?_
    refine lv_isub hx hb dX6_tripAt_31 ?_
    obtain ⟨r8, q7, hf⟩ := bd_so hf
    refine cl_i (va_runS (As := [.int a2, .int (0 : Int32), .int ((sg6 0 16) - (1 : Int32))]) (rest := []) ⟨hx, hb, hml, hown, hts⟩ (c_X6_isIn l g ad X _ sg6 a2 (0 : Int32) ((sg6 0 16) - (1 : Int32)) r8 q7) (cwS 3 hts gl_X6_53 rfl rfl rfl yd_X6_isIn ⟨Nat.le_of_ble_eq_true rfl, Nat.le_of_ble_eq_true rfl⟩) (preS_of hK hP (hD sg6)) rfl rfl hl.1 rfl (lv_room (Nat.le_of_ble_eq_true rfl)) dX6_tripAt_32 ⟨Nat.le_of_ble_eq_true rfl, Nat.le_of_ble_eq_true rfl⟩) hS (fun q h => dd_A_mono hS.1 h) (fun q h => dd_A_mono hS.1 h) (fun H locs hP hS => ?_)
    refine lv_if_eq (tgt := 47) hx hb dX6_tripAt_35 (by decide) (fun c9 => ?_) (fun c9 => ?_)
    · have hf := if_t c9 hf
      refine lv_aload_n hx hb dX6_tripAt_47 rfl (lv_at hl 0 rfl) ?_
      refine lv_iconst (v := (1 : Int32)) hx hb dX6_tripAt_48 (by decide) ?_
      obtain ⟨r12, sg11, q10, hf⟩ := bd2_so hf
      refine cl_i (va_runV (As := [.int (1 : Int32)]) (rest := []) ⟨hx, hb, hml, hown, hts⟩ (c_X6_no l g ad X _ sg6 (1 : Int32) r12 sg11 q10) (cwV 1 hts gl_X6_64 rfl rfl rfl yd_X6_no ⟨Nat.le_of_ble_eq_true rfl, Nat.le_of_ble_eq_true rfl⟩) (preV_of hK hP (hD sg6) (dd_at (by decide) cm_0) rfl) rfl rfl hl.1 rfl (lv_room (Nat.le_of_ble_eq_true rfl)) dX6_tripAt_49 ⟨Nat.le_of_ble_eq_true rfl, Nat.le_of_ble_eq_true rfl⟩) hS (fun q h => dd_A_mono hS.1 h) (fun q h => dd_A_mono hS.1 h) (fun H locs hP hS => ?_)
      exact hL_52 sg11 r12 _ _ _ hf hP hS (lv_sub hl [] rfl)
    · have hf := if_f c9 hf
      refine lv_aload_n hx hb dX6_tripAt_38 rfl (lv_at hl 0 rfl) ?_
      refine gf_X6_44 hx hb hts hown hK hP dX6_tripAt_39 ?_
      refine lv_iload_n hx hb dX6_tripAt_42 rfl (lv_at hl 2 rfl) ?_
      obtain ⟨hi13, hf⟩ := gd_so hf
      refine W_iald hx hb hK hP 8 (by decide) cm_8 (ix_in hi13) dX6_tripAt_43 ?_
      refine lv_goto (tgt := 52) hx hb dX6_tripAt_44 (by decide) ?_
      exact hL_52 sg6 (sg6 8 a2.toNatClampNeg) _ _ _ hf hP hS (lv_sub hl [] rfl)
  · have hf := if_t c4 hf
    refine lv_aload_n hx hb dX6_tripAt_13 rfl (lv_at hl 0 rfl) ?_
    refine lv_iconst (v := (1 : Int32)) hx hb dX6_tripAt_14 (by decide) ?_
    obtain ⟨r16, sg15, q14, hf⟩ := bd2_so hf
    refine cl_i (va_runV (As := [.int (1 : Int32)]) (rest := []) ⟨hx, hb, hml, hown, hts⟩ (c_X6_no l g ad X _ sg1 (1 : Int32) r16 sg15 q14) (cwV 1 hts gl_X6_64 rfl rfl rfl yd_X6_no ⟨Nat.le_of_ble_eq_true rfl, Nat.le_of_ble_eq_true rfl⟩) (preV_of hK hP (hD sg1) (dd_at (by decide) cm_0) rfl) rfl rfl hl.1 rfl (lv_room (Nat.le_of_ble_eq_true rfl)) dX6_tripAt_15 ⟨Nat.le_of_ble_eq_true rfl, Nat.le_of_ble_eq_true rfl⟩) hS (fun q h => dd_A_mono hS.1 h) (fun q h => dd_A_mono hS.1 h) (fun H locs hP hS => ?_)
    exact W.iret (v := r16) hx hb hr (fun t ht hW => ⟨⟨r16, (), rfl, (so2 hf).1, P_at2 (so2 hf).2 ht hP⟩, hS.F ht⟩) hS.2.2 dX6_tripAt_18
set_option maxHeartbeats 4000000 in
set_option maxRecDepth 100000 in
theorem c_X6_best (l : Launch) (g : dd_G) (ad : Nat → Nat) (X : va_W) (sz : Nat) (sg : dd_S) (a1 : Int32) (r0 : Int32) (s0 : dd_S) (hf : f_X6_best sg a1 = some (r0, s0)) : Met l yX6_best (lw_ws yX6_best cX6_best 6 (some .int)) ({ frames := 3, cells := 0, slots := 0, locals := 73 } : Room) (va_Pc [.ref (ad 0), .int a1] (PreW g (WM g ad sg ++ X) sz)) (QI g (WM g ad s0 ++ X) (dd_A 9 ad X sz) r0) 0 0 (dd_A 9 ad X sz) := by
  refine Met.ofW (cc := cX6_best) (maxL := 6) (ret := some .int) (by decide) rfl ?_
  intro p e s m args below meth c s₁ B hml hv
  obtain ⟨rfl, rfl, hP, hK, hD0⟩ := hv
  have hx := B.exec
  have hb := B.bytes
  have hr := B.returns
  have hts := atoms_spec (ws := (lw_ws yX6_best cX6_best 6 (some .int))) B.pre
  have hts : ∀ w ∈ lw_all, w.before _ s = true := fun w h => hts w (List.mem_cons_of_mem _ h)
  have hown : s.vm.findClass RX6 = some m.cls := findClass_of_methodNamed B.named
  have hlocks := B.notSynchronized
  have hD : ∀ s2 : dd_S, va_D (dd_A 9 ad X s.heap.size) (WM g ad s2 ++ X) := fun s2 => dd_D (dd_A_D hD0)
  have hS : va_S (dd_A 9 ad X s.heap.size) s.heap s.heap [] := va_S.rf
  have hL_67 : ∀ (k_7 : dd_S → Int32 → Int32 → Int32 → Option (Int32 × dd_S)) (hk_7 : ∀ (sg : dd_S) (v2 : Int32) (v3 : Int32) (v4 : Int32) (H : Heap) (locs : List Loc) (ls : Array Slot), k_7 sg v2 v3 v4 = some (r0, s0) → va_P g.1 vwCl (WM g ad sg ++ X) H → va_S (dd_A 9 ad X s.heap.size) s.heap H locs → lv_has ls 6 [(0, .ref (ad 0)), (1, .int a1), (2, .int v2), (3, .int v3), (4, .int v4)] → W p l e (headSpec (lw_ws yX6_best cX6_best 6 (some .int)) ({ frames := 3, cells := 0, slots := 0, locals := 73 } : Room)).room s m ([.ref (ad 0), .int a1] : List Value).toArray below meth c H locs 0 0 (MQ below (QI g (WM g ad s0 ++ X) (dd_A 9 ad X s.heap.size) r0) ([.ref (ad 0), .int a1] : List Value).toArray s 0 0 (dd_A 9 ad X s.heap.size)) (F0 m 7 ls [])), ∀ (sg : dd_S) (v2 : Int32) (v3 : Int32) (v4 : Int32) (H : Heap) (locs : List Loc) (ls : Array Slot), f_X6_best_67 a1 k_7 sg v2 v3 v4 = some (r0, s0) → va_P g.1 vwCl (WM g ad sg ++ X) H → va_S (dd_A 9 ad X s.heap.size) s.heap H locs → lv_has ls 6 [(0, .ref (ad 0)), (1, .int a1), (2, .int v2), (3, .int v3), (4, .int v4)] → W p l e (headSpec (lw_ws yX6_best cX6_best 6 (some .int)) ({ frames := 3, cells := 0, slots := 0, locals := 73 } : Room)).room s m ([.ref (ad 0), .int a1] : List Value).toArray below meth c H locs 0 0 (MQ below (QI g (WM g ad s0 ++ X) (dd_A 9 ad X s.heap.size) r0) ([.ref (ad 0), .int a1] : List Value).toArray s 0 0 (dd_A 9 ad X s.heap.size)) (F0 m 67 ls []) := by
    intro k_7 hk_7 sg v2 v3 v4 H locs ls hf hP hS hl
    unfold f_X6_best_67 at hf
    obtain ⟨x12, ex12, hf⟩ := lt_ex hf
    refine lv_iinc (v := x12) (lv' := [(4, .int x12), (0, .ref (ad 0)), (1, .int a1), (2, .int v2), (3, .int v3)]) hx hb dX6_best_67 hl (k := 4) rfl (by rw [ex12]; rfl) (by decide) rfl (fun ls hl => ?_)
    refine lv_goto (tgt := 7) hx hb dX6_best_70 (by decide) ?_
    exact hk_7 sg v2 v3 x12 _ _ _ hf hP hS (lv_sub hl [1, 2, 3, 4, 0] rfl)
  have hL_56 : ∀ (k_7 : dd_S → Int32 → Int32 → Int32 → Option (Int32 × dd_S)) (hk_7 : ∀ (sg : dd_S) (v2 : Int32) (v3 : Int32) (v4 : Int32) (H : Heap) (locs : List Loc) (ls : Array Slot), k_7 sg v2 v3 v4 = some (r0, s0) → va_P g.1 vwCl (WM g ad sg ++ X) H → va_S (dd_A 9 ad X s.heap.size) s.heap H locs → lv_has ls 6 [(0, .ref (ad 0)), (1, .int a1), (2, .int v2), (3, .int v3), (4, .int v4)] → W p l e (headSpec (lw_ws yX6_best cX6_best 6 (some .int)) ({ frames := 3, cells := 0, slots := 0, locals := 73 } : Room)).room s m ([.ref (ad 0), .int a1] : List Value).toArray below meth c H locs 0 0 (MQ below (QI g (WM g ad s0 ++ X) (dd_A 9 ad X s.heap.size) r0) ([.ref (ad 0), .int a1] : List Value).toArray s 0 0 (dd_A 9 ad X s.heap.size)) (F0 m 7 ls [])), ∀ (sg : dd_S) (v4 : Int32) (v5 : Int32) (H : Heap) (locs : List Loc) (ls : Array Slot), f_X6_best_56 a1 k_7 sg v4 v5 = some (r0, s0) → va_P g.1 vwCl (WM g ad sg ++ X) H → va_S (dd_A 9 ad X s.heap.size) s.heap H locs → lv_has ls 6 [(0, .ref (ad 0)), (1, .int a1), (4, .int v4), (5, .int v5)] → W p l e (headSpec (lw_ws yX6_best cX6_best 6 (some .int)) ({ frames := 3, cells := 0, slots := 0, locals := 73 } : Room)).room s m ([.ref (ad 0), .int a1] : List Value).toArray below meth c H locs 0 0 (MQ below (QI g (WM g ad s0 ++ X) (dd_A 9 ad X s.heap.size) r0) ([.ref (ad 0), .int a1] : List Value).toArray s 0 0 (dd_A 9 ad X s.heap.size)) (F0 m 56 ls []) := by
    intro k_7 hk_7 sg v4 v5 H locs ls hf hP hS hl
    unfold f_X6_best_56 at hf
    refine lv_iload hx hb dX6_best_56 (lv_at hl 2 rfl) ?_
    refine lv_istore_n (lv' := [(2, .int v4), (0, .ref (ad 0)), (1, .int a1), (4, .int v4), (5, .int v5)]) hx hb dX6_best_58 rfl hl (by decide) rfl (fun ls hl => ?_)
    refine lv_aload_n hx hb dX6_best_59 rfl (lv_at hl 1 rfl) ?_
    refine gf_X6_97 hx hb hts hown hK hP dX6_best_60 ?_
    refine lv_iload hx hb dX6_best_63 (lv_at hl 4 rfl) ?_
    refine lv_isub hx hb dX6_best_65 ?_
    refine lv_topi (fun x11 ex11 => ?_)
    have hf := lt_so ex11 hf
    refine lv_istore_n (lv' := [(3, .int x11), (2, .int v4), (0, .ref (ad 0)), (1, .int a1), (4, .int v4), (5, .int v5)]) hx hb dX6_best_66 rfl hl (by decide) rfl (fun ls hl => ?_)
    exact hL_67 k_7 hk_7 sg v4 x11 v4 _ _ _ hf hP hS (lv_sub hl [2, 3, 1, 0, 4] rfl)
  have hL_7 : ∀ (n : Nat), ∀ (sg : dd_S) (v2 : Int32) (v3 : Int32) (v4 : Int32) (H : Heap) (locs : List Loc) (ls : Array Slot), f_X6_best_7 a1 n sg v2 v3 v4 = some (r0, s0) → va_P g.1 vwCl (WM g ad sg ++ X) H → va_S (dd_A 9 ad X s.heap.size) s.heap H locs → lv_has ls 6 [(0, .ref (ad 0)), (1, .int a1), (2, .int v2), (3, .int v3), (4, .int v4)] → W p l e (headSpec (lw_ws yX6_best cX6_best 6 (some .int)) ({ frames := 3, cells := 0, slots := 0, locals := 73 } : Room)).room s m ([.ref (ad 0), .int a1] : List Value).toArray below meth c H locs 0 0 (MQ below (QI g (WM g ad s0 ++ X) (dd_A 9 ad X s.heap.size) r0) ([.ref (ad 0), .int a1] : List Value).toArray s 0 0 (dd_A 9 ad X s.heap.size)) (F0 m 7 ls []) := by
    intro n
    induction n with
    | zero =>
      intro sg v2 v3 v4 H locs ls hf
      rw [f_X6_best_7] at hf
      cases hf
    | succ n ih =>
      intro sg v2 v3 v4 H locs ls hf hP hS hl
      rw [f_X6_best_7] at hf
      refine lv_iload hx hb dX6_best_7 (lv_at hl 4 rfl) ?_
      refine lv_aload_n hx hb dX6_best_9 rfl (lv_at hl 0 rfl) ?_
      refine gf_X6_57 hx hb hts hown hK hP dX6_best_10 ?_
      refine lv_icmp_ge (tgt := 73) hx hb dX6_best_13 (by decide) (fun c1 => ?_) (fun c1 => ?_)
      · have hf := if_t c1 hf
        refine lv_iload_n hx hb dX6_best_73 rfl (lv_at hl 2 rfl) ?_
        exact W.iret (v := v2) hx hb hr (fun t ht hW => ⟨⟨v2, (), rfl, (so2 hf).1, P_at2 (so2 hf).2 ht hP⟩, hS.F ht⟩) hS.2.2 dX6_best_74
      · have hf := if_f c1 hf
        refine lv_aload_n hx hb dX6_best_16 rfl (lv_at hl 0 rfl) ?_
        refine lv_iload hx hb dX6_best_17 (lv_at hl 4 rfl) ?_
        obtain ⟨r4, sg3, q2, hf⟩ := bd2_so hf
        refine cl_i (va_runV (As := [.int v4]) (rest := []) ⟨hx, hb, hml, hown, hts⟩ (c_X6_payOf l g ad X _ sg v4 r4 sg3 q2) (cwV 1 hts gl_X6_135 rfl rfl rfl yd_X6_payOf ⟨Nat.le_of_ble_eq_true rfl, Nat.le_of_ble_eq_true rfl⟩) (preV_of hK hP (hD sg) (dd_at (by decide) cm_0) rfl) rfl rfl hl.1 rfl (lv_room (Nat.le_of_ble_eq_true rfl)) dX6_best_19 ⟨Nat.le_of_ble_eq_true rfl, Nat.le_of_ble_eq_true rfl⟩) hS (fun q h => dd_A_mono hS.1 h) (fun q h => dd_A_mono hS.1 h) (fun H locs hP hS => ?_)
        refine lv_istore (lv' := [(5, .int r4), (0, .ref (ad 0)), (1, .int a1), (2, .int v2), (3, .int v3), (4, .int v4)]) hx hb dX6_best_22 hl (by decide) rfl (fun ls hl => ?_)
        refine lv_aload_n hx hb dX6_best_24 rfl (lv_at hl 1 rfl) ?_
        refine lv_iload hx hb dX6_best_25 (lv_at hl 5 rfl) ?_
        refine lv_iload_n hx hb dX6_best_27 rfl (lv_at hl 2 rfl) ?_
        obtain ⟨r7, sg6, q5, hf⟩ := bd2_so hf
        refine cl_i (va_runV (As := [.int v4, .int a1]) (rest := []) ⟨hx, hb, hml, hown, hts⟩ (c_X6_canPut l g ad X _ sg3 v4 a1 r7 sg6 q5) (cwV 2 hts gl_X6_129 rfl rfl rfl yd_X6_canPut ⟨Nat.le_of_ble_eq_true rfl, Nat.le_of_ble_eq_true rfl⟩) (preV_of hK hP (hD sg3) (dd_at (by decide) cm_0) rfl) rfl rfl hl.1 rfl (lv_room (Nat.le_of_ble_eq_true rfl)) dX6_best_28 ⟨Nat.le_of_ble_eq_true rfl, Nat.le_of_ble_eq_true rfl⟩) hS (fun q h => dd_A_mono hS.1 h) (fun q h => dd_A_mono hS.1 h) (fun H locs hP hS => ?_)
        refine lv_if_ne (tgt := 37) hx hb dX6_best_31 (by decide) (fun c8 => ?_) (fun c8 => ?_)
        · have hf := if_f c8 hf
          refine lv_iload_n hx hb dX6_best_37 rfl (lv_at hl 3 rfl) ?_
          refine lv_iconst (v := (-1 : Int32)) hx hb dX6_best_38 (by decide) ?_
          refine lv_icmp_eq (tgt := 56) hx hb dX6_best_39 (by decide) (fun c9 => ?_) (fun c9 => ?_)
          · have hf := if_t c9 hf
            exact hL_56 (fun zs z0 z1 z2 => f_X6_best_7 a1 n zs z0 z1 z2) ih sg6 v4 r4 _ _ _ hf hP hS (lv_sub hl [1, 2, 5, 0] rfl)
          · have hf := if_f c9 hf
            refine lv_aload_n hx hb dX6_best_42 rfl (lv_at hl 1 rfl) ?_
            refine gf_X6_97 hx hb hts hown hK hP dX6_best_43 ?_
            refine lv_iload hx hb dX6_best_46 (lv_at hl 0 rfl) ?_
            refine lv_isub hx hb dX6_best_48 ?_
            refine lv_iload_n hx hb dX6_best_49 rfl (lv_at hl 4 rfl) ?_
            refine lv_icmp_lt (tgt := 56) hx hb dX6_best_50 (by decide) (fun c10 => ?_) (fun c10 => ?_)
            · have hf := if_t c10 hf
              exact hL_56 (fun zs z0 z1 z2 => f_X6_best_7 a1 n zs z0 z1 z2) ih sg6 v4 r4 _ _ _ hf hP hS (lv_sub hl [1, 2, 5, 0] rfl)
            · have hf := if_f c10 hf
              refine lv_goto (tgt := 67) hx hb dX6_best_53 (by decide) ?_
              exact hL_67 (fun zs z0 z1 z2 => f_X6_best_7 a1 n zs z0 z1 z2) ih sg6 v2 v3 v4 _ _ _ hf hP hS (lv_sub hl [1, 2, 3, 4, 5] rfl)
        · have hf := if_t c8 hf
          refine lv_goto (tgt := 67) hx hb dX6_best_34 (by decide) ?_
          exact hL_67 (fun zs z0 z1 z2 => f_X6_best_7 a1 n zs z0 z1 z2) ih sg6 v2 v3 v4 _ _ _ hf hP hS (lv_sub hl [1, 2, 3, 4, 5] rfl)
  unfold f_X6_best at hf
  have hl := lv_entry ([.ref (ad 0), .int a1]) (n := 6) (Nat.le_of_ble_eq_true rfl)
  rw [lg_entry_eq]
  generalize (lg_sl ([.ref (ad 0), .int a1]) ++ List.replicate (6 - (lg_sl ([.ref (ad 0), .int a1])).length) Slot.unset).toArray = ls at hl ⊢
  have hl : lv_has ls 6 [(0, .ref (ad 0)), (1, .int a1)] := hl
  refine lv_iconst (v := (-1 : Int32)) hx hb dX6_best_0 (by decide) ?_
  refine lv_istore_n (lv' := [(2, .int (-1 : Int32)), (0, .ref (ad 0)), (1, .int a1)]) hx hb dX6_best_1 rfl hl (by decide) rfl (fun ls hl => ?_)
  refine lv_iconst (v := (0 : Int32)) hx hb dX6_best_2 (by decide) ?_
  refine lv_istore_n (lv' := [(3, .int (0 : Int32)), (2, .int (-1 : Int32)), (0, .ref (ad 0)), (1, .int a1)]) hx hb dX6_best_3 rfl hl (by decide) rfl (fun ls hl => ?_)
  refine lv_iconst (v := (0 : Int32)) hx hb dX6_best_4 (by decide) ?_
  refine lv_istore (lv' := [(4, .int (0 : Int32)), (3, .int (0 : Int32)), (2, .int (-1 : Int32)), (0, .ref (ad 0)), (1, .int a1)]) hx hb dX6_best_5 hl (by decide) rfl (fun ls hl => ?_)
  exact hL_7 64 sg (-1 : Int32) (0 : Int32) (0 : Int32) _ _ _ hf hP hS (lv_sub hl [3, 4, 2, 1, 0] rfl)
set_option maxHeartbeats 4000000 in
set_option maxRecDepth 100000 in
theorem c_X6_bestFor (l : Launch) (g : dd_G) (ad : Nat → Nat) (X : va_W) (sz : Nat) (sg : dd_S) (a1 : Int32) (r0 : Int32) (s0 : dd_S) (hf : f_X6_bestFor sg a1 = some (r0, s0)) : Met l yX6_bestFor (lw_ws yX6_bestFor cX6_bestFor 2 (some .int)) ({ frames := 4, cells := 0, slots := 0, locals := 98 } : Room) (va_Pc [.ref (ad 0), .int a1] (PreW g (WM g ad sg ++ X) sz)) (QI g (WM g ad s0 ++ X) (dd_A 9 ad X sz) r0) 0 0 (dd_A 9 ad X sz) := by
  refine Met.ofW (cc := cX6_bestFor) (maxL := 2) (ret := some .int) (by decide) rfl ?_
  intro p e s m args below meth c s₁ B hml hv
  obtain ⟨rfl, rfl, hP, hK, hD0⟩ := hv
  have hx := B.exec
  have hb := B.bytes
  have hr := B.returns
  have hts := atoms_spec (ws := (lw_ws yX6_bestFor cX6_bestFor 2 (some .int))) B.pre
  have hts : ∀ w ∈ lw_all, w.before _ s = true := fun w h => hts w (List.mem_cons_of_mem _ h)
  have hown : s.vm.findClass RX6 = some m.cls := findClass_of_methodNamed B.named
  have hlocks := B.notSynchronized
  have hD : ∀ s2 : dd_S, va_D (dd_A 9 ad X s.heap.size) (WM g ad s2 ++ X) := fun s2 => dd_D (dd_A_D hD0)
  have hS : va_S (dd_A 9 ad X s.heap.size) s.heap s.heap [] := va_S.rf
  have hL_26 : ∀ (sg : dd_S) (t0 : Int32) (H : Heap) (locs : List Loc) (ls : Array Slot), f_X6_bestFor_26 a1 sg t0 = some (r0, s0) → va_P g.1 vwCl (WM g ad sg ++ X) H → va_S (dd_A 9 ad X s.heap.size) s.heap H locs → lv_has ls 2 [] → W p l e (headSpec (lw_ws yX6_bestFor cX6_bestFor 2 (some .int)) ({ frames := 4, cells := 0, slots := 0, locals := 98 } : Room)).room s m ([.ref (ad 0), .int a1] : List Value).toArray below meth c H locs 0 0 (MQ below (QI g (WM g ad s0 ++ X) (dd_A 9 ad X s.heap.size) r0) ([.ref (ad 0), .int a1] : List Value).toArray s 0 0 (dd_A 9 ad X s.heap.size)) (F0 m 26 ls [.int t0]) := by
    intro sg t0 H locs ls hf hP hS hl
    unfold f_X6_bestFor_26 at hf
    exact W.iret (v := t0) hx hb hr (fun t ht hW => ⟨⟨t0, (), rfl, (so2 hf).1, P_at2 (so2 hf).2 ht hP⟩, hS.F ht⟩) hS.2.2 dX6_bestFor_26
  unfold f_X6_bestFor at hf
  have hl := lv_entry ([.ref (ad 0), .int a1]) (n := 2) (Nat.le_of_ble_eq_true rfl)
  rw [lg_entry_eq]
  generalize (lg_sl ([.ref (ad 0), .int a1]) ++ List.replicate (2 - (lg_sl ([.ref (ad 0), .int a1])).length) Slot.unset).toArray = ls at hl ⊢
  have hl : lv_has ls 2 [(0, .ref (ad 0)), (1, .int a1)] := hl
  refine lv_aload_n hx hb dX6_bestFor_0 rfl (lv_at hl 0 rfl) ?_
  refine lv_iconst (v := (0 : Int32)) hx hb dX6_bestFor_1 (by decide) ?_
  obtain ⟨sg1, esg1, hf⟩ := lt_ex hf
  refine pf_X6_47 hx hb hts hown hK hP hD hS dX6_bestFor_2 (fun H locs hP hS => ?_)
  rw [← esg1] at hP
  refine lv_aload_n hx hb dX6_bestFor_5 rfl (lv_at hl 0 rfl) ?_
  refine lv_iload_n hx hb dX6_bestFor_6 rfl (lv_at hl 1 rfl) ?_
  obtain ⟨r3, q2, hf⟩ := bd_so hf
  refine cl_i (va_runV (As := [.int a1]) (rest := []) ⟨hx, hb, hml, hown, hts⟩ (c_X6_isTrip l g ad X _ sg1 a1 r3 q2) (cwV 1 hts gl_X6_68 rfl rfl rfl yd_X6_isTrip ⟨Nat.le_of_ble_eq_true rfl, Nat.le_of_ble_eq_true rfl⟩) (preV_of hK hP (hD sg1) (dd_at (by decide) cm_0) rfl) rfl rfl hl.1 rfl (lv_room (Nat.le_of_ble_eq_true rfl)) dX6_bestFor_7 ⟨Nat.le_of_ble_eq_true rfl, Nat.le_of_ble_eq_true rfl⟩) hS (fun q h => dd_A_mono hS.1 h) (fun q h => dd_A_mono hS.1 h) (fun H locs hP hS => ?_)
  refine lv_if_eq (tgt := 21) hx hb dX6_bestFor_10 (by decide) (fun c4 => ?_) (fun c4 => ?_)
  · have hf := if_t c4 hf
    refine lv_aload_n hx hb dX6_bestFor_21 rfl (lv_at hl 0 rfl) ?_
    refine lv_iconst (v := (1 : Int32)) hx hb dX6_bestFor_22 (by decide) ?_
    obtain ⟨r7, sg6, q5, hf⟩ := bd2_so hf
    refine cl_i (va_runV (As := [.int (1 : Int32)]) (rest := []) ⟨hx, hb, hml, hown, hts⟩ (c_X6_no l g ad X _ sg1 (1 : Int32) r7 sg6 q5) (cwV 1 hts gl_X6_64 rfl rfl rfl yd_X6_no ⟨Nat.le_of_ble_eq_true rfl, Nat.le_of_ble_eq_true rfl⟩) (preV_of hK hP (hD sg1) (dd_at (by decide) cm_0) rfl) rfl rfl hl.1 rfl (lv_room (Nat.le_of_ble_eq_true rfl)) dX6_bestFor_23 ⟨Nat.le_of_ble_eq_true rfl, Nat.le_of_ble_eq_true rfl⟩) hS (fun q h => dd_A_mono hS.1 h) (fun q h => dd_A_mono hS.1 h) (fun H locs hP hS => ?_)
    exact hL_26 sg6 r7 _ _ _ hf hP hS (lv_sub hl [] rfl)
  · have hf := if_f c4 hf
    refine lv_aload_n hx hb dX6_bestFor_13 rfl (lv_at hl 0 rfl) ?_
    refine lv_iload_n hx hb dX6_bestFor_14 rfl (lv_at hl 1 rfl) ?_
    obtain ⟨r10, sg9, q8, hf⟩ := bd2_so hf
    refine cl_i (va_runV (As := [.int a1]) (rest := []) ⟨hx, hb, hml, hown, hts⟩ (c_X6_best l g ad X _ sg1 a1 r10 sg9 q8) (cwV 1 hts gl_X6_138 rfl rfl rfl yd_X6_best ⟨Nat.le_of_ble_eq_true rfl, Nat.le_of_ble_eq_true rfl⟩) (preV_of hK hP (hD sg1) (dd_at (by decide) cm_0) rfl) rfl rfl hl.1 rfl (lv_room (Nat.le_of_ble_eq_true rfl)) dX6_bestFor_15 ⟨Nat.le_of_ble_eq_true rfl, Nat.le_of_ble_eq_true rfl⟩) hS (fun q h => dd_A_mono hS.1 h) (fun q h => dd_A_mono hS.1 h) (fun H locs hP hS => ?_)
    refine lv_goto (tgt := 26) hx hb dX6_bestFor_18 (by decide) ?_
    exact hL_26 sg9 r10 _ _ _ hf hP hS (lv_sub hl [] rfl)
set_option maxHeartbeats 4000000 in
set_option maxRecDepth 100000 in
theorem c_X6_place (l : Launch) (g : dd_G) (ad : Nat → Nat) (X : va_W) (sz : Nat) (sg : dd_S) (a1 : Int32) (s0 : dd_S) (hf : f_X6_place sg a1 = some (s0)) : Met l yX6_place (lw_ws yX6_place cX6_place 3 (none)) ({ frames := 4, cells := 0, slots := 0, locals := 98 } : Room) (va_Pc [.ref (ad 0), .int a1] (PreW g (WM g ad sg ++ X) sz)) (QV g (WM g ad s0 ++ X) (dd_A 9 ad X sz)) 0 0 (dd_A 9 ad X sz) := by
  refine Met.ofW (cc := cX6_place) (maxL := 3) (ret := none) (by decide) rfl ?_
  intro p e s m args below meth c s₁ B hml hv
  obtain ⟨rfl, rfl, hP, hK, hD0⟩ := hv
  have hx := B.exec
  have hb := B.bytes
  have hr := B.returns
  have hts := atoms_spec (ws := (lw_ws yX6_place cX6_place 3 (none))) B.pre
  have hts : ∀ w ∈ lw_all, w.before _ s = true := fun w h => hts w (List.mem_cons_of_mem _ h)
  have hown : s.vm.findClass RX6 = some m.cls := findClass_of_methodNamed B.named
  have hlocks := B.notSynchronized
  have hD : ∀ s2 : dd_S, va_D (dd_A 9 ad X s.heap.size) (WM g ad s2 ++ X) := fun s2 => dd_D (dd_A_D hD0)
  have hS : va_S (dd_A 9 ad X s.heap.size) s.heap s.heap [] := va_S.rf
  have hL_64 : ∀ (sg : dd_S) (v2 : Int32) (H : Heap) (locs : List Loc) (ls : Array Slot), f_X6_place_64 a1 sg v2 = some (s0) → va_P g.1 vwCl (WM g ad sg ++ X) H → va_S (dd_A 9 ad X s.heap.size) s.heap H locs → lv_has ls 3 [(0, .ref (ad 0)), (1, .int a1), (2, .int v2)] → W p l e (headSpec (lw_ws yX6_place cX6_place 3 (none)) ({ frames := 4, cells := 0, slots := 0, locals := 98 } : Room)).room s m ([.ref (ad 0), .int a1] : List Value).toArray below meth c H locs 0 0 (MQ below (QV g (WM g ad s0 ++ X) (dd_A 9 ad X s.heap.size)) ([.ref (ad 0), .int a1] : List Value).toArray s 0 0 (dd_A 9 ad X s.heap.size)) (F0 m 64 ls []) := by
    intro sg v2 H locs ls hf hP hS hl
    unfold f_X6_place_64 at hf
    refine lv_aload_n hx hb dX6_place_64 rfl (lv_at hl 0 rfl) ?_
    refine gf_X6_25 hx hb hts hown hK hP dX6_place_65 ?_
    refine lv_iload_n hx hb dX6_place_68 rfl (lv_at hl 1 rfl) ?_
    refine lv_iload_n hx hb dX6_place_69 rfl (lv_at hl 2 rfl) ?_
    obtain ⟨hi13, hf⟩ := gd_so hf
    obtain ⟨sg14, esg14, hf⟩ := lt_ex hf
    refine W_iast hx hb hK hP hD hS 6 (by decide) (fun _ => cm_6) (ix_in hi13) dX6_place_70 (fun H locs hP hS => ?_)
    rw [← esg14] at hP
    exact W.vret hx hb hr (fun t ht hW => ⟨⟨(), rfl, trivial, P_at2 (so1 hf) ht hP⟩, hS.F ht⟩) hS.2.2 dX6_place_71
  unfold f_X6_place at hf
  have hl := lv_entry ([.ref (ad 0), .int a1]) (n := 3) (Nat.le_of_ble_eq_true rfl)
  rw [lg_entry_eq]
  generalize (lg_sl ([.ref (ad 0), .int a1]) ++ List.replicate (3 - (lg_sl ([.ref (ad 0), .int a1])).length) Slot.unset).toArray = ls at hl ⊢
  have hl : lv_has ls 3 [(0, .ref (ad 0)), (1, .int a1)] := hl
  refine lv_aload_n hx hb dX6_place_0 rfl (lv_at hl 0 rfl) ?_
  refine lv_iload_n hx hb dX6_place_1 rfl (lv_at hl 1 rfl) ?_
  obtain ⟨r3, sg2, q1, hf⟩ := bd2_so hf
  refine cl_i (va_runV (As := [.int a1]) (rest := []) ⟨hx, hb, hml, hown, hts⟩ (c_X6_best l g ad X _ sg a1 r3 sg2 q1) (cwV 1 hts gl_X6_138 rfl rfl rfl yd_X6_best ⟨Nat.le_of_ble_eq_true rfl, Nat.le_of_ble_eq_true rfl⟩) (preV_of hK hP (hD sg) (dd_at (by decide) cm_0) rfl) rfl rfl hl.1 rfl (lv_room (Nat.le_of_ble_eq_true rfl)) dX6_place_2 ⟨Nat.le_of_ble_eq_true rfl, Nat.le_of_ble_eq_true rfl⟩) hS (fun q h => dd_A_mono hS.1 h) (fun q h => dd_A_mono hS.1 h) (fun H locs hP hS => ?_)
  refine lv_istore_n (lv' := [(2, .int r3), (0, .ref (ad 0)), (1, .int a1)]) hx hb dX6_place_5 rfl hl (by decide) rfl (fun ls hl => ?_)
  refine lv_iload_n hx hb dX6_place_6 rfl (lv_at hl 0 rfl) ?_
  refine lv_iconst (v := (-1 : Int32)) hx hb dX6_place_7 (by decide) ?_
  refine lv_icmp_ne (tgt := 64) hx hb dX6_place_8 (by decide) (fun c4 => ?_) (fun c4 => ?_)
  · have hf := if_f c4 hf
    exact hL_64 sg2 r3 _ _ _ hf hP hS (lv_sub hl [1, 2, 0] rfl)
  · have hf := if_t c4 hf
    refine lv_aload_n hx hb dX6_place_11 rfl (lv_at hl 1 rfl) ?_
    refine gf_X6_57 hx hb hts hown hK hP dX6_place_12 ?_
    refine lv_bipush (v := (12 : Int32)) hx hb dX6_place_15 (by decide) ?_
    refine lv_icmp_ge (tgt := 64) hx hb dX6_place_17 (by decide) (fun c5 => ?_) (fun c5 => ?_)
    · have hf := if_t c5 hf
      exact hL_64 sg2 r3 _ _ _ hf hP hS (lv_sub hl [1, 2, 0] rfl)
    · have hf := if_f c5 hf
      refine lv_aload_n hx hb dX6_place_20 rfl (lv_at hl 1 rfl) ?_
      refine lv_dup hx hb dX6_place_21 rfl ?_
      refine gf_X6_57 hx hb hts hown hK hP dX6_place_22 ?_
      refine lv_iconst (v := (1 : Int32)) hx hb dX6_place_25 (by decide) ?_
      refine lv_iadd hx hb dX6_place_26 ?_
      obtain ⟨sg6, esg6, hf⟩ := lt_ex hf
      refine pf_X6_57 hx hb hts hown hK hP hD hS dX6_place_27 (fun H locs hP hS => ?_)
      rw [← esg6] at hP
      refine lv_aload_n hx hb dX6_place_30 rfl (lv_at hl 1 rfl) ?_
      refine lv_aload_n hx hb dX6_place_31 rfl (lv_at hl 1 rfl) ?_
      refine gf_X6_57 hx hb hts hown hK hP dX6_place_32 ?_
      refine lv_iconst (v := (1 : Int32)) hx hb dX6_place_35 (by decide) ?_
      refine lv_isub hx hb dX6_place_36 ?_
      refine lv_iload_n hx hb dX6_place_37 rfl (lv_at hl 2 rfl) ?_
      obtain ⟨r9, sg8, q7, hf⟩ := bd2_so hf
      refine cl_i (va_runV (As := [.int ((sg6 0 8) - (1 : Int32)), .int a1]) (rest := []) ⟨hx, hb, hml, hown, hts⟩ (c_X6_canPut l g ad X _ sg6 ((sg6 0 8) - (1 : Int32)) a1 r9 sg8 q7) (cwV 2 hts gl_X6_129 rfl rfl rfl yd_X6_canPut ⟨Nat.le_of_ble_eq_true rfl, Nat.le_of_ble_eq_true rfl⟩) (preV_of hK hP (hD sg6) (dd_at (by decide) cm_0) rfl) rfl rfl hl.1 rfl (lv_room (Nat.le_of_ble_eq_true rfl)) dX6_place_38 ⟨Nat.le_of_ble_eq_true rfl, Nat.le_of_ble_eq_true rfl⟩) hS (fun q h => dd_A_mono hS.1 h) (fun q h => dd_A_mono hS.1 h) (fun H locs hP hS => ?_)
      refine lv_if_eq (tgt := 54) hx hb dX6_place_41 (by decide) (fun c10 => ?_) (fun c10 => ?_)
      · have hf := if_t c10 hf
        refine lv_aload_n hx hb dX6_place_54 rfl (lv_at hl 1 rfl) ?_
        refine lv_dup hx hb dX6_place_55 rfl ?_
        refine gf_X6_57 hx hb hts hown hK hP dX6_place_56 ?_
        refine lv_iconst (v := (1 : Int32)) hx hb dX6_place_59 (by decide) ?_
        refine lv_isub hx hb dX6_place_60 ?_
        obtain ⟨sg11, esg11, hf⟩ := lt_ex hf
        refine pf_X6_57 hx hb hts hown hK hP hD hS dX6_place_61 (fun H locs hP hS => ?_)
        rw [← esg11] at hP
        exact hL_64 sg11 r3 _ _ _ hf hP hS (lv_sub hl [1, 2, 0] rfl)
      · have hf := if_f c10 hf
        refine lv_aload_n hx hb dX6_place_44 rfl (lv_at hl 1 rfl) ?_
        refine gf_X6_57 hx hb hts hown hK hP dX6_place_45 ?_
        refine lv_iconst (v := (1 : Int32)) hx hb dX6_place_48 (by decide) ?_
        refine lv_isub hx hb dX6_place_49 ?_
        refine lv_topi (fun x12 ex12 => ?_)
        have hf := lt_so ex12 hf
        refine lv_istore_n (lv' := [(2, .int x12), (0, .ref (ad 0)), (1, .int a1)]) hx hb dX6_place_50 rfl hl (by decide) rfl (fun ls hl => ?_)
        refine lv_goto (tgt := 64) hx hb dX6_place_51 (by decide) ?_
        exact hL_64 sg8 x12 _ _ _ hf hP hS (lv_sub hl [1, 2, 0] rfl)
set_option maxHeartbeats 4000000 in
set_option maxRecDepth 100000 in
theorem c_X6_exchange (l : Launch) (g : dd_G) (ad : Nat → Nat) (X : va_W) (sz : Nat) (sg : dd_S) (a1 : Int32) (a2 : Int32) (a3 : Int32) (s0 : dd_S) (hf : f_X6_exchange sg a1 a2 a3 = some (s0)) : Met l yX6_exchange (lw_ws yX6_exchange cX6_exchange 5 (none)) ({ frames := 0, cells := 0, slots := 0, locals := 0 } : Room) (va_Pc [.ref (ad 0), .int a1, .int a2, .int a3] (PreW g (WM g ad sg ++ X) sz)) (QV g (WM g ad s0 ++ X) (dd_A 9 ad X sz)) 0 0 (dd_A 9 ad X sz) := by
  refine Met.ofW (cc := cX6_exchange) (maxL := 5) (ret := none) (by decide) rfl ?_
  intro p e s m args below meth c s₁ B hml hv
  obtain ⟨rfl, rfl, hP, hK, hD0⟩ := hv
  have hx := B.exec
  have hb := B.bytes
  have hr := B.returns
  have hts := atoms_spec (ws := (lw_ws yX6_exchange cX6_exchange 5 (none))) B.pre
  have hts : ∀ w ∈ lw_all, w.before _ s = true := fun w h => hts w (List.mem_cons_of_mem _ h)
  have hown : s.vm.findClass RX6 = some m.cls := findClass_of_methodNamed B.named
  have hlocks := B.notSynchronized
  have hD : ∀ s2 : dd_S, va_D (dd_A 9 ad X s.heap.size) (WM g ad s2 ++ X) := fun s2 => dd_D (dd_A_D hD0)
  have hS : va_S (dd_A 9 ad X s.heap.size) s.heap s.heap [] := va_S.rf
  have hL_82 : ∀ (k_3 : dd_S → Int32 → Option (dd_S)) (hk_3 : ∀ (sg : dd_S) (v4 : Int32) (H : Heap) (locs : List Loc) (ls : Array Slot), k_3 sg v4 = some (s0) → va_P g.1 vwCl (WM g ad sg ++ X) H → va_S (dd_A 9 ad X s.heap.size) s.heap H locs → lv_has ls 5 [(0, .ref (ad 0)), (1, .int a1), (2, .int a2), (3, .int a3), (4, .int v4)] → W p l e (headSpec (lw_ws yX6_exchange cX6_exchange 5 (none)) ({ frames := 0, cells := 0, slots := 0, locals := 0 } : Room)).room s m ([.ref (ad 0), .int a1, .int a2, .int a3] : List Value).toArray below meth c H locs 0 0 (MQ below (QV g (WM g ad s0 ++ X) (dd_A 9 ad X s.heap.size)) ([.ref (ad 0), .int a1, .int a2, .int a3] : List Value).toArray s 0 0 (dd_A 9 ad X s.heap.size)) (F0 m 3 ls [])), ∀ (sg : dd_S) (v4 : Int32) (H : Heap) (locs : List Loc) (ls : Array Slot), f_X6_exchange_82 a1 a2 a3 k_3 sg v4 = some (s0) → va_P g.1 vwCl (WM g ad sg ++ X) H → va_S (dd_A 9 ad X s.heap.size) s.heap H locs → lv_has ls 5 [(0, .ref (ad 0)), (1, .int a1), (2, .int a2), (3, .int a3), (4, .int v4)] → W p l e (headSpec (lw_ws yX6_exchange cX6_exchange 5 (none)) ({ frames := 0, cells := 0, slots := 0, locals := 0 } : Room)).room s m ([.ref (ad 0), .int a1, .int a2, .int a3] : List Value).toArray below meth c H locs 0 0 (MQ below (QV g (WM g ad s0 ++ X) (dd_A 9 ad X s.heap.size)) ([.ref (ad 0), .int a1, .int a2, .int a3] : List Value).toArray s 0 0 (dd_A 9 ad X s.heap.size)) (F0 m 82 ls []) := by
    intro k_3 hk_3 sg v4 H locs ls hf hP hS hl
    unfold f_X6_exchange_82 at hf
    obtain ⟨x10, ex10, hf⟩ := lt_ex hf
    refine lv_iinc (v := x10) (lv' := [(4, .int x10), (0, .ref (ad 0)), (1, .int a1), (2, .int a2), (3, .int a3)]) hx hb dX6_exchange_82 hl (k := 4) rfl (by rw [ex10]; rfl) (by decide) rfl (fun ls hl => ?_)
    refine lv_goto (tgt := 3) hx hb dX6_exchange_85 (by decide) ?_
    exact hk_3 sg x10 _ _ _ hf hP hS (lv_sub hl [1, 2, 3, 4, 0] rfl)
  have hL_81 : ∀ (k_3 : dd_S → Int32 → Option (dd_S)) (hk_3 : ∀ (sg : dd_S) (v4 : Int32) (H : Heap) (locs : List Loc) (ls : Array Slot), k_3 sg v4 = some (s0) → va_P g.1 vwCl (WM g ad sg ++ X) H → va_S (dd_A 9 ad X s.heap.size) s.heap H locs → lv_has ls 5 [(0, .ref (ad 0)), (1, .int a1), (2, .int a2), (3, .int a3), (4, .int v4)] → W p l e (headSpec (lw_ws yX6_exchange cX6_exchange 5 (none)) ({ frames := 0, cells := 0, slots := 0, locals := 0 } : Room)).room s m ([.ref (ad 0), .int a1, .int a2, .int a3] : List Value).toArray below meth c H locs 0 0 (MQ below (QV g (WM g ad s0 ++ X) (dd_A 9 ad X s.heap.size)) ([.ref (ad 0), .int a1, .int a2, .int a3] : List Value).toArray s 0 0 (dd_A 9 ad X s.heap.size)) (F0 m 3 ls [])), ∀ (sg : dd_S) (v4 : Int32) (t0 : Int32) (t1 : Int32) (H : Heap) (locs : List Loc) (ls : Array Slot), f_X6_exchange_81 a1 a2 a3 k_3 sg v4 t0 t1 = some (s0) → va_P g.1 vwCl (WM g ad sg ++ X) H → va_S (dd_A 9 ad X s.heap.size) s.heap H locs → lv_has ls 5 [(0, .ref (ad 0)), (1, .int a1), (2, .int a2), (3, .int a3), (4, .int v4)] → W p l e (headSpec (lw_ws yX6_exchange cX6_exchange 5 (none)) ({ frames := 0, cells := 0, slots := 0, locals := 0 } : Room)).room s m ([.ref (ad 0), .int a1, .int a2, .int a3] : List Value).toArray below meth c H locs 0 0 (MQ below (QV g (WM g ad s0 ++ X) (dd_A 9 ad X s.heap.size)) ([.ref (ad 0), .int a1, .int a2, .int a3] : List Value).toArray s 0 0 (dd_A 9 ad X s.heap.size)) (F0 m 81 ls [.int t0, .int t1, .ref (ad 6)]) := by
    intro k_3 hk_3 sg v4 t0 t1 H locs ls hf hP hS hl
    unfold f_X6_exchange_81 at hf
    obtain ⟨hi13, hf⟩ := gd_so hf
    obtain ⟨sg14, esg14, hf⟩ := lt_ex hf
    refine W_iast hx hb hK hP hD hS 6 (by decide) (fun _ => cm_6) (ix_in hi13) dX6_exchange_81 (fun H locs hP hS => ?_)
    rw [← esg14] at hP
    exact hL_82 k_3 hk_3 sg14 v4 _ _ _ hf hP hS (lv_sub hl [0, 1, 2, 3, 4] rfl)
  have hL_59 : ∀ (k_3 : dd_S → Int32 → Option (dd_S)) (hk_3 : ∀ (sg : dd_S) (v4 : Int32) (H : Heap) (locs : List Loc) (ls : Array Slot), k_3 sg v4 = some (s0) → va_P g.1 vwCl (WM g ad sg ++ X) H → va_S (dd_A 9 ad X s.heap.size) s.heap H locs → lv_has ls 5 [(0, .ref (ad 0)), (1, .int a1), (2, .int a2), (3, .int a3), (4, .int v4)] → W p l e (headSpec (lw_ws yX6_exchange cX6_exchange 5 (none)) ({ frames := 0, cells := 0, slots := 0, locals := 0 } : Room)).room s m ([.ref (ad 0), .int a1, .int a2, .int a3] : List Value).toArray below meth c H locs 0 0 (MQ below (QV g (WM g ad s0 ++ X) (dd_A 9 ad X s.heap.size)) ([.ref (ad 0), .int a1, .int a2, .int a3] : List Value).toArray s 0 0 (dd_A 9 ad X s.heap.size)) (F0 m 3 ls [])), ∀ (sg : dd_S) (v4 : Int32) (H : Heap) (locs : List Loc) (ls : Array Slot), f_X6_exchange_59 a1 a2 a3 k_3 sg v4 = some (s0) → va_P g.1 vwCl (WM g ad sg ++ X) H → va_S (dd_A 9 ad X s.heap.size) s.heap H locs → lv_has ls 5 [(0, .ref (ad 0)), (1, .int a1), (2, .int a2), (3, .int a3), (4, .int v4)] → W p l e (headSpec (lw_ws yX6_exchange cX6_exchange 5 (none)) ({ frames := 0, cells := 0, slots := 0, locals := 0 } : Room)).room s m ([.ref (ad 0), .int a1, .int a2, .int a3] : List Value).toArray below meth c H locs 0 0 (MQ below (QV g (WM g ad s0 ++ X) (dd_A 9 ad X s.heap.size)) ([.ref (ad 0), .int a1, .int a2, .int a3] : List Value).toArray s 0 0 (dd_A 9 ad X s.heap.size)) (F0 m 59 ls []) := by
    intro k_3 hk_3 sg v4 H locs ls hf hP hS hl
    unfold f_X6_exchange_59 at hf
    refine lv_aload_n hx hb dX6_exchange_59 rfl (lv_at hl 0 rfl) ?_
    refine gf_X6_25 hx hb hts hown hK hP dX6_exchange_60 ?_
    refine lv_iload hx hb dX6_exchange_63 (lv_at hl 4 rfl) ?_
    refine lv_aload_n hx hb dX6_exchange_65 rfl (lv_at hl 0 rfl) ?_
    refine gf_X6_25 hx hb hts hown hK hP dX6_exchange_66 ?_
    refine lv_iload hx hb dX6_exchange_69 (lv_at hl 4 rfl) ?_
    obtain ⟨hi11, hf⟩ := gd_so hf
    refine W_iald hx hb hK hP 6 (by decide) cm_6 (ix_in hi11) dX6_exchange_71 ?_
    refine lv_iload_n hx hb dX6_exchange_72 rfl (lv_at hl 1 rfl) ?_
    refine lv_icmp_ne (tgt := 80) hx hb dX6_exchange_73 (by decide) (fun c12 => ?_) (fun c12 => ?_)
    · have hf := if_f c12 hf
      refine lv_iload_n hx hb dX6_exchange_80 rfl (lv_at hl 1 rfl) ?_
      exact hL_81 k_3 hk_3 sg v4 a1 v4 _ _ _ hf hP hS (lv_sub hl [0, 1, 2, 3, 4] rfl)
    · have hf := if_t c12 hf
      refine lv_iload_n hx hb dX6_exchange_76 rfl (lv_at hl 2 rfl) ?_
      refine lv_goto (tgt := 81) hx hb dX6_exchange_77 (by decide) ?_
      exact hL_81 k_3 hk_3 sg v4 a2 v4 _ _ _ hf hP hS (lv_sub hl [0, 1, 2, 3, 4] rfl)
  have hL_3 : ∀ (n : Nat), ∀ (sg : dd_S) (v4 : Int32) (H : Heap) (locs : List Loc) (ls : Array Slot), f_X6_exchange_3 a1 a2 a3 n sg v4 = some (s0) → va_P g.1 vwCl (WM g ad sg ++ X) H → va_S (dd_A 9 ad X s.heap.size) s.heap H locs → lv_has ls 5 [(0, .ref (ad 0)), (1, .int a1), (2, .int a2), (3, .int a3), (4, .int v4)] → W p l e (headSpec (lw_ws yX6_exchange cX6_exchange 5 (none)) ({ frames := 0, cells := 0, slots := 0, locals := 0 } : Room)).room s m ([.ref (ad 0), .int a1, .int a2, .int a3] : List Value).toArray below meth c H locs 0 0 (MQ below (QV g (WM g ad s0 ++ X) (dd_A 9 ad X s.heap.size)) ([.ref (ad 0), .int a1, .int a2, .int a3] : List Value).toArray s 0 0 (dd_A 9 ad X s.heap.size)) (F0 m 3 ls []) := by
    intro n
    induction n with
    | zero =>
      intro sg v4 H locs ls hf
      rw [f_X6_exchange_3] at hf
      cases hf
    | succ n ih =>
      intro sg v4 H locs ls hf hP hS hl
      rw [f_X6_exchange_3] at hf
      refine lv_iload hx hb dX6_exchange_3 (lv_at hl 4 rfl) ?_
      refine lv_aload_n hx hb dX6_exchange_5 rfl (lv_at hl 0 rfl) ?_
      refine gf_X6_50 hx hb hts hown hK hP dX6_exchange_6 ?_
      refine lv_icmp_ge (tgt := 88) hx hb dX6_exchange_9 (by decide) (fun c1 => ?_) (fun c1 => ?_)
      · have hf := if_t c1 hf
        exact W.vret hx hb hr (fun t ht hW => ⟨⟨(), rfl, trivial, P_at2 (so1 hf) ht hP⟩, hS.F ht⟩) hS.2.2 dX6_exchange_88
      · have hf := if_f c1 hf
        refine lv_aload_n hx hb dX6_exchange_12 rfl (lv_at hl 0 rfl) ?_
        refine gf_X6_19 hx hb hts hown hK hP dX6_exchange_13 ?_
        refine lv_iload hx hb dX6_exchange_16 (lv_at hl 4 rfl) ?_
        obtain ⟨hi2, hf⟩ := gd_so hf
        refine W_iald hx hb hK hP 4 (by decide) cm_4 (ix_in hi2) dX6_exchange_18 ?_
        refine lv_iload_n hx hb dX6_exchange_19 rfl (lv_at hl 3 rfl) ?_
        refine lv_icmp_lt (tgt := 82) hx hb dX6_exchange_20 (by decide) (fun c3 => ?_) (fun c3 => ?_)
        · have hf := if_t c3 hf
          exact hL_82 (fun zs z0 => f_X6_exchange_3 a1 a2 a3 n zs z0) ih sg v4 _ _ _ hf hP hS (lv_sub hl [0, 1, 2, 3, 4] rfl)
        · have hf := if_f c3 hf
          refine lv_aload_n hx hb dX6_exchange_23 rfl (lv_at hl 0 rfl) ?_
          refine gf_X6_25 hx hb hts hown hK hP dX6_exchange_24 ?_
          refine lv_iload hx hb dX6_exchange_27 (lv_at hl 4 rfl) ?_
          obtain ⟨hi4, hf⟩ := gd_so hf
          refine W_iald hx hb hK hP 6 (by decide) cm_6 (ix_in hi4) dX6_exchange_29 ?_
          refine lv_iconst (v := (-1 : Int32)) hx hb dX6_exchange_30 (by decide) ?_
          refine lv_icmp_eq (tgt := 82) hx hb dX6_exchange_31 (by decide) (fun c5 => ?_) (fun c5 => ?_)
          · have hf := if_t c5 hf
            exact hL_82 (fun zs z0 => f_X6_exchange_3 a1 a2 a3 n zs z0) ih sg v4 _ _ _ hf hP hS (lv_sub hl [0, 1, 2, 3, 4] rfl)
          · have hf := if_f c5 hf
            refine lv_aload_n hx hb dX6_exchange_34 rfl (lv_at hl 0 rfl) ?_
            refine gf_X6_25 hx hb hts hown hK hP dX6_exchange_35 ?_
            refine lv_iload hx hb dX6_exchange_38 (lv_at hl 4 rfl) ?_
            obtain ⟨hi6, hf⟩ := gd_so hf
            refine W_iald hx hb hK hP 6 (by decide) cm_6 (ix_in hi6) dX6_exchange_40 ?_
            refine lv_iload_n hx hb dX6_exchange_41 rfl (lv_at hl 1 rfl) ?_
            refine lv_icmp_eq (tgt := 59) hx hb dX6_exchange_42 (by decide) (fun c7 => ?_) (fun c7 => ?_)
            · have hf := if_t c7 hf
              exact hL_59 (fun zs z0 => f_X6_exchange_3 a1 a2 a3 n zs z0) ih sg v4 _ _ _ hf hP hS (lv_sub hl [0, 1, 2, 3, 4] rfl)
            · have hf := if_f c7 hf
              refine lv_aload_n hx hb dX6_exchange_45 rfl (lv_at hl 0 rfl) ?_
              refine gf_X6_25 hx hb hts hown hK hP dX6_exchange_46 ?_
              refine lv_iload hx hb dX6_exchange_49 (lv_at hl 4 rfl) ?_
              obtain ⟨hi8, hf⟩ := gd_so hf
              refine W_iald hx hb hK hP 6 (by decide) cm_6 (ix_in hi8) dX6_exchange_51 ?_
              refine lv_iload_n hx hb dX6_exchange_52 rfl (lv_at hl 2 rfl) ?_
              refine lv_icmp_eq (tgt := 59) hx hb dX6_exchange_53 (by decide) (fun c9 => ?_) (fun c9 => ?_)
              · have hf := if_t c9 hf
                exact hL_59 (fun zs z0 => f_X6_exchange_3 a1 a2 a3 n zs z0) ih sg v4 _ _ _ hf hP hS (lv_sub hl [0, 1, 2, 3, 4] rfl)
              · have hf := if_f c9 hf
                refine lv_goto (tgt := 82) hx hb dX6_exchange_56 (by decide) ?_
                exact hL_82 (fun zs z0 => f_X6_exchange_3 a1 a2 a3 n zs z0) ih sg v4 _ _ _ hf hP hS (lv_sub hl [0, 1, 2, 3, 4] rfl)
  unfold f_X6_exchange at hf
  have hl := lv_entry ([.ref (ad 0), .int a1, .int a2, .int a3]) (n := 5) (Nat.le_of_ble_eq_true rfl)
  rw [lg_entry_eq]
  generalize (lg_sl ([.ref (ad 0), .int a1, .int a2, .int a3]) ++ List.replicate (5 - (lg_sl ([.ref (ad 0), .int a1, .int a2, .int a3])).length) Slot.unset).toArray = ls at hl ⊢
  have hl : lv_has ls 5 [(0, .ref (ad 0)), (1, .int a1), (2, .int a2), (3, .int a3)] := hl
  refine lv_iconst (v := (0 : Int32)) hx hb dX6_exchange_0 (by decide) ?_
  refine lv_istore (lv' := [(4, .int (0 : Int32)), (0, .ref (ad 0)), (1, .int a1), (2, .int a2), (3, .int a3)]) hx hb dX6_exchange_1 hl (by decide) rfl (fun ls hl => ?_)
  exact hL_3 64 sg (0 : Int32) _ _ _ hf hP hS (lv_sub hl [1, 2, 3, 4, 0] rfl)
set_option maxHeartbeats 4000000 in
set_option maxRecDepth 100000 in
theorem c_X6_canExchange (l : Launch) (g : dd_G) (ad : Nat → Nat) (X : va_W) (sz : Nat) (sg : dd_S) (a1 : Int32) (a2 : Int32) (a3 : Int32) (r0 : Int32) (s0 : dd_S) (hf : f_X6_canExchange sg a1 a2 a3 = some (r0, s0)) : Met l yX6_canExchange (lw_ws yX6_canExchange cX6_canExchange 5 (some .boolean)) ({ frames := 3, cells := 0, slots := 0, locals := 71 } : Room) (va_Pc [.ref (ad 0), .int a1, .int a2, .int a3] (PreW g (WM g ad sg ++ X) sz)) (QI g (WM g ad s0 ++ X) (dd_A 9 ad X sz) r0) 0 0 (dd_A 9 ad X sz) := by
  refine Met.ofW (cc := cX6_canExchange) (maxL := 5) (ret := some .boolean) (by decide) rfl ?_
  intro p e s m args below meth c s₁ B hml hv
  obtain ⟨rfl, rfl, hP, hK, hD0⟩ := hv
  have hx := B.exec
  have hb := B.bytes
  have hr := B.returns
  have hts := atoms_spec (ws := (lw_ws yX6_canExchange cX6_canExchange 5 (some .boolean))) B.pre
  have hts : ∀ w ∈ lw_all, w.before _ s = true := fun w h => hts w (List.mem_cons_of_mem _ h)
  have hown : s.vm.findClass RX6 = some m.cls := findClass_of_methodNamed B.named
  have hlocks := B.notSynchronized
  have hD : ∀ s2 : dd_S, va_D (dd_A 9 ad X s.heap.size) (WM g ad s2 ++ X) := fun s2 => dd_D (dd_A_D hD0)
  have hS : va_S (dd_A 9 ad X s.heap.size) s.heap s.heap [] := va_S.rf
  have hL_16 : ∀ (sg : dd_S) (H : Heap) (locs : List Loc) (ls : Array Slot), f_X6_canExchange_16 a1 a2 a3 sg = some (r0, s0) → va_P g.1 vwCl (WM g ad sg ++ X) H → va_S (dd_A 9 ad X s.heap.size) s.heap H locs → lv_has ls 5 [] → W p l e (headSpec (lw_ws yX6_canExchange cX6_canExchange 5 (some .boolean)) ({ frames := 3, cells := 0, slots := 0, locals := 71 } : Room)).room s m ([.ref (ad 0), .int a1, .int a2, .int a3] : List Value).toArray below meth c H locs 0 0 (MQ below (QI g (WM g ad s0 ++ X) (dd_A 9 ad X s.heap.size) r0) ([.ref (ad 0), .int a1, .int a2, .int a3] : List Value).toArray s 0 0 (dd_A 9 ad X s.heap.size)) (F0 m 16 ls []) := by
    intro sg H locs ls hf hP hS hl
    unfold f_X6_canExchange_16 at hf
    refine lv_iconst (v := (0 : Int32)) hx hb dX6_canExchange_16 (by decide) ?_
    exact W.zret (v := (0 : Int32)) hx hb hr rfl (fun t ht hW => ⟨⟨(0 : Int32), (), rfl, (so2 hf).1, P_at2 (so2 hf).2 ht hP⟩, hS.F ht⟩) hS.2.2 dX6_canExchange_17
  have hL_79 : ∀ (sg : dd_S) (t0 : Int32) (H : Heap) (locs : List Loc) (ls : Array Slot), f_X6_canExchange_79 a1 a2 a3 sg t0 = some (r0, s0) → va_P g.1 vwCl (WM g ad sg ++ X) H → va_S (dd_A 9 ad X s.heap.size) s.heap H locs → lv_has ls 5 [(0, .ref (ad 0)), (1, .int a1), (2, .int a2), (3, .int a3)] → W p l e (headSpec (lw_ws yX6_canExchange cX6_canExchange 5 (some .boolean)) ({ frames := 3, cells := 0, slots := 0, locals := 71 } : Room)).room s m ([.ref (ad 0), .int a1, .int a2, .int a3] : List Value).toArray below meth c H locs 0 0 (MQ below (QI g (WM g ad s0 ++ X) (dd_A 9 ad X s.heap.size) r0) ([.ref (ad 0), .int a1, .int a2, .int a3] : List Value).toArray s 0 0 (dd_A 9 ad X s.heap.size)) (F0 m 79 ls [.int t0]) := by
    intro sg t0 H locs ls hf hP hS hl
    unfold f_X6_canExchange_79 at hf
    refine lv_istore (lv' := [(4, .int t0), (0, .ref (ad 0)), (1, .int a1), (2, .int a2), (3, .int a3)]) hx hb dX6_canExchange_79 hl (by decide) rfl (fun ls hl => ?_)
    refine lv_aload_n hx hb dX6_canExchange_81 rfl (lv_at hl 1 rfl) ?_
    refine lv_dup hx hb dX6_canExchange_82 rfl ?_
    refine gf_X6_144 hx hb hts hown hK hP dX6_canExchange_83 ?_
    refine lv_aload_n hx hb dX6_canExchange_86 rfl (lv_at hl 1 rfl) ?_
    refine gf_X6_97 hx hb hts hown hK hP dX6_canExchange_87 ?_
    refine lv_iadd hx hb dX6_canExchange_90 ?_
    obtain ⟨sg25, esg25, hf⟩ := lt_ex hf
    refine pf_X6_144 hx hb hts hown hK hP hD hS dX6_canExchange_91 (fun H locs hP hS => ?_)
    rw [← esg25] at hP
    refine lv_aload_n hx hb dX6_canExchange_94 rfl (lv_at hl 1 rfl) ?_
    refine lv_iload_n hx hb dX6_canExchange_95 rfl (lv_at hl 2 rfl) ?_
    refine lv_iload_n hx hb dX6_canExchange_96 rfl (lv_at hl 3 rfl) ?_
    refine lv_iload_n hx hb dX6_canExchange_97 rfl (lv_at hl 4 rfl) ?_
    obtain ⟨sg27, q26, hf⟩ := bd_so hf
    refine cl_v (va_runV (As := [.int a1, .int a2, .int a3]) (rest := []) ⟨hx, hb, hml, hown, hts⟩ (c_X6_exchange l g ad X _ sg25 a1 a2 a3 sg27 q26) (cwV 3 hts gl_X6_147 rfl rfl rfl yd_X6_exchange ⟨Nat.le_of_ble_eq_true rfl, Nat.le_of_ble_eq_true rfl⟩) (preV_of hK hP (hD sg25) (dd_at (by decide) cm_0) rfl) rfl rfl hl.1 rfl (lv_room (Nat.le_of_ble_eq_true rfl)) dX6_canExchange_98 ⟨Nat.le_of_ble_eq_true rfl, Nat.le_of_ble_eq_true rfl⟩) hS (fun q h => dd_A_mono hS.1 h) (fun q h => dd_A_mono hS.1 h) (fun H locs hP hS => ?_)
    refine lv_iload hx hb dX6_canExchange_101 (lv_at hl 0 rfl) ?_
    obtain ⟨hz28, hf⟩ := gd_so hf
    exact W.zret (v := t0) hx hb hr (bz_z hz28) (fun t ht hW => ⟨⟨t0, (), rfl, (so2 hf).1, P_at2 (so2 hf).2 ht hP⟩, hS.F ht⟩) hS.2.2 dX6_canExchange_103
  have hL_78 : ∀ (sg : dd_S) (H : Heap) (locs : List Loc) (ls : Array Slot), f_X6_canExchange_78 a1 a2 a3 sg = some (r0, s0) → va_P g.1 vwCl (WM g ad sg ++ X) H → va_S (dd_A 9 ad X s.heap.size) s.heap H locs → lv_has ls 5 [(0, .ref (ad 0)), (1, .int a1), (2, .int a2), (3, .int a3)] → W p l e (headSpec (lw_ws yX6_canExchange cX6_canExchange 5 (some .boolean)) ({ frames := 3, cells := 0, slots := 0, locals := 71 } : Room)).room s m ([.ref (ad 0), .int a1, .int a2, .int a3] : List Value).toArray below meth c H locs 0 0 (MQ below (QI g (WM g ad s0 ++ X) (dd_A 9 ad X s.heap.size) r0) ([.ref (ad 0), .int a1, .int a2, .int a3] : List Value).toArray s 0 0 (dd_A 9 ad X s.heap.size)) (F0 m 78 ls []) := by
    intro sg H locs ls hf hP hS hl
    unfold f_X6_canExchange_78 at hf
    refine lv_iconst (v := (0 : Int32)) hx hb dX6_canExchange_78 (by decide) ?_
    exact hL_79 sg (0 : Int32) _ _ _ hf hP hS (lv_sub hl [0, 1, 2, 3] rfl)
  unfold f_X6_canExchange at hf
  have hl := lv_entry ([.ref (ad 0), .int a1, .int a2, .int a3]) (n := 5) (Nat.le_of_ble_eq_true rfl)
  rw [lg_entry_eq]
  generalize (lg_sl ([.ref (ad 0), .int a1, .int a2, .int a3]) ++ List.replicate (5 - (lg_sl ([.ref (ad 0), .int a1, .int a2, .int a3])).length) Slot.unset).toArray = ls at hl ⊢
  have hl : lv_has ls 5 [(0, .ref (ad 0)), (1, .int a1), (2, .int a2), (3, .int a3)] := hl
  refine lv_aload_n hx hb dX6_canExchange_0 rfl (lv_at hl 0 rfl) ?_
  refine lv_iload_n hx hb dX6_canExchange_1 rfl (lv_at hl 1 rfl) ?_
  obtain ⟨r2, q1, hf⟩ := bd_so hf
  refine cl_i (va_runV (As := [.int a1]) (rest := []) ⟨hx, hb, hml, hown, hts⟩ (c_X6_isFixed l g ad X _ sg a1 r2 q1) (cwV 1 hts gl_X6_119 rfl rfl rfl yd_X6_isFixed ⟨Nat.le_of_ble_eq_true rfl, Nat.le_of_ble_eq_true rfl⟩) (preV_of hK hP (hD sg) (dd_at (by decide) cm_0) rfl) rfl rfl hl.1 rfl (lv_room (Nat.le_of_ble_eq_true rfl)) dX6_canExchange_2 ⟨Nat.le_of_ble_eq_true rfl, Nat.le_of_ble_eq_true rfl⟩) hS (fun q h => dd_A_mono hS.1 h) (fun q h => dd_A_mono hS.1 h) (fun H locs hP hS => ?_)
  refine lv_if_ne (tgt := 16) hx hb dX6_canExchange_5 (by decide) (fun c3 => ?_) (fun c3 => ?_)
  · have hf := if_f c3 hf
    exact hL_16 sg _ _ _ hf hP hS (lv_sub hl [] rfl)
  · have hf := if_t c3 hf
    refine lv_aload_n hx hb dX6_canExchange_8 rfl (lv_at hl 0 rfl) ?_
    refine lv_iload_n hx hb dX6_canExchange_9 rfl (lv_at hl 2 rfl) ?_
    obtain ⟨r5, q4, hf⟩ := bd_so hf
    refine cl_i (va_runV (As := [.int a2]) (rest := []) ⟨hx, hb, hml, hown, hts⟩ (c_X6_isFixed l g ad X _ sg a2 r5 q4) (cwV 1 hts gl_X6_119 rfl rfl rfl yd_X6_isFixed ⟨Nat.le_of_ble_eq_true rfl, Nat.le_of_ble_eq_true rfl⟩) (preV_of hK hP (hD sg) (dd_at (by decide) cm_0) rfl) rfl rfl hl.1 rfl (lv_room (Nat.le_of_ble_eq_true rfl)) dX6_canExchange_10 ⟨Nat.le_of_ble_eq_true rfl, Nat.le_of_ble_eq_true rfl⟩) hS (fun q h => dd_A_mono hS.1 h) (fun q h => dd_A_mono hS.1 h) (fun H locs hP hS => ?_)
    refine lv_if_eq (tgt := 18) hx hb dX6_canExchange_13 (by decide) (fun c6 => ?_) (fun c6 => ?_)
    · have hf := if_t c6 hf
      refine lv_aload_n hx hb dX6_canExchange_18 rfl (lv_at hl 0 rfl) ?_
      refine lv_aload_n hx hb dX6_canExchange_19 rfl (lv_at hl 0 rfl) ?_
      refine lv_iload_n hx hb dX6_canExchange_20 rfl (lv_at hl 1 rfl) ?_
      obtain ⟨r9, sg8, q7, hf⟩ := bd2_so hf
      refine cl_i (va_runV (As := [.int a1]) (rest := [.ref (ad 0)]) ⟨hx, hb, hml, hown, hts⟩ (c_X6_payOf l g ad X _ sg a1 r9 sg8 q7) (cwV 1 hts gl_X6_135 rfl rfl rfl yd_X6_payOf ⟨Nat.le_of_ble_eq_true rfl, Nat.le_of_ble_eq_true rfl⟩) (preV_of hK hP (hD sg) (dd_at (by decide) cm_0) rfl) rfl rfl hl.1 rfl (lv_room (Nat.le_of_ble_eq_true rfl)) dX6_canExchange_21 ⟨Nat.le_of_ble_eq_true rfl, Nat.le_of_ble_eq_true rfl⟩) hS (fun q h => dd_A_mono hS.1 h) (fun q h => dd_A_mono hS.1 h) (fun H locs hP hS => ?_)
      refine lv_ineg hx hb dX6_canExchange_24 ?_
      refine lv_aload_n hx hb dX6_canExchange_25 rfl (lv_at hl 0 rfl) ?_
      refine lv_iload_n hx hb dX6_canExchange_26 rfl (lv_at hl 2 rfl) ?_
      obtain ⟨r12, sg11, q10, hf⟩ := bd2_so hf
      refine cl_i (va_runV (As := [.int a2]) (rest := [.int (-r9), .ref (ad 0)]) ⟨hx, hb, hml, hown, hts⟩ (c_X6_payOf l g ad X _ sg8 a2 r12 sg11 q10) (cwV 1 hts gl_X6_135 rfl rfl rfl yd_X6_payOf ⟨Nat.le_of_ble_eq_true rfl, Nat.le_of_ble_eq_true rfl⟩) (preV_of hK hP (hD sg8) (dd_at (by decide) cm_0) rfl) rfl rfl hl.1 rfl (lv_room (Nat.le_of_ble_eq_true rfl)) dX6_canExchange_27 ⟨Nat.le_of_ble_eq_true rfl, Nat.le_of_ble_eq_true rfl⟩) hS (fun q h => dd_A_mono hS.1 h) (fun q h => dd_A_mono hS.1 h) (fun H locs hP hS => ?_)
      refine lv_isub hx hb dX6_canExchange_30 ?_
      obtain ⟨sg13, esg13, hf⟩ := lt_ex hf
      refine pf_X6_144 hx hb hts hown hK hP hD hS dX6_canExchange_31 (fun H locs hP hS => ?_)
      rw [← esg13] at hP
      refine lv_aload_n hx hb dX6_canExchange_34 rfl (lv_at hl 0 rfl) ?_
      refine lv_iload_n hx hb dX6_canExchange_35 rfl (lv_at hl 1 rfl) ?_
      refine lv_iload_n hx hb dX6_canExchange_36 rfl (lv_at hl 2 rfl) ?_
      refine lv_iload_n hx hb dX6_canExchange_37 rfl (lv_at hl 3 rfl) ?_
      obtain ⟨sg15, q14, hf⟩ := bd_so hf
      refine cl_v (va_runV (As := [.int a1, .int a2, .int a3]) (rest := []) ⟨hx, hb, hml, hown, hts⟩ (c_X6_exchange l g ad X _ sg13 a1 a2 a3 sg15 q14) (cwV 3 hts gl_X6_147 rfl rfl rfl yd_X6_exchange ⟨Nat.le_of_ble_eq_true rfl, Nat.le_of_ble_eq_true rfl⟩) (preV_of hK hP (hD sg13) (dd_at (by decide) cm_0) rfl) rfl rfl hl.1 rfl (lv_room (Nat.le_of_ble_eq_true rfl)) dX6_canExchange_38 ⟨Nat.le_of_ble_eq_true rfl, Nat.le_of_ble_eq_true rfl⟩) hS (fun q h => dd_A_mono hS.1 h) (fun q h => dd_A_mono hS.1 h) (fun H locs hP hS => ?_)
      refine lv_aload_n hx hb dX6_canExchange_41 rfl (lv_at hl 0 rfl) ?_
      refine lv_iload_n hx hb dX6_canExchange_42 rfl (lv_at hl 1 rfl) ?_
      obtain ⟨r18, sg17, q16, hf⟩ := bd2_so hf
      refine cl_i (va_runV (As := [.int a1]) (rest := []) ⟨hx, hb, hml, hown, hts⟩ (c_X6_look l g ad X _ sg15 a1 r18 sg17 q16) (cwV 1 hts gl_X6_71 rfl rfl rfl yd_X6_look ⟨Nat.le_of_ble_eq_true rfl, Nat.le_of_ble_eq_true rfl⟩) (preV_of hK hP (hD sg15) (dd_at (by decide) cm_0) rfl) rfl rfl hl.1 rfl (lv_room (Nat.le_of_ble_eq_true rfl)) dX6_canExchange_43 ⟨Nat.le_of_ble_eq_true rfl, Nat.le_of_ble_eq_true rfl⟩) hS (fun q h => dd_A_mono hS.1 h) (fun q h => dd_A_mono hS.1 h) (fun H locs hP hS => ?_)
      refine lv_istore (lv' := [(4, .int r18), (0, .ref (ad 0)), (1, .int a1), (2, .int a2), (3, .int a3)]) hx hb dX6_canExchange_46 hl (by decide) rfl (fun ls hl => ?_)
      refine lv_aload_n hx hb dX6_canExchange_48 rfl (lv_at hl 1 rfl) ?_
      refine lv_dup hx hb dX6_canExchange_49 rfl ?_
      refine gf_X6_144 hx hb hts hown hK hP dX6_canExchange_50 ?_
      refine lv_aload_n hx hb dX6_canExchange_53 rfl (lv_at hl 1 rfl) ?_
      refine gf_X6_97 hx hb hts hown hK hP dX6_canExchange_54 ?_
      refine lv_iadd hx hb dX6_canExchange_57 ?_
      obtain ⟨sg19, esg19, hf⟩ := lt_ex hf
      refine pf_X6_144 hx hb hts hown hK hP hD hS dX6_canExchange_58 (fun H locs hP hS => ?_)
      rw [← esg19] at hP
      refine lv_aload_n hx hb dX6_canExchange_61 rfl (lv_at hl 1 rfl) ?_
      refine lv_iload_n hx hb dX6_canExchange_62 rfl (lv_at hl 3 rfl) ?_
      obtain ⟨r22, sg21, q20, hf⟩ := bd2_so hf
      refine cl_i (va_runV (As := [.int a2]) (rest := []) ⟨hx, hb, hml, hown, hts⟩ (c_X6_look l g ad X _ sg19 a2 r22 sg21 q20) (cwV 1 hts gl_X6_71 rfl rfl rfl yd_X6_look ⟨Nat.le_of_ble_eq_true rfl, Nat.le_of_ble_eq_true rfl⟩) (preV_of hK hP (hD sg19) (dd_at (by decide) cm_0) rfl) rfl rfl hl.1 rfl (lv_room (Nat.le_of_ble_eq_true rfl)) dX6_canExchange_63 ⟨Nat.le_of_ble_eq_true rfl, Nat.le_of_ble_eq_true rfl⟩) hS (fun q h => dd_A_mono hS.1 h) (fun q h => dd_A_mono hS.1 h) (fun H locs hP hS => ?_)
      refine lv_if_eq (tgt := 78) hx hb dX6_canExchange_66 (by decide) (fun c23 => ?_) (fun c23 => ?_)
      · have hf := if_t c23 hf
        exact hL_78 sg21 _ _ _ hf hP hS (lv_sub hl [1, 2, 3, 4] rfl)
      · have hf := if_f c23 hf
        refine lv_iload hx hb dX6_canExchange_69 (lv_at hl 0 rfl) ?_
        refine lv_if_eq (tgt := 78) hx hb dX6_canExchange_71 (by decide) (fun c24 => ?_) (fun c24 => ?_)
        · have hf := if_t c24 hf
          exact hL_78 sg21 _ _ _ hf hP hS (lv_sub hl [1, 2, 3, 4] rfl)
        · have hf := if_f c24 hf
          refine lv_iconst (v := (1 : Int32)) hx hb dX6_canExchange_74 (by decide) ?_
          refine lv_goto (tgt := 79) hx hb dX6_canExchange_75 (by decide) ?_
          exact hL_79 sg21 (1 : Int32) _ _ _ hf hP hS (lv_sub hl [1, 2, 3, 4] rfl)
    · have hf := if_f c6 hf
      exact hL_16 sg _ _ _ hf hP hS (lv_sub hl [] rfl)
set_option maxHeartbeats 4000000 in
set_option maxRecDepth 100000 in
theorem c_X6_swap (l : Launch) (g : dd_G) (ad : Nat → Nat) (X : va_W) (sz : Nat) (sg : dd_S) (a1 : Int32) (a2 : Int32) (a3 : Int32) (r0 : Int32) (s0 : dd_S) (hf : f_X6_swap sg a1 a2 a3 = some (r0, s0)) : Met l yX6_swap (lw_ws yX6_swap cX6_swap 4 (some .int)) ({ frames := 4, cells := 0, slots := 0, locals := 95 } : Room) (va_Pc [.ref (ad 0), .int a1, .int a2, .int a3] (PreW g (WM g ad sg ++ X) sz)) (QI g (WM g ad s0 ++ X) (dd_A 9 ad X sz) r0) 0 0 (dd_A 9 ad X sz) := by
  refine Met.ofW (cc := cX6_swap) (maxL := 4) (ret := some .int) (by decide) rfl ?_
  intro p e s m args below meth c s₁ B hml hv
  obtain ⟨rfl, rfl, hP, hK, hD0⟩ := hv
  have hx := B.exec
  have hb := B.bytes
  have hr := B.returns
  have hts := atoms_spec (ws := (lw_ws yX6_swap cX6_swap 4 (some .int))) B.pre
  have hts : ∀ w ∈ lw_all, w.before _ s = true := fun w h => hts w (List.mem_cons_of_mem _ h)
  have hown : s.vm.findClass RX6 = some m.cls := findClass_of_methodNamed B.named
  have hlocks := B.notSynchronized
  have hD : ∀ s2 : dd_S, va_D (dd_A 9 ad X s.heap.size) (WM g ad s2 ++ X) := fun s2 => dd_D (dd_A_D hD0)
  have hS : va_S (dd_A 9 ad X s.heap.size) s.heap s.heap [] := va_S.rf
  have hL_21 : ∀ (sg : dd_S) (H : Heap) (locs : List Loc) (ls : Array Slot), f_X6_swap_21 a1 a2 a3 sg = some (r0, s0) → va_P g.1 vwCl (WM g ad sg ++ X) H → va_S (dd_A 9 ad X s.heap.size) s.heap H locs → lv_has ls 4 [(0, .ref (ad 0))] → W p l e (headSpec (lw_ws yX6_swap cX6_swap 4 (some .int)) ({ frames := 4, cells := 0, slots := 0, locals := 95 } : Room)).room s m ([.ref (ad 0), .int a1, .int a2, .int a3] : List Value).toArray below meth c H locs 0 0 (MQ below (QI g (WM g ad s0 ++ X) (dd_A 9 ad X s.heap.size) r0) ([.ref (ad 0), .int a1, .int a2, .int a3] : List Value).toArray s 0 0 (dd_A 9 ad X s.heap.size)) (F0 m 21 ls []) := by
    intro sg H locs ls hf hP hS hl
    unfold f_X6_swap_21 at hf
    refine lv_aload_n hx hb dX6_swap_21 rfl (lv_at hl 0 rfl) ?_
    refine lv_iconst (v := (1 : Int32)) hx hb dX6_swap_22 (by decide) ?_
    obtain ⟨r23, sg22, q21, hf⟩ := bd2_so hf
    refine cl_i (va_runV (As := [.int (1 : Int32)]) (rest := []) ⟨hx, hb, hml, hown, hts⟩ (c_X6_no l g ad X _ sg (1 : Int32) r23 sg22 q21) (cwV 1 hts gl_X6_64 rfl rfl rfl yd_X6_no ⟨Nat.le_of_ble_eq_true rfl, Nat.le_of_ble_eq_true rfl⟩) (preV_of hK hP (hD sg) (dd_at (by decide) cm_0) rfl) rfl rfl hl.1 rfl (lv_room (Nat.le_of_ble_eq_true rfl)) dX6_swap_23 ⟨Nat.le_of_ble_eq_true rfl, Nat.le_of_ble_eq_true rfl⟩) hS (fun q h => dd_A_mono hS.1 h) (fun q h => dd_A_mono hS.1 h) (fun H locs hP hS => ?_)
    exact W.iret (v := r23) hx hb hr (fun t ht hW => ⟨⟨r23, (), rfl, (so2 hf).1, P_at2 (so2 hf).2 ht hP⟩, hS.F ht⟩) hS.2.2 dX6_swap_26
  unfold f_X6_swap at hf
  have hl := lv_entry ([.ref (ad 0), .int a1, .int a2, .int a3]) (n := 4) (Nat.le_of_ble_eq_true rfl)
  rw [lg_entry_eq]
  generalize (lg_sl ([.ref (ad 0), .int a1, .int a2, .int a3]) ++ List.replicate (4 - (lg_sl ([.ref (ad 0), .int a1, .int a2, .int a3])).length) Slot.unset).toArray = ls at hl ⊢
  have hl : lv_has ls 4 [(0, .ref (ad 0)), (1, .int a1), (2, .int a2), (3, .int a3)] := hl
  refine lv_aload_n hx hb dX6_swap_0 rfl (lv_at hl 0 rfl) ?_
  refine lv_iconst (v := (0 : Int32)) hx hb dX6_swap_1 (by decide) ?_
  obtain ⟨sg1, esg1, hf⟩ := lt_ex hf
  refine pf_X6_47 hx hb hts hown hK hP hD hS dX6_swap_2 (fun H locs hP hS => ?_)
  rw [← esg1] at hP
  refine lv_aload_n hx hb dX6_swap_5 rfl (lv_at hl 0 rfl) ?_
  refine lv_iload_n hx hb dX6_swap_6 rfl (lv_at hl 1 rfl) ?_
  obtain ⟨r3, q2, hf⟩ := bd_so hf
  refine cl_i (va_runV (As := [.int a1]) (rest := []) ⟨hx, hb, hml, hown, hts⟩ (c_X6_isDuty l g ad X _ sg1 a1 r3 q2) (cwV 1 hts gl_X6_126 rfl rfl rfl yd_X6_isDuty ⟨Nat.le_of_ble_eq_true rfl, Nat.le_of_ble_eq_true rfl⟩) (preV_of hK hP (hD sg1) (dd_at (by decide) cm_0) rfl) rfl rfl hl.1 rfl (lv_room (Nat.le_of_ble_eq_true rfl)) dX6_swap_7 ⟨Nat.le_of_ble_eq_true rfl, Nat.le_of_ble_eq_true rfl⟩) hS (fun q h => dd_A_mono hS.1 h) (fun q h => dd_A_mono hS.1 h) (fun H locs hP hS => ?_)
  refine lv_if_eq (tgt := 21) hx hb dX6_swap_10 (by decide) (fun c4 => ?_) (fun c4 => ?_)
  · have hf := if_t c4 hf
    exact hL_21 sg1 _ _ _ hf hP hS (lv_sub hl [0] rfl)
  · have hf := if_f c4 hf
    refine lv_aload_n hx hb dX6_swap_13 rfl (lv_at hl 0 rfl) ?_
    refine lv_iload_n hx hb dX6_swap_14 rfl (lv_at hl 2 rfl) ?_
    obtain ⟨r6, q5, hf⟩ := bd_so hf
    refine cl_i (va_runV (As := [.int a2]) (rest := []) ⟨hx, hb, hml, hown, hts⟩ (c_X6_isDuty l g ad X _ sg1 a2 r6 q5) (cwV 1 hts gl_X6_126 rfl rfl rfl yd_X6_isDuty ⟨Nat.le_of_ble_eq_true rfl, Nat.le_of_ble_eq_true rfl⟩) (preV_of hK hP (hD sg1) (dd_at (by decide) cm_0) rfl) rfl rfl hl.1 rfl (lv_room (Nat.le_of_ble_eq_true rfl)) dX6_swap_15 ⟨Nat.le_of_ble_eq_true rfl, Nat.le_of_ble_eq_true rfl⟩) hS (fun q h => dd_A_mono hS.1 h) (fun q h => dd_A_mono hS.1 h) (fun H locs hP hS => ?_)
    refine lv_if_ne (tgt := 27) hx hb dX6_swap_18 (by decide) (fun c7 => ?_) (fun c7 => ?_)
    · have hf := if_f c7 hf
      refine lv_iload_n hx hb dX6_swap_27 rfl (lv_at hl 1 rfl) ?_
      refine lv_iload_n hx hb dX6_swap_28 rfl (lv_at hl 2 rfl) ?_
      refine lv_icmp_ne (tgt := 38) hx hb dX6_swap_29 (by decide) (fun c8 => ?_) (fun c8 => ?_)
      · have hf := if_f c8 hf
        refine lv_aload_n hx hb dX6_swap_38 rfl (lv_at hl 0 rfl) ?_
        refine lv_iload_n hx hb dX6_swap_39 rfl (lv_at hl 1 rfl) ?_
        refine lv_iload_n hx hb dX6_swap_40 rfl (lv_at hl 2 rfl) ?_
        refine lv_iload_n hx hb dX6_swap_41 rfl (lv_at hl 3 rfl) ?_
        obtain ⟨r11, sg10, q9, hf⟩ := bd2_so hf
        refine cl_i (va_runV (As := [.int a1, .int a2, .int a3]) (rest := []) ⟨hx, hb, hml, hown, hts⟩ (c_X6_canExchange l g ad X _ sg1 a1 a2 a3 r11 sg10 q9) (cwV 3 hts gl_X6_151 rfl rfl rfl yd_X6_canExchange ⟨Nat.le_of_ble_eq_true rfl, Nat.le_of_ble_eq_true rfl⟩) (preV_of hK hP (hD sg1) (dd_at (by decide) cm_0) rfl) rfl rfl hl.1 rfl (lv_room (Nat.le_of_ble_eq_true rfl)) dX6_swap_42 ⟨Nat.le_of_ble_eq_true rfl, Nat.le_of_ble_eq_true rfl⟩) hS (fun q h => dd_A_mono hS.1 h) (fun q h => dd_A_mono hS.1 h) (fun H locs hP hS => ?_)
        refine lv_if_ne (tgt := 54) hx hb dX6_swap_45 (by decide) (fun c12 => ?_) (fun c12 => ?_)
        · have hf := if_f c12 hf
          refine lv_aload_n hx hb dX6_swap_54 rfl (lv_at hl 0 rfl) ?_
          refine lv_iload_n hx hb dX6_swap_55 rfl (lv_at hl 1 rfl) ?_
          refine lv_iload_n hx hb dX6_swap_56 rfl (lv_at hl 2 rfl) ?_
          refine lv_iload_n hx hb dX6_swap_57 rfl (lv_at hl 3 rfl) ?_
          obtain ⟨sg14, q13, hf⟩ := bd_so hf
          refine cl_v (va_runV (As := [.int a1, .int a2, .int a3]) (rest := []) ⟨hx, hb, hml, hown, hts⟩ (c_X6_exchange l g ad X _ sg10 a1 a2 a3 sg14 q13) (cwV 3 hts gl_X6_147 rfl rfl rfl yd_X6_exchange ⟨Nat.le_of_ble_eq_true rfl, Nat.le_of_ble_eq_true rfl⟩) (preV_of hK hP (hD sg10) (dd_at (by decide) cm_0) rfl) rfl rfl hl.1 rfl (lv_room (Nat.le_of_ble_eq_true rfl)) dX6_swap_58 ⟨Nat.le_of_ble_eq_true rfl, Nat.le_of_ble_eq_true rfl⟩) hS (fun q h => dd_A_mono hS.1 h) (fun q h => dd_A_mono hS.1 h) (fun H locs hP hS => ?_)
          refine lv_aload_n hx hb dX6_swap_61 rfl (lv_at hl 0 rfl) ?_
          refine gf_X6_144 hx hb hts hown hK hP dX6_swap_62 ?_
          exact W.iret (v := (sg14 0 24)) hx hb hr (fun t ht hW => ⟨⟨(sg14 0 24), (), rfl, (so2 hf).1, P_at2 (so2 hf).2 ht hP⟩, hS.F ht⟩) hS.2.2 dX6_swap_65
        · have hf := if_t c12 hf
          refine lv_aload_n hx hb dX6_swap_48 rfl (lv_at hl 0 rfl) ?_
          refine lv_iconst (v := (3 : Int32)) hx hb dX6_swap_49 (by decide) ?_
          obtain ⟨r17, sg16, q15, hf⟩ := bd2_so hf
          refine cl_i (va_runV (As := [.int (3 : Int32)]) (rest := []) ⟨hx, hb, hml, hown, hts⟩ (c_X6_no l g ad X _ sg10 (3 : Int32) r17 sg16 q15) (cwV 1 hts gl_X6_64 rfl rfl rfl yd_X6_no ⟨Nat.le_of_ble_eq_true rfl, Nat.le_of_ble_eq_true rfl⟩) (preV_of hK hP (hD sg10) (dd_at (by decide) cm_0) rfl) rfl rfl hl.1 rfl (lv_room (Nat.le_of_ble_eq_true rfl)) dX6_swap_50 ⟨Nat.le_of_ble_eq_true rfl, Nat.le_of_ble_eq_true rfl⟩) hS (fun q h => dd_A_mono hS.1 h) (fun q h => dd_A_mono hS.1 h) (fun H locs hP hS => ?_)
          exact W.iret (v := r17) hx hb hr (fun t ht hW => ⟨⟨r17, (), rfl, (so2 hf).1, P_at2 (so2 hf).2 ht hP⟩, hS.F ht⟩) hS.2.2 dX6_swap_53
      · have hf := if_t c8 hf
        refine lv_aload_n hx hb dX6_swap_32 rfl (lv_at hl 0 rfl) ?_
        refine lv_iconst (v := (2 : Int32)) hx hb dX6_swap_33 (by decide) ?_
        obtain ⟨r20, sg19, q18, hf⟩ := bd2_so hf
        refine cl_i (va_runV (As := [.int (2 : Int32)]) (rest := []) ⟨hx, hb, hml, hown, hts⟩ (c_X6_no l g ad X _ sg1 (2 : Int32) r20 sg19 q18) (cwV 1 hts gl_X6_64 rfl rfl rfl yd_X6_no ⟨Nat.le_of_ble_eq_true rfl, Nat.le_of_ble_eq_true rfl⟩) (preV_of hK hP (hD sg1) (dd_at (by decide) cm_0) rfl) rfl rfl hl.1 rfl (lv_room (Nat.le_of_ble_eq_true rfl)) dX6_swap_34 ⟨Nat.le_of_ble_eq_true rfl, Nat.le_of_ble_eq_true rfl⟩) hS (fun q h => dd_A_mono hS.1 h) (fun q h => dd_A_mono hS.1 h) (fun H locs hP hS => ?_)
        exact W.iret (v := r20) hx hb hr (fun t ht hW => ⟨⟨r20, (), rfl, (so2 hf).1, P_at2 (so2 hf).2 ht hP⟩, hS.F ht⟩) hS.2.2 dX6_swap_37
    · have hf := if_t c7 hf
      exact hL_21 sg1 _ _ _ hf hP hS (lv_sub hl [0] rfl)
set_option maxHeartbeats 4000000 in
set_option maxRecDepth 100000 in
theorem c_X6_improve (l : Launch) (g : dd_G) (ad : Nat → Nat) (X : va_W) (sz : Nat) (sg : dd_S) (r0 : Int32) (s0 : dd_S) (hf : f_X6_improve sg = some (r0, s0)) : Met l yX6_improve (lw_ws yX6_improve cX6_improve 9 (some .int)) ({ frames := 4, cells := 0, slots := 0, locals := 95 } : Room) (va_Pc [.ref (ad 0)] (PreW g (WM g ad sg ++ X) sz)) (QI g (WM g ad s0 ++ X) (dd_A 9 ad X sz) r0) 0 0 (dd_A 9 ad X sz) := by
  refine Met.ofW (cc := cX6_improve) (maxL := 9) (ret := some .int) (by decide) rfl ?_
  intro p e s m args below meth c s₁ B hml hv
  obtain ⟨rfl, rfl, hP, hK, hD0⟩ := hv
  have hx := B.exec
  have hb := B.bytes
  have hr := B.returns
  have hts := atoms_spec (ws := (lw_ws yX6_improve cX6_improve 9 (some .int))) B.pre
  have hts : ∀ w ∈ lw_all, w.before _ s = true := fun w h => hts w (List.mem_cons_of_mem _ h)
  have hown : s.vm.findClass RX6 = some m.cls := findClass_of_methodNamed B.named
  have hlocks := B.notSynchronized
  have hD : ∀ s2 : dd_S, va_D (dd_A 9 ad X s.heap.size) (WM g ad s2 ++ X) := fun s2 => dd_D (dd_A_D hD0)
  have hS : va_S (dd_A 9 ad X s.heap.size) s.heap s.heap [] := va_S.rf
  have hL_173 : ∀ (k_17 : dd_S → Int32 → Int32 → Int32 → Int32 → Int32 → Option (Int32 × dd_S)) (hk_17 : ∀ (sg : dd_S) (v1 : Int32) (v2 : Int32) (v3 : Int32) (v4 : Int32) (v5 : Int32) (H : Heap) (locs : List Loc) (ls : Array Slot), k_17 sg v1 v2 v3 v4 v5 = some (r0, s0) → va_P g.1 vwCl (WM g ad sg ++ X) H → va_S (dd_A 9 ad X s.heap.size) s.heap H locs → lv_has ls 9 [(0, .ref (ad 0)), (1, .int v1), (2, .int v2), (3, .int v3), (4, .int v4), (5, .int v5)] → W p l e (headSpec (lw_ws yX6_improve cX6_improve 9 (some .int)) ({ frames := 4, cells := 0, slots := 0, locals := 95 } : Room)).room s m ([.ref (ad 0)] : List Value).toArray below meth c H locs 0 0 (MQ below (QI g (WM g ad s0 ++ X) (dd_A 9 ad X s.heap.size) r0) ([.ref (ad 0)] : List Value).toArray s 0 0 (dd_A 9 ad X s.heap.size)) (F0 m 17 ls [])) (k_32 : dd_S → Int32 → Int32 → Int32 → Int32 → Int32 → Int32 → Option (Int32 × dd_S)) (hk_32 : ∀ (sg : dd_S) (v1 : Int32) (v2 : Int32) (v3 : Int32) (v4 : Int32) (v5 : Int32) (v6 : Int32) (H : Heap) (locs : List Loc) (ls : Array Slot), k_32 sg v1 v2 v3 v4 v5 v6 = some (r0, s0) → va_P g.1 vwCl (WM g ad sg ++ X) H → va_S (dd_A 9 ad X s.heap.size) s.heap H locs → lv_has ls 9 [(0, .ref (ad 0)), (1, .int v1), (2, .int v2), (3, .int v3), (4, .int v4), (5, .int v5), (6, .int v6)] → W p l e (headSpec (lw_ws yX6_improve cX6_improve 9 (some .int)) ({ frames := 4, cells := 0, slots := 0, locals := 95 } : Room)).room s m ([.ref (ad 0)] : List Value).toArray below meth c H locs 0 0 (MQ below (QI g (WM g ad s0 ++ X) (dd_A 9 ad X s.heap.size) r0) ([.ref (ad 0)] : List Value).toArray s 0 0 (dd_A 9 ad X s.heap.size)) (F0 m 32 ls [])) (k_44 : dd_S → Int32 → Int32 → Int32 → Int32 → Int32 → Int32 → Int32 → Option (Int32 × dd_S)) (hk_44 : ∀ (sg : dd_S) (v1 : Int32) (v2 : Int32) (v3 : Int32) (v4 : Int32) (v5 : Int32) (v6 : Int32) (v7 : Int32) (H : Heap) (locs : List Loc) (ls : Array Slot), k_44 sg v1 v2 v3 v4 v5 v6 v7 = some (r0, s0) → va_P g.1 vwCl (WM g ad sg ++ X) H → va_S (dd_A 9 ad X s.heap.size) s.heap H locs → lv_has ls 9 [(0, .ref (ad 0)), (1, .int v1), (2, .int v2), (3, .int v3), (4, .int v4), (5, .int v5), (6, .int v6), (7, .int v7)] → W p l e (headSpec (lw_ws yX6_improve cX6_improve 9 (some .int)) ({ frames := 4, cells := 0, slots := 0, locals := 95 } : Room)).room s m ([.ref (ad 0)] : List Value).toArray below meth c H locs 0 0 (MQ below (QI g (WM g ad s0 ++ X) (dd_A 9 ad X s.heap.size) r0) ([.ref (ad 0)] : List Value).toArray s 0 0 (dd_A 9 ad X s.heap.size)) (F0 m 44 ls [])), ∀ (sg : dd_S) (v1 : Int32) (v2 : Int32) (v3 : Int32) (v4 : Int32) (v5 : Int32) (v6 : Int32) (v7 : Int32) (H : Heap) (locs : List Loc) (ls : Array Slot), f_X6_improve_173 k_17 k_32 k_44 sg v1 v2 v3 v4 v5 v6 v7 = some (r0, s0) → va_P g.1 vwCl (WM g ad sg ++ X) H → va_S (dd_A 9 ad X s.heap.size) s.heap H locs → lv_has ls 9 [(0, .ref (ad 0)), (1, .int v1), (2, .int v2), (3, .int v3), (4, .int v4), (5, .int v5), (6, .int v6), (7, .int v7)] → W p l e (headSpec (lw_ws yX6_improve cX6_improve 9 (some .int)) ({ frames := 4, cells := 0, slots := 0, locals := 95 } : Room)).room s m ([.ref (ad 0)] : List Value).toArray below meth c H locs 0 0 (MQ below (QI g (WM g ad s0 ++ X) (dd_A 9 ad X s.heap.size) r0) ([.ref (ad 0)] : List Value).toArray s 0 0 (dd_A 9 ad X s.heap.size)) (F0 m 173 ls []) := by
    intro k_17 hk_17 k_32 hk_32 k_44 hk_44 sg v1 v2 v3 v4 v5 v6 v7 H locs ls hf hP hS hl
    unfold f_X6_improve_173 at hf
    obtain ⟨x26, ex26, hf⟩ := lt_ex hf
    refine lv_iinc (v := x26) (lv' := [(7, .int x26), (0, .ref (ad 0)), (1, .int v1), (2, .int v2), (3, .int v3), (4, .int v4), (5, .int v5), (6, .int v6)]) hx hb dX6_improve_173 hl (k := 7) rfl (by rw [ex26]; rfl) (by decide) rfl (fun ls hl => ?_)
    refine lv_goto (tgt := 44) hx hb dX6_improve_176 (by decide) ?_
    exact hk_44 sg v1 v2 v3 v4 v5 v6 x26 _ _ _ hf hP hS (lv_sub hl [1, 2, 3, 4, 5, 6, 7, 0] rfl)
  have hL_143 : ∀ (k_17 : dd_S → Int32 → Int32 → Int32 → Int32 → Int32 → Option (Int32 × dd_S)) (hk_17 : ∀ (sg : dd_S) (v1 : Int32) (v2 : Int32) (v3 : Int32) (v4 : Int32) (v5 : Int32) (H : Heap) (locs : List Loc) (ls : Array Slot), k_17 sg v1 v2 v3 v4 v5 = some (r0, s0) → va_P g.1 vwCl (WM g ad sg ++ X) H → va_S (dd_A 9 ad X s.heap.size) s.heap H locs → lv_has ls 9 [(0, .ref (ad 0)), (1, .int v1), (2, .int v2), (3, .int v3), (4, .int v4), (5, .int v5)] → W p l e (headSpec (lw_ws yX6_improve cX6_improve 9 (some .int)) ({ frames := 4, cells := 0, slots := 0, locals := 95 } : Room)).room s m ([.ref (ad 0)] : List Value).toArray below meth c H locs 0 0 (MQ below (QI g (WM g ad s0 ++ X) (dd_A 9 ad X s.heap.size) r0) ([.ref (ad 0)] : List Value).toArray s 0 0 (dd_A 9 ad X s.heap.size)) (F0 m 17 ls [])) (k_32 : dd_S → Int32 → Int32 → Int32 → Int32 → Int32 → Int32 → Option (Int32 × dd_S)) (hk_32 : ∀ (sg : dd_S) (v1 : Int32) (v2 : Int32) (v3 : Int32) (v4 : Int32) (v5 : Int32) (v6 : Int32) (H : Heap) (locs : List Loc) (ls : Array Slot), k_32 sg v1 v2 v3 v4 v5 v6 = some (r0, s0) → va_P g.1 vwCl (WM g ad sg ++ X) H → va_S (dd_A 9 ad X s.heap.size) s.heap H locs → lv_has ls 9 [(0, .ref (ad 0)), (1, .int v1), (2, .int v2), (3, .int v3), (4, .int v4), (5, .int v5), (6, .int v6)] → W p l e (headSpec (lw_ws yX6_improve cX6_improve 9 (some .int)) ({ frames := 4, cells := 0, slots := 0, locals := 95 } : Room)).room s m ([.ref (ad 0)] : List Value).toArray below meth c H locs 0 0 (MQ below (QI g (WM g ad s0 ++ X) (dd_A 9 ad X s.heap.size) r0) ([.ref (ad 0)] : List Value).toArray s 0 0 (dd_A 9 ad X s.heap.size)) (F0 m 32 ls [])) (k_44 : dd_S → Int32 → Int32 → Int32 → Int32 → Int32 → Int32 → Int32 → Option (Int32 × dd_S)) (hk_44 : ∀ (sg : dd_S) (v1 : Int32) (v2 : Int32) (v3 : Int32) (v4 : Int32) (v5 : Int32) (v6 : Int32) (v7 : Int32) (H : Heap) (locs : List Loc) (ls : Array Slot), k_44 sg v1 v2 v3 v4 v5 v6 v7 = some (r0, s0) → va_P g.1 vwCl (WM g ad sg ++ X) H → va_S (dd_A 9 ad X s.heap.size) s.heap H locs → lv_has ls 9 [(0, .ref (ad 0)), (1, .int v1), (2, .int v2), (3, .int v3), (4, .int v4), (5, .int v5), (6, .int v6), (7, .int v7)] → W p l e (headSpec (lw_ws yX6_improve cX6_improve 9 (some .int)) ({ frames := 4, cells := 0, slots := 0, locals := 95 } : Room)).room s m ([.ref (ad 0)] : List Value).toArray below meth c H locs 0 0 (MQ below (QI g (WM g ad s0 ++ X) (dd_A 9 ad X s.heap.size) r0) ([.ref (ad 0)] : List Value).toArray s 0 0 (dd_A 9 ad X s.heap.size)) (F0 m 44 ls [])), ∀ (sg : dd_S) (v1 : Int32) (v2 : Int32) (v3 : Int32) (v4 : Int32) (v5 : Int32) (v6 : Int32) (v7 : Int32) (t0 : Int32) (H : Heap) (locs : List Loc) (ls : Array Slot), f_X6_improve_143 k_17 k_32 k_44 sg v1 v2 v3 v4 v5 v6 v7 t0 = some (r0, s0) → va_P g.1 vwCl (WM g ad sg ++ X) H → va_S (dd_A 9 ad X s.heap.size) s.heap H locs → lv_has ls 9 [(0, .ref (ad 0)), (1, .int v1), (2, .int v2), (3, .int v3), (4, .int v4), (5, .int v5), (6, .int v6), (7, .int v7)] → W p l e (headSpec (lw_ws yX6_improve cX6_improve 9 (some .int)) ({ frames := 4, cells := 0, slots := 0, locals := 95 } : Room)).room s m ([.ref (ad 0)] : List Value).toArray below meth c H locs 0 0 (MQ below (QI g (WM g ad s0 ++ X) (dd_A 9 ad X s.heap.size) r0) ([.ref (ad 0)] : List Value).toArray s 0 0 (dd_A 9 ad X s.heap.size)) (F0 m 143 ls [.int t0]) := by
    intro k_17 hk_17 k_32 hk_32 k_44 hk_44 sg v1 v2 v3 v4 v5 v6 v7 t0 H locs ls hf hP hS hl
    unfold f_X6_improve_143 at hf
    refine lv_istore (lv' := [(8, .int t0), (0, .ref (ad 0)), (1, .int v1), (2, .int v2), (3, .int v3), (4, .int v4), (5, .int v5), (6, .int v6), (7, .int v7)]) hx hb dX6_improve_143 hl (by decide) rfl (fun ls hl => ?_)
    refine lv_iload hx hb dX6_improve_145 (lv_at hl 0 rfl) ?_
    refine lv_if_ne (tgt := 153) hx hb dX6_improve_147 (by decide) (fun c27 => ?_) (fun c27 => ?_)
    · have hf := if_f c27 hf
      refine lv_aload_n hx hb dX6_improve_153 rfl (lv_at hl 1 rfl) ?_
      refine gf_X6_144 hx hb hts hown hK hP dX6_improve_154 ?_
      refine lv_istore_n (lv' := [(1, .int (sg 0 24)), (8, .int t0), (0, .ref (ad 0)), (2, .int v2), (3, .int v3), (4, .int v4), (5, .int v5), (6, .int v6), (7, .int v7)]) hx hb dX6_improve_157 rfl hl (by decide) rfl (fun ls hl => ?_)
      refine lv_iload hx hb dX6_improve_158 (lv_at hl 6 rfl) ?_
      refine lv_istore_n (lv' := [(2, .int v5), (1, .int (sg 0 24)), (8, .int t0), (0, .ref (ad 0)), (3, .int v3), (4, .int v4), (5, .int v5), (6, .int v6), (7, .int v7)]) hx hb dX6_improve_160 rfl hl (by decide) rfl (fun ls hl => ?_)
      refine lv_iload hx hb dX6_improve_161 (lv_at hl 7 rfl) ?_
      refine lv_istore_n (lv' := [(3, .int v6), (2, .int v5), (1, .int (sg 0 24)), (8, .int t0), (0, .ref (ad 0)), (4, .int v4), (5, .int v5), (6, .int v6), (7, .int v7)]) hx hb dX6_improve_163 rfl hl (by decide) rfl (fun ls hl => ?_)
      refine lv_aload_n hx hb dX6_improve_164 rfl (lv_at hl 4 rfl) ?_
      refine gf_X6_19 hx hb hts hown hK hP dX6_improve_165 ?_
      refine lv_iload hx hb dX6_improve_168 (lv_at hl 8 rfl) ?_
      obtain ⟨hi28, hf⟩ := gd_so hf
      refine W_iald hx hb hK hP 4 (by decide) cm_4 (ix_in hi28) dX6_improve_170 ?_
      refine lv_topi (fun x29 ex29 => ?_)
      have hf := lt_so ex29 hf
      refine lv_istore (lv' := [(4, .int x29), (3, .int v6), (2, .int v5), (1, .int (sg 0 24)), (8, .int t0), (0, .ref (ad 0)), (5, .int v5), (6, .int v6), (7, .int v7)]) hx hb dX6_improve_171 hl (by decide) rfl (fun ls hl => ?_)
      exact hL_173 k_17 hk_17 k_32 hk_32 k_44 hk_44 sg (sg 0 24) v5 v6 x29 v5 v6 v7 _ _ _ hf hP hS (lv_sub hl [5, 3, 2, 1, 0, 6, 7, 8] rfl)
    · have hf := if_t c27 hf
      refine lv_goto (tgt := 173) hx hb dX6_improve_150 (by decide) ?_
      exact hL_173 k_17 hk_17 k_32 hk_32 k_44 hk_44 sg v1 v2 v3 v4 v5 v6 v7 _ _ _ hf hP hS (lv_sub hl [1, 2, 3, 4, 5, 6, 7, 8] rfl)
  have hL_138 : ∀ (k_17 : dd_S → Int32 → Int32 → Int32 → Int32 → Int32 → Option (Int32 × dd_S)) (hk_17 : ∀ (sg : dd_S) (v1 : Int32) (v2 : Int32) (v3 : Int32) (v4 : Int32) (v5 : Int32) (H : Heap) (locs : List Loc) (ls : Array Slot), k_17 sg v1 v2 v3 v4 v5 = some (r0, s0) → va_P g.1 vwCl (WM g ad sg ++ X) H → va_S (dd_A 9 ad X s.heap.size) s.heap H locs → lv_has ls 9 [(0, .ref (ad 0)), (1, .int v1), (2, .int v2), (3, .int v3), (4, .int v4), (5, .int v5)] → W p l e (headSpec (lw_ws yX6_improve cX6_improve 9 (some .int)) ({ frames := 4, cells := 0, slots := 0, locals := 95 } : Room)).room s m ([.ref (ad 0)] : List Value).toArray below meth c H locs 0 0 (MQ below (QI g (WM g ad s0 ++ X) (dd_A 9 ad X s.heap.size) r0) ([.ref (ad 0)] : List Value).toArray s 0 0 (dd_A 9 ad X s.heap.size)) (F0 m 17 ls [])) (k_32 : dd_S → Int32 → Int32 → Int32 → Int32 → Int32 → Int32 → Option (Int32 × dd_S)) (hk_32 : ∀ (sg : dd_S) (v1 : Int32) (v2 : Int32) (v3 : Int32) (v4 : Int32) (v5 : Int32) (v6 : Int32) (H : Heap) (locs : List Loc) (ls : Array Slot), k_32 sg v1 v2 v3 v4 v5 v6 = some (r0, s0) → va_P g.1 vwCl (WM g ad sg ++ X) H → va_S (dd_A 9 ad X s.heap.size) s.heap H locs → lv_has ls 9 [(0, .ref (ad 0)), (1, .int v1), (2, .int v2), (3, .int v3), (4, .int v4), (5, .int v5), (6, .int v6)] → W p l e (headSpec (lw_ws yX6_improve cX6_improve 9 (some .int)) ({ frames := 4, cells := 0, slots := 0, locals := 95 } : Room)).room s m ([.ref (ad 0)] : List Value).toArray below meth c H locs 0 0 (MQ below (QI g (WM g ad s0 ++ X) (dd_A 9 ad X s.heap.size) r0) ([.ref (ad 0)] : List Value).toArray s 0 0 (dd_A 9 ad X s.heap.size)) (F0 m 32 ls [])) (k_44 : dd_S → Int32 → Int32 → Int32 → Int32 → Int32 → Int32 → Int32 → Option (Int32 × dd_S)) (hk_44 : ∀ (sg : dd_S) (v1 : Int32) (v2 : Int32) (v3 : Int32) (v4 : Int32) (v5 : Int32) (v6 : Int32) (v7 : Int32) (H : Heap) (locs : List Loc) (ls : Array Slot), k_44 sg v1 v2 v3 v4 v5 v6 v7 = some (r0, s0) → va_P g.1 vwCl (WM g ad sg ++ X) H → va_S (dd_A 9 ad X s.heap.size) s.heap H locs → lv_has ls 9 [(0, .ref (ad 0)), (1, .int v1), (2, .int v2), (3, .int v3), (4, .int v4), (5, .int v5), (6, .int v6), (7, .int v7)] → W p l e (headSpec (lw_ws yX6_improve cX6_improve 9 (some .int)) ({ frames := 4, cells := 0, slots := 0, locals := 95 } : Room)).room s m ([.ref (ad 0)] : List Value).toArray below meth c H locs 0 0 (MQ below (QI g (WM g ad s0 ++ X) (dd_A 9 ad X s.heap.size) r0) ([.ref (ad 0)] : List Value).toArray s 0 0 (dd_A 9 ad X s.heap.size)) (F0 m 44 ls [])), ∀ (sg : dd_S) (v1 : Int32) (v2 : Int32) (v3 : Int32) (v4 : Int32) (v5 : Int32) (v6 : Int32) (v7 : Int32) (H : Heap) (locs : List Loc) (ls : Array Slot), f_X6_improve_138 k_17 k_32 k_44 sg v1 v2 v3 v4 v5 v6 v7 = some (r0, s0) → va_P g.1 vwCl (WM g ad sg ++ X) H → va_S (dd_A 9 ad X s.heap.size) s.heap H locs → lv_has ls 9 [(0, .ref (ad 0)), (1, .int v1), (2, .int v2), (3, .int v3), (4, .int v4), (5, .int v5), (6, .int v6), (7, .int v7)] → W p l e (headSpec (lw_ws yX6_improve cX6_improve 9 (some .int)) ({ frames := 4, cells := 0, slots := 0, locals := 95 } : Room)).room s m ([.ref (ad 0)] : List Value).toArray below meth c H locs 0 0 (MQ below (QI g (WM g ad s0 ++ X) (dd_A 9 ad X s.heap.size) r0) ([.ref (ad 0)] : List Value).toArray s 0 0 (dd_A 9 ad X s.heap.size)) (F0 m 138 ls []) := by
    intro k_17 hk_17 k_32 hk_32 k_44 hk_44 sg v1 v2 v3 v4 v5 v6 v7 H locs ls hf hP hS hl
    unfold f_X6_improve_138 at hf
    refine lv_iconst (v := (1 : Int32)) hx hb dX6_improve_138 (by decide) ?_
    refine lv_goto (tgt := 143) hx hb dX6_improve_139 (by decide) ?_
    exact hL_143 k_17 hk_17 k_32 hk_32 k_44 hk_44 sg v1 v2 v3 v4 v5 v6 v7 (1 : Int32) _ _ _ hf hP hS (lv_sub hl [0, 1, 2, 3, 4, 5, 6, 7] rfl)
  have hL_142 : ∀ (k_17 : dd_S → Int32 → Int32 → Int32 → Int32 → Int32 → Option (Int32 × dd_S)) (hk_17 : ∀ (sg : dd_S) (v1 : Int32) (v2 : Int32) (v3 : Int32) (v4 : Int32) (v5 : Int32) (H : Heap) (locs : List Loc) (ls : Array Slot), k_17 sg v1 v2 v3 v4 v5 = some (r0, s0) → va_P g.1 vwCl (WM g ad sg ++ X) H → va_S (dd_A 9 ad X s.heap.size) s.heap H locs → lv_has ls 9 [(0, .ref (ad 0)), (1, .int v1), (2, .int v2), (3, .int v3), (4, .int v4), (5, .int v5)] → W p l e (headSpec (lw_ws yX6_improve cX6_improve 9 (some .int)) ({ frames := 4, cells := 0, slots := 0, locals := 95 } : Room)).room s m ([.ref (ad 0)] : List Value).toArray below meth c H locs 0 0 (MQ below (QI g (WM g ad s0 ++ X) (dd_A 9 ad X s.heap.size) r0) ([.ref (ad 0)] : List Value).toArray s 0 0 (dd_A 9 ad X s.heap.size)) (F0 m 17 ls [])) (k_32 : dd_S → Int32 → Int32 → Int32 → Int32 → Int32 → Int32 → Option (Int32 × dd_S)) (hk_32 : ∀ (sg : dd_S) (v1 : Int32) (v2 : Int32) (v3 : Int32) (v4 : Int32) (v5 : Int32) (v6 : Int32) (H : Heap) (locs : List Loc) (ls : Array Slot), k_32 sg v1 v2 v3 v4 v5 v6 = some (r0, s0) → va_P g.1 vwCl (WM g ad sg ++ X) H → va_S (dd_A 9 ad X s.heap.size) s.heap H locs → lv_has ls 9 [(0, .ref (ad 0)), (1, .int v1), (2, .int v2), (3, .int v3), (4, .int v4), (5, .int v5), (6, .int v6)] → W p l e (headSpec (lw_ws yX6_improve cX6_improve 9 (some .int)) ({ frames := 4, cells := 0, slots := 0, locals := 95 } : Room)).room s m ([.ref (ad 0)] : List Value).toArray below meth c H locs 0 0 (MQ below (QI g (WM g ad s0 ++ X) (dd_A 9 ad X s.heap.size) r0) ([.ref (ad 0)] : List Value).toArray s 0 0 (dd_A 9 ad X s.heap.size)) (F0 m 32 ls [])) (k_44 : dd_S → Int32 → Int32 → Int32 → Int32 → Int32 → Int32 → Int32 → Option (Int32 × dd_S)) (hk_44 : ∀ (sg : dd_S) (v1 : Int32) (v2 : Int32) (v3 : Int32) (v4 : Int32) (v5 : Int32) (v6 : Int32) (v7 : Int32) (H : Heap) (locs : List Loc) (ls : Array Slot), k_44 sg v1 v2 v3 v4 v5 v6 v7 = some (r0, s0) → va_P g.1 vwCl (WM g ad sg ++ X) H → va_S (dd_A 9 ad X s.heap.size) s.heap H locs → lv_has ls 9 [(0, .ref (ad 0)), (1, .int v1), (2, .int v2), (3, .int v3), (4, .int v4), (5, .int v5), (6, .int v6), (7, .int v7)] → W p l e (headSpec (lw_ws yX6_improve cX6_improve 9 (some .int)) ({ frames := 4, cells := 0, slots := 0, locals := 95 } : Room)).room s m ([.ref (ad 0)] : List Value).toArray below meth c H locs 0 0 (MQ below (QI g (WM g ad s0 ++ X) (dd_A 9 ad X s.heap.size) r0) ([.ref (ad 0)] : List Value).toArray s 0 0 (dd_A 9 ad X s.heap.size)) (F0 m 44 ls [])), ∀ (sg : dd_S) (v1 : Int32) (v2 : Int32) (v3 : Int32) (v4 : Int32) (v5 : Int32) (v6 : Int32) (v7 : Int32) (H : Heap) (locs : List Loc) (ls : Array Slot), f_X6_improve_142 k_17 k_32 k_44 sg v1 v2 v3 v4 v5 v6 v7 = some (r0, s0) → va_P g.1 vwCl (WM g ad sg ++ X) H → va_S (dd_A 9 ad X s.heap.size) s.heap H locs → lv_has ls 9 [(0, .ref (ad 0)), (1, .int v1), (2, .int v2), (3, .int v3), (4, .int v4), (5, .int v5), (6, .int v6), (7, .int v7)] → W p l e (headSpec (lw_ws yX6_improve cX6_improve 9 (some .int)) ({ frames := 4, cells := 0, slots := 0, locals := 95 } : Room)).room s m ([.ref (ad 0)] : List Value).toArray below meth c H locs 0 0 (MQ below (QI g (WM g ad s0 ++ X) (dd_A 9 ad X s.heap.size) r0) ([.ref (ad 0)] : List Value).toArray s 0 0 (dd_A 9 ad X s.heap.size)) (F0 m 142 ls []) := by
    intro k_17 hk_17 k_32 hk_32 k_44 hk_44 sg v1 v2 v3 v4 v5 v6 v7 H locs ls hf hP hS hl
    unfold f_X6_improve_142 at hf
    refine lv_iconst (v := (0 : Int32)) hx hb dX6_improve_142 (by decide) ?_
    exact hL_143 k_17 hk_17 k_32 hk_32 k_44 hk_44 sg v1 v2 v3 v4 v5 v6 v7 (0 : Int32) _ _ _ hf hP hS (lv_sub hl [0, 1, 2, 3, 4, 5, 6, 7] rfl)
  have hL_77 : ∀ (k_17 : dd_S → Int32 → Int32 → Int32 → Int32 → Int32 → Option (Int32 × dd_S)) (hk_17 : ∀ (sg : dd_S) (v1 : Int32) (v2 : Int32) (v3 : Int32) (v4 : Int32) (v5 : Int32) (H : Heap) (locs : List Loc) (ls : Array Slot), k_17 sg v1 v2 v3 v4 v5 = some (r0, s0) → va_P g.1 vwCl (WM g ad sg ++ X) H → va_S (dd_A 9 ad X s.heap.size) s.heap H locs → lv_has ls 9 [(0, .ref (ad 0)), (1, .int v1), (2, .int v2), (3, .int v3), (4, .int v4), (5, .int v5)] → W p l e (headSpec (lw_ws yX6_improve cX6_improve 9 (some .int)) ({ frames := 4, cells := 0, slots := 0, locals := 95 } : Room)).room s m ([.ref (ad 0)] : List Value).toArray below meth c H locs 0 0 (MQ below (QI g (WM g ad s0 ++ X) (dd_A 9 ad X s.heap.size) r0) ([.ref (ad 0)] : List Value).toArray s 0 0 (dd_A 9 ad X s.heap.size)) (F0 m 17 ls [])) (k_32 : dd_S → Int32 → Int32 → Int32 → Int32 → Int32 → Int32 → Option (Int32 × dd_S)) (hk_32 : ∀ (sg : dd_S) (v1 : Int32) (v2 : Int32) (v3 : Int32) (v4 : Int32) (v5 : Int32) (v6 : Int32) (H : Heap) (locs : List Loc) (ls : Array Slot), k_32 sg v1 v2 v3 v4 v5 v6 = some (r0, s0) → va_P g.1 vwCl (WM g ad sg ++ X) H → va_S (dd_A 9 ad X s.heap.size) s.heap H locs → lv_has ls 9 [(0, .ref (ad 0)), (1, .int v1), (2, .int v2), (3, .int v3), (4, .int v4), (5, .int v5), (6, .int v6)] → W p l e (headSpec (lw_ws yX6_improve cX6_improve 9 (some .int)) ({ frames := 4, cells := 0, slots := 0, locals := 95 } : Room)).room s m ([.ref (ad 0)] : List Value).toArray below meth c H locs 0 0 (MQ below (QI g (WM g ad s0 ++ X) (dd_A 9 ad X s.heap.size) r0) ([.ref (ad 0)] : List Value).toArray s 0 0 (dd_A 9 ad X s.heap.size)) (F0 m 32 ls [])) (k_44 : dd_S → Int32 → Int32 → Int32 → Int32 → Int32 → Int32 → Int32 → Option (Int32 × dd_S)) (hk_44 : ∀ (sg : dd_S) (v1 : Int32) (v2 : Int32) (v3 : Int32) (v4 : Int32) (v5 : Int32) (v6 : Int32) (v7 : Int32) (H : Heap) (locs : List Loc) (ls : Array Slot), k_44 sg v1 v2 v3 v4 v5 v6 v7 = some (r0, s0) → va_P g.1 vwCl (WM g ad sg ++ X) H → va_S (dd_A 9 ad X s.heap.size) s.heap H locs → lv_has ls 9 [(0, .ref (ad 0)), (1, .int v1), (2, .int v2), (3, .int v3), (4, .int v4), (5, .int v5), (6, .int v6), (7, .int v7)] → W p l e (headSpec (lw_ws yX6_improve cX6_improve 9 (some .int)) ({ frames := 4, cells := 0, slots := 0, locals := 95 } : Room)).room s m ([.ref (ad 0)] : List Value).toArray below meth c H locs 0 0 (MQ below (QI g (WM g ad s0 ++ X) (dd_A 9 ad X s.heap.size) r0) ([.ref (ad 0)] : List Value).toArray s 0 0 (dd_A 9 ad X s.heap.size)) (F0 m 44 ls [])), ∀ (sg : dd_S) (v1 : Int32) (v2 : Int32) (v3 : Int32) (v4 : Int32) (v5 : Int32) (v6 : Int32) (v7 : Int32) (H : Heap) (locs : List Loc) (ls : Array Slot), f_X6_improve_77 k_17 k_32 k_44 sg v1 v2 v3 v4 v5 v6 v7 = some (r0, s0) → va_P g.1 vwCl (WM g ad sg ++ X) H → va_S (dd_A 9 ad X s.heap.size) s.heap H locs → lv_has ls 9 [(0, .ref (ad 0)), (1, .int v1), (2, .int v2), (3, .int v3), (4, .int v4), (5, .int v5), (6, .int v6), (7, .int v7)] → W p l e (headSpec (lw_ws yX6_improve cX6_improve 9 (some .int)) ({ frames := 4, cells := 0, slots := 0, locals := 95 } : Room)).room s m ([.ref (ad 0)] : List Value).toArray below meth c H locs 0 0 (MQ below (QI g (WM g ad s0 ++ X) (dd_A 9 ad X s.heap.size) r0) ([.ref (ad 0)] : List Value).toArray s 0 0 (dd_A 9 ad X s.heap.size)) (F0 m 77 ls []) := by
    intro k_17 hk_17 k_32 hk_32 k_44 hk_44 sg v1 v2 v3 v4 v5 v6 v7 H locs ls hf hP hS hl
    unfold f_X6_improve_77 at hf
    refine lv_aload_n hx hb dX6_improve_77 rfl (lv_at hl 0 rfl) ?_
    refine lv_iload hx hb dX6_improve_78 (lv_at hl 5 rfl) ?_
    refine lv_iload hx hb dX6_improve_80 (lv_at hl 6 rfl) ?_
    refine lv_aload_n hx hb dX6_improve_82 rfl (lv_at hl 0 rfl) ?_
    refine gf_X6_19 hx hb hts hown hK hP dX6_improve_83 ?_
    refine lv_iload hx hb dX6_improve_86 (lv_at hl 7 rfl) ?_
    obtain ⟨hi15, hf⟩ := gd_so hf
    refine W_iald hx hb hK hP 4 (by decide) cm_4 (ix_in hi15) dX6_improve_88 ?_
    obtain ⟨r18, sg17, q16, hf⟩ := bd2_so hf
    refine cl_i (va_runV (As := [.int v5, .int v6, .int (sg 4 v7.toNatClampNeg)]) (rest := []) ⟨hx, hb, hml, hown, hts⟩ (c_X6_canExchange l g ad X _ sg v5 v6 (sg 4 v7.toNatClampNeg) r18 sg17 q16) (cwV 3 hts gl_X6_151 rfl rfl rfl yd_X6_canExchange ⟨Nat.le_of_ble_eq_true rfl, Nat.le_of_ble_eq_true rfl⟩) (preV_of hK hP (hD sg) (dd_at (by decide) cm_0) rfl) rfl rfl hl.1 rfl (lv_room (Nat.le_of_ble_eq_true rfl)) dX6_improve_89 ⟨Nat.le_of_ble_eq_true rfl, Nat.le_of_ble_eq_true rfl⟩) hS (fun q h => dd_A_mono hS.1 h) (fun q h => dd_A_mono hS.1 h) (fun H locs hP hS => ?_)
    refine lv_if_ne (tgt := 98) hx hb dX6_improve_92 (by decide) (fun c19 => ?_) (fun c19 => ?_)
    · have hf := if_f c19 hf
      refine lv_aload_n hx hb dX6_improve_98 rfl (lv_at hl 0 rfl) ?_
      refine gf_X6_144 hx hb hts hown hK hP dX6_improve_99 ?_
      refine lv_iload_n hx hb dX6_improve_102 rfl (lv_at hl 1 rfl) ?_
      refine lv_icmp_lt (tgt := 138) hx hb dX6_improve_103 (by decide) (fun c20 => ?_) (fun c20 => ?_)
      · have hf := if_t c20 hf
        exact hL_138 k_17 hk_17 k_32 hk_32 k_44 hk_44 sg17 v1 v2 v3 v4 v5 v6 v7 _ _ _ hf hP hS (lv_sub hl [0, 1, 2, 3, 4, 5, 6, 7] rfl)
      · have hf := if_f c20 hf
        refine lv_aload_n hx hb dX6_improve_106 rfl (lv_at hl 0 rfl) ?_
        refine gf_X6_144 hx hb hts hown hK hP dX6_improve_107 ?_
        refine lv_iload_n hx hb dX6_improve_110 rfl (lv_at hl 1 rfl) ?_
        refine lv_icmp_ne (tgt := 142) hx hb dX6_improve_111 (by decide) (fun c21 => ?_) (fun c21 => ?_)
        · have hf := if_f c21 hf
          exact hL_142 k_17 hk_17 k_32 hk_32 k_44 hk_44 sg17 v1 v2 v3 v4 v5 v6 v7 _ _ _ hf hP hS (lv_sub hl [0, 1, 2, 3, 4, 5, 6, 7] rfl)
        · have hf := if_t c21 hf
          refine lv_iload_n hx hb dX6_improve_114 rfl (lv_at hl 2 rfl) ?_
          refine lv_iload hx hb dX6_improve_115 (lv_at hl 5 rfl) ?_
          refine lv_icmp_ne (tgt := 142) hx hb dX6_improve_117 (by decide) (fun c22 => ?_) (fun c22 => ?_)
          · have hf := if_f c22 hf
            exact hL_142 k_17 hk_17 k_32 hk_32 k_44 hk_44 sg17 v1 v2 v3 v4 v5 v6 v7 _ _ _ hf hP hS (lv_sub hl [0, 1, 2, 3, 4, 5, 6, 7] rfl)
          · have hf := if_t c22 hf
            refine lv_iload_n hx hb dX6_improve_120 rfl (lv_at hl 3 rfl) ?_
            refine lv_iload hx hb dX6_improve_121 (lv_at hl 6 rfl) ?_
            refine lv_icmp_ne (tgt := 142) hx hb dX6_improve_123 (by decide) (fun c23 => ?_) (fun c23 => ?_)
            · have hf := if_f c23 hf
              exact hL_142 k_17 hk_17 k_32 hk_32 k_44 hk_44 sg17 v1 v2 v3 v4 v5 v6 v7 _ _ _ hf hP hS (lv_sub hl [0, 1, 2, 3, 4, 5, 6, 7] rfl)
            · have hf := if_t c23 hf
              refine lv_aload_n hx hb dX6_improve_126 rfl (lv_at hl 0 rfl) ?_
              refine gf_X6_19 hx hb hts hown hK hP dX6_improve_127 ?_
              refine lv_iload hx hb dX6_improve_130 (lv_at hl 7 rfl) ?_
              obtain ⟨hi24, hf⟩ := gd_so hf
              refine W_iald hx hb hK hP 4 (by decide) cm_4 (ix_in hi24) dX6_improve_132 ?_
              refine lv_iload hx hb dX6_improve_133 (lv_at hl 4 rfl) ?_
              refine lv_icmp_ge (tgt := 142) hx hb dX6_improve_135 (by decide) (fun c25 => ?_) (fun c25 => ?_)
              · have hf := if_t c25 hf
                exact hL_142 k_17 hk_17 k_32 hk_32 k_44 hk_44 sg17 v1 v2 v3 v4 v5 v6 v7 _ _ _ hf hP hS (lv_sub hl [0, 1, 2, 3, 4, 5, 6, 7] rfl)
              · have hf := if_f c25 hf
                exact hL_138 k_17 hk_17 k_32 hk_32 k_44 hk_44 sg17 v1 v2 v3 v4 v5 v6 v7 _ _ _ hf hP hS (lv_sub hl [0, 1, 2, 3, 4, 5, 6, 7] rfl)
    · have hf := if_t c19 hf
      refine lv_goto (tgt := 173) hx hb dX6_improve_95 (by decide) ?_
      exact hL_173 k_17 hk_17 k_32 hk_32 k_44 hk_44 sg17 v1 v2 v3 v4 v5 v6 v7 _ _ _ hf hP hS (lv_sub hl [0, 1, 2, 3, 4, 5, 6, 7] rfl)
  have hL_44 : ∀ (k_17 : dd_S → Int32 → Int32 → Int32 → Int32 → Int32 → Option (Int32 × dd_S)) (hk_17 : ∀ (sg : dd_S) (v1 : Int32) (v2 : Int32) (v3 : Int32) (v4 : Int32) (v5 : Int32) (H : Heap) (locs : List Loc) (ls : Array Slot), k_17 sg v1 v2 v3 v4 v5 = some (r0, s0) → va_P g.1 vwCl (WM g ad sg ++ X) H → va_S (dd_A 9 ad X s.heap.size) s.heap H locs → lv_has ls 9 [(0, .ref (ad 0)), (1, .int v1), (2, .int v2), (3, .int v3), (4, .int v4), (5, .int v5)] → W p l e (headSpec (lw_ws yX6_improve cX6_improve 9 (some .int)) ({ frames := 4, cells := 0, slots := 0, locals := 95 } : Room)).room s m ([.ref (ad 0)] : List Value).toArray below meth c H locs 0 0 (MQ below (QI g (WM g ad s0 ++ X) (dd_A 9 ad X s.heap.size) r0) ([.ref (ad 0)] : List Value).toArray s 0 0 (dd_A 9 ad X s.heap.size)) (F0 m 17 ls [])) (k_32 : dd_S → Int32 → Int32 → Int32 → Int32 → Int32 → Int32 → Option (Int32 × dd_S)) (hk_32 : ∀ (sg : dd_S) (v1 : Int32) (v2 : Int32) (v3 : Int32) (v4 : Int32) (v5 : Int32) (v6 : Int32) (H : Heap) (locs : List Loc) (ls : Array Slot), k_32 sg v1 v2 v3 v4 v5 v6 = some (r0, s0) → va_P g.1 vwCl (WM g ad sg ++ X) H → va_S (dd_A 9 ad X s.heap.size) s.heap H locs → lv_has ls 9 [(0, .ref (ad 0)), (1, .int v1), (2, .int v2), (3, .int v3), (4, .int v4), (5, .int v5), (6, .int v6)] → W p l e (headSpec (lw_ws yX6_improve cX6_improve 9 (some .int)) ({ frames := 4, cells := 0, slots := 0, locals := 95 } : Room)).room s m ([.ref (ad 0)] : List Value).toArray below meth c H locs 0 0 (MQ below (QI g (WM g ad s0 ++ X) (dd_A 9 ad X s.heap.size) r0) ([.ref (ad 0)] : List Value).toArray s 0 0 (dd_A 9 ad X s.heap.size)) (F0 m 32 ls [])) (n : Nat), ∀ (sg : dd_S) (v1 : Int32) (v2 : Int32) (v3 : Int32) (v4 : Int32) (v5 : Int32) (v6 : Int32) (v7 : Int32) (H : Heap) (locs : List Loc) (ls : Array Slot), f_X6_improve_44 k_17 k_32 n sg v1 v2 v3 v4 v5 v6 v7 = some (r0, s0) → va_P g.1 vwCl (WM g ad sg ++ X) H → va_S (dd_A 9 ad X s.heap.size) s.heap H locs → lv_has ls 9 [(0, .ref (ad 0)), (1, .int v1), (2, .int v2), (3, .int v3), (4, .int v4), (5, .int v5), (6, .int v6), (7, .int v7)] → W p l e (headSpec (lw_ws yX6_improve cX6_improve 9 (some .int)) ({ frames := 4, cells := 0, slots := 0, locals := 95 } : Room)).room s m ([.ref (ad 0)] : List Value).toArray below meth c H locs 0 0 (MQ below (QI g (WM g ad s0 ++ X) (dd_A 9 ad X s.heap.size) r0) ([.ref (ad 0)] : List Value).toArray s 0 0 (dd_A 9 ad X s.heap.size)) (F0 m 44 ls []) := by
    intro k_17 hk_17 k_32 hk_32 n
    induction n with
    | zero =>
      intro sg v1 v2 v3 v4 v5 v6 v7 H locs ls hf
      rw [f_X6_improve_44] at hf
      cases hf
    | succ n ih =>
      intro sg v1 v2 v3 v4 v5 v6 v7 H locs ls hf hP hS hl
      rw [f_X6_improve_44] at hf
      refine lv_iload hx hb dX6_improve_44 (lv_at hl 7 rfl) ?_
      refine lv_aload_n hx hb dX6_improve_46 rfl (lv_at hl 0 rfl) ?_
      refine gf_X6_50 hx hb hts hown hK hP dX6_improve_47 ?_
      refine lv_icmp_ge (tgt := 179) hx hb dX6_improve_50 (by decide) (fun c9 => ?_) (fun c9 => ?_)
      · have hf := if_t c9 hf
        obtain ⟨x10, ex10, hf⟩ := lt_ex hf
        refine lv_iinc (v := x10) (lv' := [(6, .int x10), (0, .ref (ad 0)), (1, .int v1), (2, .int v2), (3, .int v3), (4, .int v4), (5, .int v5), (7, .int v7)]) hx hb dX6_improve_179 hl (k := 6) rfl (by rw [ex10]; rfl) (by decide) rfl (fun ls hl => ?_)
        refine lv_goto (tgt := 32) hx hb dX6_improve_182 (by decide) ?_
        exact hk_32 sg v1 v2 v3 v4 v5 x10 _ _ _ hf hP hS (lv_sub hl [1, 2, 3, 4, 5, 6, 0] rfl)
      · have hf := if_f c9 hf
        refine lv_aload_n hx hb dX6_improve_53 rfl (lv_at hl 0 rfl) ?_
        refine gf_X6_25 hx hb hts hown hK hP dX6_improve_54 ?_
        refine lv_iload hx hb dX6_improve_57 (lv_at hl 7 rfl) ?_
        obtain ⟨hi11, hf⟩ := gd_so hf
        refine W_iald hx hb hK hP 6 (by decide) cm_6 (ix_in hi11) dX6_improve_59 ?_
        refine lv_iload hx hb dX6_improve_60 (lv_at hl 5 rfl) ?_
        refine lv_icmp_eq (tgt := 77) hx hb dX6_improve_62 (by decide) (fun c12 => ?_) (fun c12 => ?_)
        · have hf := if_t c12 hf
          exact hL_77 k_17 hk_17 k_32 hk_32 (fun zs z0 z1 z2 z3 z4 z5 z6 => f_X6_improve_44 k_17 k_32 n zs z0 z1 z2 z3 z4 z5 z6) ih sg v1 v2 v3 v4 v5 v6 v7 _ _ _ hf hP hS (lv_sub hl [0, 1, 2, 3, 4, 5, 6, 7] rfl)
        · have hf := if_f c12 hf
          refine lv_aload_n hx hb dX6_improve_65 rfl (lv_at hl 0 rfl) ?_
          refine gf_X6_25 hx hb hts hown hK hP dX6_improve_66 ?_
          refine lv_iload hx hb dX6_improve_69 (lv_at hl 7 rfl) ?_
          obtain ⟨hi13, hf⟩ := gd_so hf
          refine W_iald hx hb hK hP 6 (by decide) cm_6 (ix_in hi13) dX6_improve_71 ?_
          refine lv_iload hx hb dX6_improve_72 (lv_at hl 6 rfl) ?_
          refine lv_icmp_ne (tgt := 173) hx hb dX6_improve_74 (by decide) (fun c14 => ?_) (fun c14 => ?_)
          · have hf := if_f c14 hf
            exact hL_173 k_17 hk_17 k_32 hk_32 (fun zs z0 z1 z2 z3 z4 z5 z6 => f_X6_improve_44 k_17 k_32 n zs z0 z1 z2 z3 z4 z5 z6) ih sg v1 v2 v3 v4 v5 v6 v7 _ _ _ hf hP hS (lv_sub hl [0, 1, 2, 3, 4, 5, 6, 7] rfl)
          · have hf := if_t c14 hf
            exact hL_77 k_17 hk_17 k_32 hk_32 (fun zs z0 z1 z2 z3 z4 z5 z6 => f_X6_improve_44 k_17 k_32 n zs z0 z1 z2 z3 z4 z5 z6) ih sg v1 v2 v3 v4 v5 v6 v7 _ _ _ hf hP hS (lv_sub hl [0, 1, 2, 3, 4, 5, 6, 7] rfl)
  have hL_32 : ∀ (k_17 : dd_S → Int32 → Int32 → Int32 → Int32 → Int32 → Option (Int32 × dd_S)) (hk_17 : ∀ (sg : dd_S) (v1 : Int32) (v2 : Int32) (v3 : Int32) (v4 : Int32) (v5 : Int32) (H : Heap) (locs : List Loc) (ls : Array Slot), k_17 sg v1 v2 v3 v4 v5 = some (r0, s0) → va_P g.1 vwCl (WM g ad sg ++ X) H → va_S (dd_A 9 ad X s.heap.size) s.heap H locs → lv_has ls 9 [(0, .ref (ad 0)), (1, .int v1), (2, .int v2), (3, .int v3), (4, .int v4), (5, .int v5)] → W p l e (headSpec (lw_ws yX6_improve cX6_improve 9 (some .int)) ({ frames := 4, cells := 0, slots := 0, locals := 95 } : Room)).room s m ([.ref (ad 0)] : List Value).toArray below meth c H locs 0 0 (MQ below (QI g (WM g ad s0 ++ X) (dd_A 9 ad X s.heap.size) r0) ([.ref (ad 0)] : List Value).toArray s 0 0 (dd_A 9 ad X s.heap.size)) (F0 m 17 ls [])) (n : Nat), ∀ (sg : dd_S) (v1 : Int32) (v2 : Int32) (v3 : Int32) (v4 : Int32) (v5 : Int32) (v6 : Int32) (H : Heap) (locs : List Loc) (ls : Array Slot), f_X6_improve_32 k_17 n sg v1 v2 v3 v4 v5 v6 = some (r0, s0) → va_P g.1 vwCl (WM g ad sg ++ X) H → va_S (dd_A 9 ad X s.heap.size) s.heap H locs → lv_has ls 9 [(0, .ref (ad 0)), (1, .int v1), (2, .int v2), (3, .int v3), (4, .int v4), (5, .int v5), (6, .int v6)] → W p l e (headSpec (lw_ws yX6_improve cX6_improve 9 (some .int)) ({ frames := 4, cells := 0, slots := 0, locals := 95 } : Room)).room s m ([.ref (ad 0)] : List Value).toArray below meth c H locs 0 0 (MQ below (QI g (WM g ad s0 ++ X) (dd_A 9 ad X s.heap.size) r0) ([.ref (ad 0)] : List Value).toArray s 0 0 (dd_A 9 ad X s.heap.size)) (F0 m 32 ls []) := by
    intro k_17 hk_17 n
    induction n with
    | zero =>
      intro sg v1 v2 v3 v4 v5 v6 H locs ls hf
      rw [f_X6_improve_32] at hf
      cases hf
    | succ n ih =>
      intro sg v1 v2 v3 v4 v5 v6 H locs ls hf hP hS hl
      rw [f_X6_improve_32] at hf
      refine lv_iload hx hb dX6_improve_32 (lv_at hl 6 rfl) ?_
      refine lv_aload_n hx hb dX6_improve_34 rfl (lv_at hl 0 rfl) ?_
      refine gf_X6_57 hx hb hts hown hK hP dX6_improve_35 ?_
      refine lv_icmp_ge (tgt := 185) hx hb dX6_improve_38 (by decide) (fun c7 => ?_) (fun c7 => ?_)
      · have hf := if_t c7 hf
        obtain ⟨x8, ex8, hf⟩ := lt_ex hf
        refine lv_iinc (v := x8) (lv' := [(5, .int x8), (0, .ref (ad 0)), (1, .int v1), (2, .int v2), (3, .int v3), (4, .int v4), (6, .int v6)]) hx hb dX6_improve_185 hl (k := 5) rfl (by rw [ex8]; rfl) (by decide) rfl (fun ls hl => ?_)
        refine lv_goto (tgt := 17) hx hb dX6_improve_188 (by decide) ?_
        exact hk_17 sg v1 v2 v3 v4 x8 _ _ _ hf hP hS (lv_sub hl [1, 2, 3, 4, 5, 0] rfl)
      · have hf := if_f c7 hf
        refine lv_iconst (v := (0 : Int32)) hx hb dX6_improve_41 (by decide) ?_
        refine lv_istore (lv' := [(7, .int (0 : Int32)), (0, .ref (ad 0)), (1, .int v1), (2, .int v2), (3, .int v3), (4, .int v4), (5, .int v5), (6, .int v6)]) hx hb dX6_improve_42 hl (by decide) rfl (fun ls hl => ?_)
        exact hL_44 k_17 hk_17 (fun zs z0 z1 z2 z3 z4 z5 => f_X6_improve_32 k_17 n zs z0 z1 z2 z3 z4 z5) ih 64 sg v1 v2 v3 v4 v5 v6 (0 : Int32) _ _ _ hf hP hS (lv_sub hl [1, 2, 3, 4, 5, 6, 7, 0] rfl)
  have hL_204 : ∀ (sg : dd_S) (v1 : Int32) (H : Heap) (locs : List Loc) (ls : Array Slot), f_X6_improve_204 sg v1 = some (r0, s0) → va_P g.1 vwCl (WM g ad sg ++ X) H → va_S (dd_A 9 ad X s.heap.size) s.heap H locs → lv_has ls 9 [(1, .int v1)] → W p l e (headSpec (lw_ws yX6_improve cX6_improve 9 (some .int)) ({ frames := 4, cells := 0, slots := 0, locals := 95 } : Room)).room s m ([.ref (ad 0)] : List Value).toArray below meth c H locs 0 0 (MQ below (QI g (WM g ad s0 ++ X) (dd_A 9 ad X s.heap.size) r0) ([.ref (ad 0)] : List Value).toArray s 0 0 (dd_A 9 ad X s.heap.size)) (F0 m 204 ls []) := by
    intro sg v1 H locs ls hf hP hS hl
    unfold f_X6_improve_204 at hf
    refine lv_iload_n hx hb dX6_improve_204 rfl (lv_at hl 0 rfl) ?_
    exact W.iret (v := v1) hx hb hr (fun t ht hW => ⟨⟨v1, (), rfl, (so2 hf).1, P_at2 (so2 hf).2 ht hP⟩, hS.F ht⟩) hS.2.2 dX6_improve_205
  have hL_17 : ∀ (n : Nat), ∀ (sg : dd_S) (v1 : Int32) (v2 : Int32) (v3 : Int32) (v4 : Int32) (v5 : Int32) (H : Heap) (locs : List Loc) (ls : Array Slot), f_X6_improve_17 n sg v1 v2 v3 v4 v5 = some (r0, s0) → va_P g.1 vwCl (WM g ad sg ++ X) H → va_S (dd_A 9 ad X s.heap.size) s.heap H locs → lv_has ls 9 [(0, .ref (ad 0)), (1, .int v1), (2, .int v2), (3, .int v3), (4, .int v4), (5, .int v5)] → W p l e (headSpec (lw_ws yX6_improve cX6_improve 9 (some .int)) ({ frames := 4, cells := 0, slots := 0, locals := 95 } : Room)).room s m ([.ref (ad 0)] : List Value).toArray below meth c H locs 0 0 (MQ below (QI g (WM g ad s0 ++ X) (dd_A 9 ad X s.heap.size) r0) ([.ref (ad 0)] : List Value).toArray s 0 0 (dd_A 9 ad X s.heap.size)) (F0 m 17 ls []) := by
    intro n
    induction n with
    | zero =>
      intro sg v1 v2 v3 v4 v5 H locs ls hf
      rw [f_X6_improve_17] at hf
      cases hf
    | succ n ih =>
      intro sg v1 v2 v3 v4 v5 H locs ls hf hP hS hl
      rw [f_X6_improve_17] at hf
      refine lv_iload hx hb dX6_improve_17 (lv_at hl 5 rfl) ?_
      refine lv_aload_n hx hb dX6_improve_19 rfl (lv_at hl 0 rfl) ?_
      refine gf_X6_57 hx hb hts hown hK hP dX6_improve_20 ?_
      refine lv_icmp_ge (tgt := 191) hx hb dX6_improve_23 (by decide) (fun c2 => ?_) (fun c2 => ?_)
      · have hf := if_t c2 hf
        refine lv_iload_n hx hb dX6_improve_191 rfl (lv_at hl 2 rfl) ?_
        refine lv_iconst (v := (-1 : Int32)) hx hb dX6_improve_192 (by decide) ?_
        refine lv_icmp_eq (tgt := 204) hx hb dX6_improve_193 (by decide) (fun c3 => ?_) (fun c3 => ?_)
        · have hf := if_t c3 hf
          exact hL_204 sg v1 _ _ _ hf hP hS (lv_sub hl [1] rfl)
        · have hf := if_f c3 hf
          refine lv_aload_n hx hb dX6_improve_196 rfl (lv_at hl 0 rfl) ?_
          refine lv_iload_n hx hb dX6_improve_197 rfl (lv_at hl 2 rfl) ?_
          refine lv_iload_n hx hb dX6_improve_198 rfl (lv_at hl 3 rfl) ?_
          refine lv_iload hx hb dX6_improve_199 (lv_at hl 4 rfl) ?_
          obtain ⟨sg5, q4, hf⟩ := bd_so hf
          refine cl_v (va_runV (As := [.int v2, .int v3, .int v4]) (rest := []) ⟨hx, hb, hml, hown, hts⟩ (c_X6_exchange l g ad X _ sg v2 v3 v4 sg5 q4) (cwV 3 hts gl_X6_147 rfl rfl rfl yd_X6_exchange ⟨Nat.le_of_ble_eq_true rfl, Nat.le_of_ble_eq_true rfl⟩) (preV_of hK hP (hD sg) (dd_at (by decide) cm_0) rfl) rfl rfl hl.1 rfl (lv_room (Nat.le_of_ble_eq_true rfl)) dX6_improve_201 ⟨Nat.le_of_ble_eq_true rfl, Nat.le_of_ble_eq_true rfl⟩) hS (fun q h => dd_A_mono hS.1 h) (fun q h => dd_A_mono hS.1 h) (fun H locs hP hS => ?_)
          exact hL_204 sg5 v1 _ _ _ hf hP hS (lv_sub hl [1] rfl)
      · have hf := if_f c2 hf
        refine lv_iload hx hb dX6_improve_26 (lv_at hl 5 rfl) ?_
        refine lv_iconst (v := (1 : Int32)) hx hb dX6_improve_28 (by decide) ?_
        refine lv_iadd hx hb dX6_improve_29 ?_
        refine lv_topi (fun x6 ex6 => ?_)
        have hf := lt_so ex6 hf
        refine lv_istore (lv' := [(6, .int x6), (0, .ref (ad 0)), (1, .int v1), (2, .int v2), (3, .int v3), (4, .int v4), (5, .int v5)]) hx hb dX6_improve_30 hl (by decide) rfl (fun ls hl => ?_)
        exact hL_32 (fun zs z0 z1 z2 z3 z4 => f_X6_improve_17 n zs z0 z1 z2 z3 z4) ih 64 sg v1 v2 v3 v4 v5 x6 _ _ _ hf hP hS (lv_sub hl [1, 2, 3, 4, 5, 6, 0] rfl)
  unfold f_X6_improve at hf
  have hl := lv_entry ([.ref (ad 0)]) (n := 9) (Nat.le_of_ble_eq_true rfl)
  rw [lg_entry_eq]
  generalize (lg_sl ([.ref (ad 0)]) ++ List.replicate (9 - (lg_sl ([.ref (ad 0)])).length) Slot.unset).toArray = ls at hl ⊢
  have hl : lv_has ls 9 [(0, .ref (ad 0))] := hl
  refine lv_aload_n hx hb dX6_improve_0 rfl (lv_at hl 0 rfl) ?_
  refine lv_iconst (v := (0 : Int32)) hx hb dX6_improve_1 (by decide) ?_
  obtain ⟨sg1, esg1, hf⟩ := lt_ex hf
  refine pf_X6_47 hx hb hts hown hK hP hD hS dX6_improve_2 (fun H locs hP hS => ?_)
  rw [← esg1] at hP
  refine lv_iconst (v := (0 : Int32)) hx hb dX6_improve_5 (by decide) ?_
  refine lv_istore_n (lv' := [(1, .int (0 : Int32)), (0, .ref (ad 0))]) hx hb dX6_improve_6 rfl hl (by decide) rfl (fun ls hl => ?_)
  refine lv_iconst (v := (-1 : Int32)) hx hb dX6_improve_7 (by decide) ?_
  refine lv_istore_n (lv' := [(2, .int (-1 : Int32)), (1, .int (0 : Int32)), (0, .ref (ad 0))]) hx hb dX6_improve_8 rfl hl (by decide) rfl (fun ls hl => ?_)
  refine lv_iconst (v := (-1 : Int32)) hx hb dX6_improve_9 (by decide) ?_
  refine lv_istore_n (lv' := [(3, .int (-1 : Int32)), (2, .int (-1 : Int32)), (1, .int (0 : Int32)), (0, .ref (ad 0))]) hx hb dX6_improve_10 rfl hl (by decide) rfl (fun ls hl => ?_)
  refine lv_iconst (v := (0 : Int32)) hx hb dX6_improve_11 (by decide) ?_
  refine lv_istore (lv' := [(4, .int (0 : Int32)), (3, .int (-1 : Int32)), (2, .int (-1 : Int32)), (1, .int (0 : Int32)), (0, .ref (ad 0))]) hx hb dX6_improve_12 hl (by decide) rfl (fun ls hl => ?_)
  refine lv_iconst (v := (0 : Int32)) hx hb dX6_improve_14 (by decide) ?_
  refine lv_istore (lv' := [(5, .int (0 : Int32)), (4, .int (0 : Int32)), (3, .int (-1 : Int32)), (2, .int (-1 : Int32)), (1, .int (0 : Int32)), (0, .ref (ad 0))]) hx hb dX6_improve_15 hl (by decide) rfl (fun ls hl => ?_)
  exact hL_17 64 sg1 (0 : Int32) (-1 : Int32) (-1 : Int32) (0 : Int32) (0 : Int32) _ _ _ hf hP hS (lv_sub hl [5, 4, 3, 2, 1, 0] rfl)
set_option maxHeartbeats 4000000 in
set_option maxRecDepth 100000 in
theorem c_X6_allPay (l : Launch) (g : dd_G) (ad : Nat → Nat) (X : va_W) (sz : Nat) (sg : dd_S) (r0 : Int32) (s0 : dd_S) (hf : f_X6_allPay sg = some (r0, s0)) : Met l yX6_allPay (lw_ws yX6_allPay cX6_allPay 3 (some .int)) ({ frames := 3, cells := 0, slots := 0, locals := 71 } : Room) (va_Pc [.ref (ad 0)] (PreW g (WM g ad sg ++ X) sz)) (QI g (WM g ad s0 ++ X) (dd_A 9 ad X sz) r0) 0 0 (dd_A 9 ad X sz) := by
  refine Met.ofW (cc := cX6_allPay) (maxL := 3) (ret := some .int) (by decide) rfl ?_
  intro p e s m args below meth c s₁ B hml hv
  obtain ⟨rfl, rfl, hP, hK, hD0⟩ := hv
  have hx := B.exec
  have hb := B.bytes
  have hr := B.returns
  have hts := atoms_spec (ws := (lw_ws yX6_allPay cX6_allPay 3 (some .int))) B.pre
  have hts : ∀ w ∈ lw_all, w.before _ s = true := fun w h => hts w (List.mem_cons_of_mem _ h)
  have hown : s.vm.findClass RX6 = some m.cls := findClass_of_methodNamed B.named
  have hlocks := B.notSynchronized
  have hD : ∀ s2 : dd_S, va_D (dd_A 9 ad X s.heap.size) (WM g ad s2 ++ X) := fun s2 => dd_D (dd_A_D hD0)
  have hS : va_S (dd_A 9 ad X s.heap.size) s.heap s.heap [] := va_S.rf
  have hL_4 : ∀ (n : Nat), ∀ (sg : dd_S) (v1 : Int32) (v2 : Int32) (H : Heap) (locs : List Loc) (ls : Array Slot), f_X6_allPay_4 n sg v1 v2 = some (r0, s0) → va_P g.1 vwCl (WM g ad sg ++ X) H → va_S (dd_A 9 ad X s.heap.size) s.heap H locs → lv_has ls 3 [(0, .ref (ad 0)), (1, .int v1), (2, .int v2)] → W p l e (headSpec (lw_ws yX6_allPay cX6_allPay 3 (some .int)) ({ frames := 3, cells := 0, slots := 0, locals := 71 } : Room)).room s m ([.ref (ad 0)] : List Value).toArray below meth c H locs 0 0 (MQ below (QI g (WM g ad s0 ++ X) (dd_A 9 ad X s.heap.size) r0) ([.ref (ad 0)] : List Value).toArray s 0 0 (dd_A 9 ad X s.heap.size)) (F0 m 4 ls []) := by
    intro n
    induction n with
    | zero =>
      intro sg v1 v2 H locs ls hf
      rw [f_X6_allPay_4] at hf
      cases hf
    | succ n ih =>
      intro sg v1 v2 H locs ls hf hP hS hl
      rw [f_X6_allPay_4] at hf
      refine lv_iload_n hx hb dX6_allPay_4 rfl (lv_at hl 2 rfl) ?_
      refine lv_aload_n hx hb dX6_allPay_5 rfl (lv_at hl 0 rfl) ?_
      refine gf_X6_57 hx hb hts hown hK hP dX6_allPay_6 ?_
      refine lv_icmp_ge (tgt := 26) hx hb dX6_allPay_9 (by decide) (fun c1 => ?_) (fun c1 => ?_)
      · have hf := if_t c1 hf
        refine lv_iload_n hx hb dX6_allPay_26 rfl (lv_at hl 1 rfl) ?_
        exact W.iret (v := v1) hx hb hr (fun t ht hW => ⟨⟨v1, (), rfl, (so2 hf).1, P_at2 (so2 hf).2 ht hP⟩, hS.F ht⟩) hS.2.2 dX6_allPay_27
      · have hf := if_f c1 hf
        refine lv_iload_n hx hb dX6_allPay_12 rfl (lv_at hl 1 rfl) ?_
        refine lv_aload_n hx hb dX6_allPay_13 rfl (lv_at hl 0 rfl) ?_
        refine lv_iload_n hx hb dX6_allPay_14 rfl (lv_at hl 2 rfl) ?_
        obtain ⟨r4, sg3, q2, hf⟩ := bd2_so hf
        refine cl_i (va_runV (As := [.int v2]) (rest := [.int v1]) ⟨hx, hb, hml, hown, hts⟩ (c_X6_payOf l g ad X _ sg v2 r4 sg3 q2) (cwV 1 hts gl_X6_135 rfl rfl rfl yd_X6_payOf ⟨Nat.le_of_ble_eq_true rfl, Nat.le_of_ble_eq_true rfl⟩) (preV_of hK hP (hD sg) (dd_at (by decide) cm_0) rfl) rfl rfl hl.1 rfl (lv_room (Nat.le_of_ble_eq_true rfl)) dX6_allPay_15 ⟨Nat.le_of_ble_eq_true rfl, Nat.le_of_ble_eq_true rfl⟩) hS (fun q h => dd_A_mono hS.1 h) (fun q h => dd_A_mono hS.1 h) (fun H locs hP hS => ?_)
        refine lv_iadd hx hb dX6_allPay_18 ?_
        refine lv_topi (fun x5 ex5 => ?_)
        have hf := lt_so ex5 hf
        refine lv_istore_n (lv' := [(1, .int x5), (0, .ref (ad 0)), (2, .int v2)]) hx hb dX6_allPay_19 rfl hl (by decide) rfl (fun ls hl => ?_)
        obtain ⟨x6, ex6, hf⟩ := lt_ex hf
        refine lv_iinc (v := x6) (lv' := [(2, .int x6), (1, .int x5), (0, .ref (ad 0))]) hx hb dX6_allPay_20 hl (k := 2) rfl (by rw [ex6]; rfl) (by decide) rfl (fun ls hl => ?_)
        refine lv_goto (tgt := 4) hx hb dX6_allPay_23 (by decide) ?_
        exact ih sg3 x5 x6 _ _ _ hf hP hS (lv_sub hl [2, 1, 0] rfl)
  unfold f_X6_allPay at hf
  have hl := lv_entry ([.ref (ad 0)]) (n := 3) (Nat.le_of_ble_eq_true rfl)
  rw [lg_entry_eq]
  generalize (lg_sl ([.ref (ad 0)]) ++ List.replicate (3 - (lg_sl ([.ref (ad 0)])).length) Slot.unset).toArray = ls at hl ⊢
  have hl : lv_has ls 3 [(0, .ref (ad 0))] := hl
  refine lv_iconst (v := (0 : Int32)) hx hb dX6_allPay_0 (by decide) ?_
  refine lv_istore_n (lv' := [(1, .int (0 : Int32)), (0, .ref (ad 0))]) hx hb dX6_allPay_1 rfl hl (by decide) rfl (fun ls hl => ?_)
  refine lv_iconst (v := (0 : Int32)) hx hb dX6_allPay_2 (by decide) ?_
  refine lv_istore_n (lv' := [(2, .int (0 : Int32)), (1, .int (0 : Int32)), (0, .ref (ad 0))]) hx hb dX6_allPay_3 rfl hl (by decide) rfl (fun ls hl => ?_)
  exact hL_4 64 sg (0 : Int32) (0 : Int32) _ _ _ hf hP hS (lv_sub hl [2, 1, 0] rfl)
set_option maxHeartbeats 4000000 in
set_option maxRecDepth 100000 in
theorem c_X6_pay (l : Launch) (g : dd_G) (ad : Nat → Nat) (X : va_W) (sz : Nat) (sg : dd_S) (r0 : Int32) (s0 : dd_S) (hf : f_X6_pay sg = some (r0, s0)) : Met l yX6_pay (lw_ws yX6_pay cX6_pay 1 (some .int)) ({ frames := 4, cells := 0, slots := 0, locals := 93 } : Room) (va_Pc [.ref (ad 0)] (PreW g (WM g ad sg ++ X) sz)) (QI g (WM g ad s0 ++ X) (dd_A 9 ad X sz) r0) 0 0 (dd_A 9 ad X sz) := by
  refine Met.ofW (cc := cX6_pay) (maxL := 1) (ret := some .int) (by decide) rfl ?_
  intro p e s m args below meth c s₁ B hml hv
  obtain ⟨rfl, rfl, hP, hK, hD0⟩ := hv
  have hx := B.exec
  have hb := B.bytes
  have hr := B.returns
  have hts := atoms_spec (ws := (lw_ws yX6_pay cX6_pay 1 (some .int))) B.pre
  have hts : ∀ w ∈ lw_all, w.before _ s = true := fun w h => hts w (List.mem_cons_of_mem _ h)
  have hown : s.vm.findClass RX6 = some m.cls := findClass_of_methodNamed B.named
  have hlocks := B.notSynchronized
  have hD : ∀ s2 : dd_S, va_D (dd_A 9 ad X s.heap.size) (WM g ad s2 ++ X) := fun s2 => dd_D (dd_A_D hD0)
  have hS : va_S (dd_A 9 ad X s.heap.size) s.heap s.heap [] := va_S.rf
  unfold f_X6_pay at hf
  have hl := lv_entry ([.ref (ad 0)]) (n := 1) (Nat.le_of_ble_eq_true rfl)
  rw [lg_entry_eq]
  generalize (lg_sl ([.ref (ad 0)]) ++ List.replicate (1 - (lg_sl ([.ref (ad 0)])).length) Slot.unset).toArray = ls at hl ⊢
  have hl : lv_has ls 1 [(0, .ref (ad 0))] := hl
  refine lv_aload_n hx hb dX6_pay_0 rfl (lv_at hl 0 rfl) ?_
  refine lv_iconst (v := (0 : Int32)) hx hb dX6_pay_1 (by decide) ?_
  obtain ⟨sg1, esg1, hf⟩ := lt_ex hf
  refine pf_X6_47 hx hb hts hown hK hP hD hS dX6_pay_2 (fun H locs hP hS => ?_)
  rw [← esg1] at hP
  refine lv_aload_n hx hb dX6_pay_5 rfl (lv_at hl 0 rfl) ?_
  obtain ⟨r4, sg3, q2, hf⟩ := bd2_so hf
  refine cl_i (va_runV (As := []) (rest := []) ⟨hx, hb, hml, hown, hts⟩ (c_X6_allPay l g ad X _ sg1 r4 sg3 q2) (cwV 0 hts gl_X6_154 rfl rfl rfl yd_X6_allPay ⟨Nat.le_of_ble_eq_true rfl, Nat.le_of_ble_eq_true rfl⟩) (preV_of hK hP (hD sg1) (dd_at (by decide) cm_0) rfl) rfl rfl hl.1 rfl (lv_room (Nat.le_of_ble_eq_true rfl)) dX6_pay_6 ⟨Nat.le_of_ble_eq_true rfl, Nat.le_of_ble_eq_true rfl⟩) hS (fun q h => dd_A_mono hS.1 h) (fun q h => dd_A_mono hS.1 h) (fun H locs hP hS => ?_)
  exact W.iret (v := r4) hx hb hr (fun t ht hW => ⟨⟨r4, (), rfl, (so2 hf).1, P_at2 (so2 hf).2 ht hP⟩, hS.F ht⟩) hS.2.2 dX6_pay_9
set_option maxHeartbeats 4000000 in
set_option maxRecDepth 100000 in
theorem c_X6_addDriver (l : Launch) (g : dd_G) (ad : Nat → Nat) (X : va_W) (sz : Nat) (sg : dd_S) (r0 : Int32) (s0 : dd_S) (hf : f_X6_addDriver sg = some (r0, s0)) : Met l yX6_addDriver (lw_ws yX6_addDriver cX6_addDriver 1 (some .int)) ({ frames := 1, cells := 0, slots := 0, locals := 21 } : Room) (va_Pc [.ref (ad 0)] (PreW g (WM g ad sg ++ X) sz)) (QI g (WM g ad s0 ++ X) (dd_A 9 ad X sz) r0) 0 0 (dd_A 9 ad X sz) := by
  refine Met.ofW (cc := cX6_addDriver) (maxL := 1) (ret := some .int) (by decide) rfl ?_
  intro p e s m args below meth c s₁ B hml hv
  obtain ⟨rfl, rfl, hP, hK, hD0⟩ := hv
  have hx := B.exec
  have hb := B.bytes
  have hr := B.returns
  have hts := atoms_spec (ws := (lw_ws yX6_addDriver cX6_addDriver 1 (some .int))) B.pre
  have hts : ∀ w ∈ lw_all, w.before _ s = true := fun w h => hts w (List.mem_cons_of_mem _ h)
  have hown : s.vm.findClass RX6 = some m.cls := findClass_of_methodNamed B.named
  have hlocks := B.notSynchronized
  have hD : ∀ s2 : dd_S, va_D (dd_A 9 ad X s.heap.size) (WM g ad s2 ++ X) := fun s2 => dd_D (dd_A_D hD0)
  have hS : va_S (dd_A 9 ad X s.heap.size) s.heap s.heap [] := va_S.rf
  unfold f_X6_addDriver at hf
  have hl := lv_entry ([.ref (ad 0)]) (n := 1) (Nat.le_of_ble_eq_true rfl)
  rw [lg_entry_eq]
  generalize (lg_sl ([.ref (ad 0)]) ++ List.replicate (1 - (lg_sl ([.ref (ad 0)])).length) Slot.unset).toArray = ls at hl ⊢
  have hl : lv_has ls 1 [(0, .ref (ad 0))] := hl
  refine lv_aload_n hx hb dX6_addDriver_0 rfl (lv_at hl 0 rfl) ?_
  refine lv_iconst (v := (0 : Int32)) hx hb dX6_addDriver_1 (by decide) ?_
  obtain ⟨sg1, esg1, hf⟩ := lt_ex hf
  refine pf_X6_47 hx hb hts hown hK hP hD hS dX6_addDriver_2 (fun H locs hP hS => ?_)
  rw [← esg1] at hP
  refine lv_aload_n hx hb dX6_addDriver_5 rfl (lv_at hl 0 rfl) ?_
  refine gf_X6_74 hx hb hts hown hK hP dX6_addDriver_6 ?_
  refine lv_bipush (v := (8 : Int32)) hx hb dX6_addDriver_9 (by decide) ?_
  refine lv_icmp_ne (tgt := 20) hx hb dX6_addDriver_11 (by decide) (fun c2 => ?_) (fun c2 => ?_)
  · have hf := if_f c2 hf
    refine lv_aload_n hx hb dX6_addDriver_20 rfl (lv_at hl 0 rfl) ?_
    refine lv_dup hx hb dX6_addDriver_21 rfl ?_
    refine gf_X6_74 hx hb hts hown hK hP dX6_addDriver_22 ?_
    refine lv_iconst (v := (1 : Int32)) hx hb dX6_addDriver_25 (by decide) ?_
    refine lv_iadd hx hb dX6_addDriver_26 ?_
    obtain ⟨sg3, esg3, hf⟩ := lt_ex hf
    refine pf_X6_74 hx hb hts hown hK hP hD hS dX6_addDriver_27 (fun H locs hP hS => ?_)
    rw [← esg3] at hP
    refine lv_aload_n hx hb dX6_addDriver_30 rfl (lv_at hl 0 rfl) ?_
    refine gf_X6_74 hx hb hts hown hK hP dX6_addDriver_31 ?_
    refine lv_iconst (v := (1 : Int32)) hx hb dX6_addDriver_34 (by decide) ?_
    refine lv_isub hx hb dX6_addDriver_35 ?_
    exact W.iret (v := ((sg3 0 9) - (1 : Int32))) hx hb hr (fun t ht hW => ⟨⟨((sg3 0 9) - (1 : Int32)), (), rfl, (so2 hf).1, P_at2 (so2 hf).2 ht hP⟩, hS.F ht⟩) hS.2.2 dX6_addDriver_36
  · have hf := if_t c2 hf
    refine lv_aload_n hx hb dX6_addDriver_14 rfl (lv_at hl 0 rfl) ?_
    refine lv_iconst (v := (1 : Int32)) hx hb dX6_addDriver_15 (by decide) ?_
    obtain ⟨r6, sg5, q4, hf⟩ := bd2_so hf
    refine cl_i (va_runV (As := [.int (1 : Int32)]) (rest := []) ⟨hx, hb, hml, hown, hts⟩ (c_X6_no l g ad X _ sg1 (1 : Int32) r6 sg5 q4) (cwV 1 hts gl_X6_64 rfl rfl rfl yd_X6_no ⟨Nat.le_of_ble_eq_true rfl, Nat.le_of_ble_eq_true rfl⟩) (preV_of hK hP (hD sg1) (dd_at (by decide) cm_0) rfl) rfl rfl hl.1 rfl (lv_room (Nat.le_of_ble_eq_true rfl)) dX6_addDriver_16 ⟨Nat.le_of_ble_eq_true rfl, Nat.le_of_ble_eq_true rfl⟩) hS (fun q h => dd_A_mono hS.1 h) (fun q h => dd_A_mono hS.1 h) (fun H locs hP hS => ?_)
    exact W.iret (v := r6) hx hb hr (fun t ht hW => ⟨⟨r6, (), rfl, (so2 hf).1, P_at2 (so2 hf).2 ht hP⟩, hS.F ht⟩) hS.2.2 dX6_addDriver_19
set_option maxHeartbeats 4000000 in
set_option maxRecDepth 100000 in
theorem c_X6_isDriver (l : Launch) (g : dd_G) (ad : Nat → Nat) (X : va_W) (sz : Nat) (sg : dd_S) (a1 : Int32) (r0 : Int32) (hf : f_X6_isDriver sg a1 = some (r0)) : Met l yX6_isDriver (lw_ws yX6_isDriver cX6_isDriver 2 (some .boolean)) ({ frames := 1, cells := 0, slots := 0, locals := 22 } : Room) (va_Pc [.ref (ad 0), .int a1] (PreW g (WM g ad sg ++ X) sz)) (QI g (WM g ad sg ++ X) (dd_A 9 ad X sz) r0) 0 0 (dd_A 9 ad X sz) := by
  refine Met.ofW (cc := cX6_isDriver) (maxL := 2) (ret := some .boolean) (by decide) rfl ?_
  intro p e s m args below meth c s₁ B hml hv
  obtain ⟨rfl, rfl, hP, hK, hD0⟩ := hv
  have hx := B.exec
  have hb := B.bytes
  have hr := B.returns
  have hts := atoms_spec (ws := (lw_ws yX6_isDriver cX6_isDriver 2 (some .boolean))) B.pre
  have hts : ∀ w ∈ lw_all, w.before _ s = true := fun w h => hts w (List.mem_cons_of_mem _ h)
  have hown : s.vm.findClass RX6 = some m.cls := findClass_of_methodNamed B.named
  have hlocks := B.notSynchronized
  have hD : ∀ s2 : dd_S, va_D (dd_A 9 ad X s.heap.size) (WM g ad s2 ++ X) := fun s2 => dd_D (dd_A_D hD0)
  have hS : va_S (dd_A 9 ad X s.heap.size) s.heap s.heap [] := va_S.rf
  unfold f_X6_isDriver at hf
  have hl := lv_entry ([.ref (ad 0), .int a1]) (n := 2) (Nat.le_of_ble_eq_true rfl)
  rw [lg_entry_eq]
  generalize (lg_sl ([.ref (ad 0), .int a1]) ++ List.replicate (2 - (lg_sl ([.ref (ad 0), .int a1])).length) Slot.unset).toArray = ls at hl ⊢
  have hl : lv_has ls 2 [(0, .ref (ad 0)), (1, .int a1)] := hl
  refine lv_iload_n hx hb dX6_isDriver_0 rfl (lv_at hl 1 rfl) ?_
  refine lv_iconst (v := (0 : Int32)) hx hb dX6_isDriver_1 (by decide) ?_
  refine lv_aload_n hx hb dX6_isDriver_2 rfl (lv_at hl 0 rfl) ?_
  refine gf_X6_74 hx hb hts hown hK hP dX6_isDriver_3 ?_
  refine lv_iconst (v := (1 : Int32)) hx hb dX6_isDriver_6 (by decide) ?_
  refine lv_isub hx hb dX6_isDriver_7 ?_
  obtain ⟨r2, q1, hf⟩ := bd_so hf
  refine cl_i (va_runS (As := [.int a1, .int (0 : Int32), .int ((sg 0 9) - (1 : Int32))]) (rest := []) ⟨hx, hb, hml, hown, hts⟩ (c_X6_isIn l g ad X _ sg a1 (0 : Int32) ((sg 0 9) - (1 : Int32)) r2 q1) (cwS 3 hts gl_X6_53 rfl rfl rfl yd_X6_isIn ⟨Nat.le_of_ble_eq_true rfl, Nat.le_of_ble_eq_true rfl⟩) (preS_of hK hP (hD sg)) rfl rfl hl.1 rfl (lv_room (Nat.le_of_ble_eq_true rfl)) dX6_isDriver_8 ⟨Nat.le_of_ble_eq_true rfl, Nat.le_of_ble_eq_true rfl⟩) hS (fun q h => dd_A_mono hS.1 h) (fun q h => dd_A_mono hS.1 h) (fun H locs hP hS => ?_)
  obtain ⟨hz3, hf⟩ := gd_so hf
  exact W.zret (v := r2) hx hb hr (bz_z hz3) (fun t ht hW => ⟨⟨r2, (), rfl, so1 hf, P_at ht hP⟩, hS.F ht⟩) hS.2.2 dX6_isDriver_11
set_option maxHeartbeats 4000000 in
set_option maxRecDepth 100000 in
theorem c_X6_isDay (l : Launch) (g : dd_G) (ad : Nat → Nat) (X : va_W) (sz : Nat) (sg : dd_S) (a0 : Int32) (r0 : Int32) (hf : f_X6_isDay sg a0 = some (r0)) : Met l yX6_isDay (lw_ws yX6_isDay cX6_isDay 1 (some .boolean)) ({ frames := 1, cells := 0, slots := 0, locals := 22 } : Room) (va_Pc [.int a0] (PreW g (WM g ad sg ++ X) sz)) (QI g (WM g ad sg ++ X) (dd_A 9 ad X sz) r0) 0 0 (dd_A 9 ad X sz) := by
  refine Met.ofW (cc := cX6_isDay) (maxL := 1) (ret := some .boolean) (by decide) rfl ?_
  intro p e s m args below meth c s₁ B hml hv
  obtain ⟨rfl, rfl, hP, hK, hD0⟩ := hv
  have hx := B.exec
  have hb := B.bytes
  have hr := B.returns
  have hts := atoms_spec (ws := (lw_ws yX6_isDay cX6_isDay 1 (some .boolean))) B.pre
  have hts : ∀ w ∈ lw_all, w.before _ s = true := fun w h => hts w (List.mem_cons_of_mem _ h)
  have hown : s.vm.findClass RX6 = some m.cls := findClass_of_methodNamed B.named
  have hlocks := B.notSynchronized
  have hD : ∀ s2 : dd_S, va_D (dd_A 9 ad X s.heap.size) (WM g ad s2 ++ X) := fun s2 => dd_D (dd_A_D hD0)
  have hS : va_S (dd_A 9 ad X s.heap.size) s.heap s.heap [] := va_S.rf
  unfold f_X6_isDay at hf
  have hl := lv_entry ([.int a0]) (n := 1) (Nat.le_of_ble_eq_true rfl)
  rw [lg_entry_eq]
  generalize (lg_sl ([.int a0]) ++ List.replicate (1 - (lg_sl ([.int a0])).length) Slot.unset).toArray = ls at hl ⊢
  have hl : lv_has ls 1 [(0, .int a0)] := hl
  refine lv_iload_n hx hb dX6_isDay_0 rfl (lv_at hl 0 rfl) ?_
  refine lv_iconst (v := (0 : Int32)) hx hb dX6_isDay_1 (by decide) ?_
  refine lv_bipush (v := (6 : Int32)) hx hb dX6_isDay_2 (by decide) ?_
  obtain ⟨r2, q1, hf⟩ := bd_so hf
  refine cl_i (va_runS (As := [.int a0, .int (0 : Int32), .int (6 : Int32)]) (rest := []) ⟨hx, hb, hml, hown, hts⟩ (c_X6_isIn l g ad X _ sg a0 (0 : Int32) (6 : Int32) r2 q1) (cwS 3 hts gl_X6_53 rfl rfl rfl yd_X6_isIn ⟨Nat.le_of_ble_eq_true rfl, Nat.le_of_ble_eq_true rfl⟩) (preS_of hK hP (hD sg)) rfl rfl hl.1 rfl (lv_room (Nat.le_of_ble_eq_true rfl)) dX6_isDay_4 ⟨Nat.le_of_ble_eq_true rfl, Nat.le_of_ble_eq_true rfl⟩) hS (fun q h => dd_A_mono hS.1 h) (fun q h => dd_A_mono hS.1 h) (fun H locs hP hS => ?_)
  obtain ⟨hz3, hf⟩ := gd_so hf
  exact W.zret (v := r2) hx hb hr (bz_z hz3) (fun t ht hW => ⟨⟨r2, (), rfl, so1 hf, P_at ht hP⟩, hS.F ht⟩) hS.2.2 dX6_isDay_7
set_option maxHeartbeats 4000000 in
set_option maxRecDepth 100000 in
theorem c_X6_at (l : Launch) (g : dd_G) (ad : Nat → Nat) (X : va_W) (sz : Nat) (sg : dd_S) (a1 : Int32) (a2 : Int32) (r0 : Int32) (hf : f_X6_at sg a1 a2 = some (r0)) : Met l yX6_at (lw_ws yX6_at cX6_at 3 (some .int)) ({ frames := 2, cells := 0, slots := 0, locals := 42 } : Room) (va_Pc [.ref (ad 0), .int a1, .int a2] (PreW g (WM g ad sg ++ X) sz)) (QI g (WM g ad sg ++ X) (dd_A 9 ad X sz) r0) 0 0 (dd_A 9 ad X sz) := by
  refine Met.ofW (cc := cX6_at) (maxL := 3) (ret := some .int) (by decide) rfl ?_
  intro p e s m args below meth c s₁ B hml hv
  obtain ⟨rfl, rfl, hP, hK, hD0⟩ := hv
  have hx := B.exec
  have hb := B.bytes
  have hr := B.returns
  have hts := atoms_spec (ws := (lw_ws yX6_at cX6_at 3 (some .int))) B.pre
  have hts : ∀ w ∈ lw_all, w.before _ s = true := fun w h => hts w (List.mem_cons_of_mem _ h)
  have hown : s.vm.findClass RX6 = some m.cls := findClass_of_methodNamed B.named
  have hlocks := B.notSynchronized
  have hD : ∀ s2 : dd_S, va_D (dd_A 9 ad X s.heap.size) (WM g ad s2 ++ X) := fun s2 => dd_D (dd_A_D hD0)
  have hS : va_S (dd_A 9 ad X s.heap.size) s.heap s.heap [] := va_S.rf
  have hL_22 : ∀ (t0 : Int32) (H : Heap) (locs : List Loc) (ls : Array Slot), f_X6_at_22 sg a1 a2 t0 = some (r0) → va_P g.1 vwCl (WM g ad sg ++ X) H → va_S (dd_A 9 ad X s.heap.size) s.heap H locs → lv_has ls 3 [] → W p l e (headSpec (lw_ws yX6_at cX6_at 3 (some .int)) ({ frames := 2, cells := 0, slots := 0, locals := 42 } : Room)).room s m ([.ref (ad 0), .int a1, .int a2] : List Value).toArray below meth c H locs 0 0 (MQ below (QI g (WM g ad sg ++ X) (dd_A 9 ad X s.heap.size) r0) ([.ref (ad 0), .int a1, .int a2] : List Value).toArray s 0 0 (dd_A 9 ad X s.heap.size)) (F0 m 22 ls [.int t0]) := by
    intro t0 H locs ls hf hP hS hl
    unfold f_X6_at_22 at hf
    exact W.iret (v := t0) hx hb hr (fun t ht hW => ⟨⟨t0, (), rfl, so1 hf, P_at ht hP⟩, hS.F ht⟩) hS.2.2 dX6_at_22
  unfold f_X6_at at hf
  have hl := lv_entry ([.ref (ad 0), .int a1, .int a2]) (n := 3) (Nat.le_of_ble_eq_true rfl)
  rw [lg_entry_eq]
  generalize (lg_sl ([.ref (ad 0), .int a1, .int a2]) ++ List.replicate (3 - (lg_sl ([.ref (ad 0), .int a1, .int a2])).length) Slot.unset).toArray = ls at hl ⊢
  have hl : lv_has ls 3 [(0, .ref (ad 0)), (1, .int a1), (2, .int a2)] := hl
  refine lv_iload_n hx hb dX6_at_0 rfl (lv_at hl 2 rfl) ?_
  obtain ⟨r2, q1, hf⟩ := bd_so hf
  refine cl_i (va_runS (As := [.int a2]) (rest := []) ⟨hx, hb, hml, hown, hts⟩ (c_X6_isDay l g ad X _ sg a2 r2 q1) (cwS 1 hts gl_X6_157 rfl rfl rfl yd_X6_isDay ⟨Nat.le_of_ble_eq_true rfl, Nat.le_of_ble_eq_true rfl⟩) (preS_of hK hP (hD sg)) rfl rfl hl.1 rfl (lv_room (Nat.le_of_ble_eq_true rfl)) dX6_at_1 ⟨Nat.le_of_ble_eq_true rfl, Nat.le_of_ble_eq_true rfl⟩) hS (fun q h => dd_A_mono hS.1 h) (fun q h => dd_A_mono hS.1 h) (fun H locs hP hS => ?_)
  refine lv_if_eq (tgt := 21) hx hb dX6_at_4 (by decide) (fun c3 => ?_) (fun c3 => ?_)
  · have hf := if_t c3 hf
    refine lv_iconst (v := (-1 : Int32)) hx hb dX6_at_21 (by decide) ?_
    exact hL_22 (-1 : Int32) _ _ _ hf hP hS (lv_sub hl [] rfl)
  · have hf := if_f c3 hf
    refine lv_aload_n hx hb dX6_at_7 rfl (lv_at hl 0 rfl) ?_
    refine gf_X6_28 hx hb hts hown hK hP dX6_at_8 ?_
    refine lv_bipush (v := (7 : Int32)) hx hb dX6_at_11 (by decide) ?_
    refine lv_iload_n hx hb dX6_at_13 rfl (lv_at hl 1 rfl) ?_
    refine lv_imul hx hb dX6_at_14 ?_
    refine lv_iload_n hx hb dX6_at_15 rfl (lv_at hl 2 rfl) ?_
    refine lv_iadd hx hb dX6_at_16 ?_
    obtain ⟨hi4, hf⟩ := gd_so hf
    refine W_iald hx hb hK hP 7 (by decide) cm_7 (ix_in hi4) dX6_at_17 ?_
    refine lv_goto (tgt := 22) hx hb dX6_at_18 (by decide) ?_
    exact hL_22 (sg 7 (((7 : Int32) * a1) + a2).toNatClampNeg) _ _ _ hf hP hS (lv_sub hl [] rfl)
set_option maxHeartbeats 4000000 in
set_option maxRecDepth 100000 in
theorem c_X6_weekOf (l : Launch) (g : dd_G) (ad : Nat → Nat) (X : va_W) (sz : Nat) (sg : dd_S) (a1 : Int32) (r0 : Int32) (s0 : dd_S) (hf : f_X6_weekOf sg a1 = some (r0, s0)) : Met l yX6_weekOf (lw_ws yX6_weekOf cX6_weekOf 4 (some .int)) ({ frames := 3, cells := 0, slots := 0, locals := 71 } : Room) (va_Pc [.ref (ad 0), .int a1] (PreW g (WM g ad sg ++ X) sz)) (QI g (WM g ad s0 ++ X) (dd_A 9 ad X sz) r0) 0 0 (dd_A 9 ad X sz) := by
  refine Met.ofW (cc := cX6_weekOf) (maxL := 4) (ret := some .int) (by decide) rfl ?_
  intro p e s m args below meth c s₁ B hml hv
  obtain ⟨rfl, rfl, hP, hK, hD0⟩ := hv
  have hx := B.exec
  have hb := B.bytes
  have hr := B.returns
  have hts := atoms_spec (ws := (lw_ws yX6_weekOf cX6_weekOf 4 (some .int))) B.pre
  have hts : ∀ w ∈ lw_all, w.before _ s = true := fun w h => hts w (List.mem_cons_of_mem _ h)
  have hown : s.vm.findClass RX6 = some m.cls := findClass_of_methodNamed B.named
  have hlocks := B.notSynchronized
  have hD : ∀ s2 : dd_S, va_D (dd_A 9 ad X s.heap.size) (WM g ad s2 ++ X) := fun s2 => dd_D (dd_A_D hD0)
  have hS : va_S (dd_A 9 ad X s.heap.size) s.heap s.heap [] := va_S.rf
  have hL_35 : ∀ (k_4 : dd_S → Int32 → Int32 → Option (Int32 × dd_S)) (hk_4 : ∀ (sg : dd_S) (v2 : Int32) (v3 : Int32) (H : Heap) (locs : List Loc) (ls : Array Slot), k_4 sg v2 v3 = some (r0, s0) → va_P g.1 vwCl (WM g ad sg ++ X) H → va_S (dd_A 9 ad X s.heap.size) s.heap H locs → lv_has ls 4 [(0, .ref (ad 0)), (1, .int a1), (2, .int v2), (3, .int v3)] → W p l e (headSpec (lw_ws yX6_weekOf cX6_weekOf 4 (some .int)) ({ frames := 3, cells := 0, slots := 0, locals := 71 } : Room)).room s m ([.ref (ad 0), .int a1] : List Value).toArray below meth c H locs 0 0 (MQ below (QI g (WM g ad s0 ++ X) (dd_A 9 ad X s.heap.size) r0) ([.ref (ad 0), .int a1] : List Value).toArray s 0 0 (dd_A 9 ad X s.heap.size)) (F0 m 4 ls [])), ∀ (sg : dd_S) (v3 : Int32) (t0 : Int32) (t1 : Int32) (H : Heap) (locs : List Loc) (ls : Array Slot), f_X6_weekOf_35 a1 k_4 sg v3 t0 t1 = some (r0, s0) → va_P g.1 vwCl (WM g ad sg ++ X) H → va_S (dd_A 9 ad X s.heap.size) s.heap H locs → lv_has ls 4 [(0, .ref (ad 0)), (1, .int a1), (3, .int v3)] → W p l e (headSpec (lw_ws yX6_weekOf cX6_weekOf 4 (some .int)) ({ frames := 3, cells := 0, slots := 0, locals := 71 } : Room)).room s m ([.ref (ad 0), .int a1] : List Value).toArray below meth c H locs 0 0 (MQ below (QI g (WM g ad s0 ++ X) (dd_A 9 ad X s.heap.size) r0) ([.ref (ad 0), .int a1] : List Value).toArray s 0 0 (dd_A 9 ad X s.heap.size)) (F0 m 35 ls [.int t0, .int t1]) := by
    intro k_4 hk_4 sg v3 t0 t1 H locs ls hf hP hS hl
    unfold f_X6_weekOf_35 at hf
    refine lv_iadd hx hb dX6_weekOf_35 ?_
    refine lv_topi (fun x10 ex10 => ?_)
    have hf := lt_so ex10 hf
    refine lv_istore_n (lv' := [(2, .int x10), (0, .ref (ad 0)), (1, .int a1), (3, .int v3)]) hx hb dX6_weekOf_36 rfl hl (by decide) rfl (fun ls hl => ?_)
    obtain ⟨x11, ex11, hf⟩ := lt_ex hf
    refine lv_iinc (v := x11) (lv' := [(3, .int x11), (2, .int x10), (0, .ref (ad 0)), (1, .int a1)]) hx hb dX6_weekOf_37 hl (k := 3) rfl (by rw [ex11]; rfl) (by decide) rfl (fun ls hl => ?_)
    refine lv_goto (tgt := 4) hx hb dX6_weekOf_40 (by decide) ?_
    exact hk_4 sg x10 x11 _ _ _ hf hP hS (lv_sub hl [2, 3, 1, 0] rfl)
  have hL_4 : ∀ (n : Nat), ∀ (sg : dd_S) (v2 : Int32) (v3 : Int32) (H : Heap) (locs : List Loc) (ls : Array Slot), f_X6_weekOf_4 a1 n sg v2 v3 = some (r0, s0) → va_P g.1 vwCl (WM g ad sg ++ X) H → va_S (dd_A 9 ad X s.heap.size) s.heap H locs → lv_has ls 4 [(0, .ref (ad 0)), (1, .int a1), (2, .int v2), (3, .int v3)] → W p l e (headSpec (lw_ws yX6_weekOf cX6_weekOf 4 (some .int)) ({ frames := 3, cells := 0, slots := 0, locals := 71 } : Room)).room s m ([.ref (ad 0), .int a1] : List Value).toArray below meth c H locs 0 0 (MQ below (QI g (WM g ad s0 ++ X) (dd_A 9 ad X s.heap.size) r0) ([.ref (ad 0), .int a1] : List Value).toArray s 0 0 (dd_A 9 ad X s.heap.size)) (F0 m 4 ls []) := by
    intro n
    induction n with
    | zero =>
      intro sg v2 v3 H locs ls hf
      rw [f_X6_weekOf_4] at hf
      cases hf
    | succ n ih =>
      intro sg v2 v3 H locs ls hf hP hS hl
      rw [f_X6_weekOf_4] at hf
      refine lv_iload_n hx hb dX6_weekOf_4 rfl (lv_at hl 3 rfl) ?_
      refine lv_bipush (v := (7 : Int32)) hx hb dX6_weekOf_5 (by decide) ?_
      refine lv_icmp_ge (tgt := 43) hx hb dX6_weekOf_7 (by decide) (fun c1 => ?_) (fun c1 => ?_)
      · have hf := if_t c1 hf
        refine lv_iload_n hx hb dX6_weekOf_43 rfl (lv_at hl 2 rfl) ?_
        exact W.iret (v := v2) hx hb hr (fun t ht hW => ⟨⟨v2, (), rfl, (so2 hf).1, P_at2 (so2 hf).2 ht hP⟩, hS.F ht⟩) hS.2.2 dX6_weekOf_44
      · have hf := if_f c1 hf
        refine lv_iload_n hx hb dX6_weekOf_10 rfl (lv_at hl 2 rfl) ?_
        refine lv_aload_n hx hb dX6_weekOf_11 rfl (lv_at hl 0 rfl) ?_
        refine lv_iload_n hx hb dX6_weekOf_12 rfl (lv_at hl 1 rfl) ?_
        refine lv_iload_n hx hb dX6_weekOf_13 rfl (lv_at hl 3 rfl) ?_
        obtain ⟨r3, q2, hf⟩ := bd_so hf
        refine cl_i (va_runV (As := [.int a1, .int v3]) (rest := [.int v2]) ⟨hx, hb, hml, hown, hts⟩ (c_X6_at l g ad X _ sg a1 v3 r3 q2) (cwV 2 hts gl_X6_160 rfl rfl rfl yd_X6_at ⟨Nat.le_of_ble_eq_true rfl, Nat.le_of_ble_eq_true rfl⟩) (preV_of hK hP (hD sg) (dd_at (by decide) cm_0) rfl) rfl rfl hl.1 rfl (lv_room (Nat.le_of_ble_eq_true rfl)) dX6_weekOf_14 ⟨Nat.le_of_ble_eq_true rfl, Nat.le_of_ble_eq_true rfl⟩) hS (fun q h => dd_A_mono hS.1 h) (fun q h => dd_A_mono hS.1 h) (fun H locs hP hS => ?_)
        refine lv_iconst (v := (-1 : Int32)) hx hb dX6_weekOf_17 (by decide) ?_
        refine lv_icmp_ne (tgt := 25) hx hb dX6_weekOf_18 (by decide) (fun c4 => ?_) (fun c4 => ?_)
        · have hf := if_f c4 hf
          refine lv_aload_n hx hb dX6_weekOf_25 rfl (lv_at hl 0 rfl) ?_
          refine lv_aload_n hx hb dX6_weekOf_26 rfl (lv_at hl 0 rfl) ?_
          refine lv_iload_n hx hb dX6_weekOf_27 rfl (lv_at hl 1 rfl) ?_
          refine lv_iload_n hx hb dX6_weekOf_28 rfl (lv_at hl 3 rfl) ?_
          obtain ⟨r6, q5, hf⟩ := bd_so hf
          refine cl_i (va_runV (As := [.int a1, .int v3]) (rest := [.ref (ad 0), .int v2]) ⟨hx, hb, hml, hown, hts⟩ (c_X6_at l g ad X _ sg a1 v3 r6 q5) (cwV 2 hts gl_X6_160 rfl rfl rfl yd_X6_at ⟨Nat.le_of_ble_eq_true rfl, Nat.le_of_ble_eq_true rfl⟩) (preV_of hK hP (hD sg) (dd_at (by decide) cm_0) rfl) rfl rfl hl.1 rfl (lv_room (Nat.le_of_ble_eq_true rfl)) dX6_weekOf_29 ⟨Nat.le_of_ble_eq_true rfl, Nat.le_of_ble_eq_true rfl⟩) hS (fun q h => dd_A_mono hS.1 h) (fun q h => dd_A_mono hS.1 h) (fun H locs hP hS => ?_)
          obtain ⟨r9, sg8, q7, hf⟩ := bd2_so hf
          refine cl_i (va_runV (As := [.int r6]) (rest := [.int v2]) ⟨hx, hb, hml, hown, hts⟩ (c_X6_payOf l g ad X _ sg r6 r9 sg8 q7) (cwV 1 hts gl_X6_135 rfl rfl rfl yd_X6_payOf ⟨Nat.le_of_ble_eq_true rfl, Nat.le_of_ble_eq_true rfl⟩) (preV_of hK hP (hD sg) (dd_at (by decide) cm_0) rfl) rfl rfl hl.1 rfl (lv_room (Nat.le_of_ble_eq_true rfl)) dX6_weekOf_32 ⟨Nat.le_of_ble_eq_true rfl, Nat.le_of_ble_eq_true rfl⟩) hS (fun q h => dd_A_mono hS.1 h) (fun q h => dd_A_mono hS.1 h) (fun H locs hP hS => ?_)
          exact hL_35 (fun zs z0 z1 => f_X6_weekOf_4 a1 n zs z0 z1) ih sg8 v3 r9 v2 _ _ _ hf hP hS (lv_sub hl [0, 1, 3] rfl)
        · have hf := if_t c4 hf
          refine lv_iconst (v := (0 : Int32)) hx hb dX6_weekOf_21 (by decide) ?_
          refine lv_goto (tgt := 35) hx hb dX6_weekOf_22 (by decide) ?_
          exact hL_35 (fun zs z0 z1 => f_X6_weekOf_4 a1 n zs z0 z1) ih sg v3 (0 : Int32) v2 _ _ _ hf hP hS (lv_sub hl [0, 1, 3] rfl)
  unfold f_X6_weekOf at hf
  have hl := lv_entry ([.ref (ad 0), .int a1]) (n := 4) (Nat.le_of_ble_eq_true rfl)
  rw [lg_entry_eq]
  generalize (lg_sl ([.ref (ad 0), .int a1]) ++ List.replicate (4 - (lg_sl ([.ref (ad 0), .int a1])).length) Slot.unset).toArray = ls at hl ⊢
  have hl : lv_has ls 4 [(0, .ref (ad 0)), (1, .int a1)] := hl
  refine lv_iconst (v := (0 : Int32)) hx hb dX6_weekOf_0 (by decide) ?_
  refine lv_istore_n (lv' := [(2, .int (0 : Int32)), (0, .ref (ad 0)), (1, .int a1)]) hx hb dX6_weekOf_1 rfl hl (by decide) rfl (fun ls hl => ?_)
  refine lv_iconst (v := (0 : Int32)) hx hb dX6_weekOf_2 (by decide) ?_
  refine lv_istore_n (lv' := [(3, .int (0 : Int32)), (2, .int (0 : Int32)), (0, .ref (ad 0)), (1, .int a1)]) hx hb dX6_weekOf_3 rfl hl (by decide) rfl (fun ls hl => ?_)
  exact hL_4 64 sg (0 : Int32) (0 : Int32) _ _ _ hf hP hS (lv_sub hl [2, 3, 1, 0] rfl)
set_option maxHeartbeats 4000000 in
set_option maxRecDepth 100000 in
theorem c_X6_isTaken (l : Launch) (g : dd_G) (ad : Nat → Nat) (X : va_W) (sz : Nat) (sg : dd_S) (a1 : Int32) (a2 : Int32) (r0 : Int32) (hf : f_X6_isTaken sg a1 a2 = some (r0)) : Met l yX6_isTaken (lw_ws yX6_isTaken cX6_isTaken 5 (some .boolean)) ({ frames := 3, cells := 0, slots := 0, locals := 64 } : Room) (va_Pc [.ref (ad 0), .int a1, .int a2] (PreW g (WM g ad sg ++ X) sz)) (QI g (WM g ad sg ++ X) (dd_A 9 ad X sz) r0) 0 0 (dd_A 9 ad X sz) := by
  refine Met.ofW (cc := cX6_isTaken) (maxL := 5) (ret := some .boolean) (by decide) rfl ?_
  intro p e s m args below meth c s₁ B hml hv
  obtain ⟨rfl, rfl, hP, hK, hD0⟩ := hv
  have hx := B.exec
  have hb := B.bytes
  have hr := B.returns
  have hts := atoms_spec (ws := (lw_ws yX6_isTaken cX6_isTaken 5 (some .boolean))) B.pre
  have hts : ∀ w ∈ lw_all, w.before _ s = true := fun w h => hts w (List.mem_cons_of_mem _ h)
  have hown : s.vm.findClass RX6 = some m.cls := findClass_of_methodNamed B.named
  have hlocks := B.notSynchronized
  have hD : ∀ s2 : dd_S, va_D (dd_A 9 ad X s.heap.size) (WM g ad s2 ++ X) := fun s2 => dd_D (dd_A_D hD0)
  have hS : va_S (dd_A 9 ad X s.heap.size) s.heap s.heap [] := va_S.rf
  have hL_34 : ∀ (k_5 : Int32 → Int32 → Option (Int32)) (hk_5 : ∀ (v3 : Int32) (v4 : Int32) (H : Heap) (locs : List Loc) (ls : Array Slot), k_5 v3 v4 = some (r0) → va_P g.1 vwCl (WM g ad sg ++ X) H → va_S (dd_A 9 ad X s.heap.size) s.heap H locs → lv_has ls 5 [(0, .ref (ad 0)), (1, .int a1), (2, .int a2), (3, .int v3), (4, .int v4)] → W p l e (headSpec (lw_ws yX6_isTaken cX6_isTaken 5 (some .boolean)) ({ frames := 3, cells := 0, slots := 0, locals := 64 } : Room)).room s m ([.ref (ad 0), .int a1, .int a2] : List Value).toArray below meth c H locs 0 0 (MQ below (QI g (WM g ad sg ++ X) (dd_A 9 ad X s.heap.size) r0) ([.ref (ad 0), .int a1, .int a2] : List Value).toArray s 0 0 (dd_A 9 ad X s.heap.size)) (F0 m 5 ls [])), ∀ (v4 : Int32) (t0 : Int32) (H : Heap) (locs : List Loc) (ls : Array Slot), f_X6_isTaken_34 sg a1 a2 k_5 v4 t0 = some (r0) → va_P g.1 vwCl (WM g ad sg ++ X) H → va_S (dd_A 9 ad X s.heap.size) s.heap H locs → lv_has ls 5 [(0, .ref (ad 0)), (1, .int a1), (2, .int a2), (4, .int v4)] → W p l e (headSpec (lw_ws yX6_isTaken cX6_isTaken 5 (some .boolean)) ({ frames := 3, cells := 0, slots := 0, locals := 64 } : Room)).room s m ([.ref (ad 0), .int a1, .int a2] : List Value).toArray below meth c H locs 0 0 (MQ below (QI g (WM g ad sg ++ X) (dd_A 9 ad X s.heap.size) r0) ([.ref (ad 0), .int a1, .int a2] : List Value).toArray s 0 0 (dd_A 9 ad X s.heap.size)) (F0 m 34 ls [.int t0]) := by
    intro k_5 hk_5 v4 t0 H locs ls hf hP hS hl
    unfold f_X6_isTaken_34 at hf
    refine lv_istore_n (lv' := [(3, .int t0), (0, .ref (ad 0)), (1, .int a1), (2, .int a2), (4, .int v4)]) hx hb dX6_isTaken_34 rfl hl (by decide) rfl (fun ls hl => ?_)
    obtain ⟨x7, ex7, hf⟩ := lt_ex hf
    refine lv_iinc (v := x7) (lv' := [(4, .int x7), (3, .int t0), (0, .ref (ad 0)), (1, .int a1), (2, .int a2)]) hx hb dX6_isTaken_35 hl (k := 4) rfl (by rw [ex7]; rfl) (by decide) rfl (fun ls hl => ?_)
    refine lv_goto (tgt := 5) hx hb dX6_isTaken_38 (by decide) ?_
    exact hk_5 t0 x7 _ _ _ hf hP hS (lv_sub hl [2, 3, 4, 1, 0] rfl)
  have hL_29 : ∀ (k_5 : Int32 → Int32 → Option (Int32)) (hk_5 : ∀ (v3 : Int32) (v4 : Int32) (H : Heap) (locs : List Loc) (ls : Array Slot), k_5 v3 v4 = some (r0) → va_P g.1 vwCl (WM g ad sg ++ X) H → va_S (dd_A 9 ad X s.heap.size) s.heap H locs → lv_has ls 5 [(0, .ref (ad 0)), (1, .int a1), (2, .int a2), (3, .int v3), (4, .int v4)] → W p l e (headSpec (lw_ws yX6_isTaken cX6_isTaken 5 (some .boolean)) ({ frames := 3, cells := 0, slots := 0, locals := 64 } : Room)).room s m ([.ref (ad 0), .int a1, .int a2] : List Value).toArray below meth c H locs 0 0 (MQ below (QI g (WM g ad sg ++ X) (dd_A 9 ad X s.heap.size) r0) ([.ref (ad 0), .int a1, .int a2] : List Value).toArray s 0 0 (dd_A 9 ad X s.heap.size)) (F0 m 5 ls [])), ∀ (v4 : Int32) (H : Heap) (locs : List Loc) (ls : Array Slot), f_X6_isTaken_29 sg a1 a2 k_5 v4 = some (r0) → va_P g.1 vwCl (WM g ad sg ++ X) H → va_S (dd_A 9 ad X s.heap.size) s.heap H locs → lv_has ls 5 [(0, .ref (ad 0)), (1, .int a1), (2, .int a2), (4, .int v4)] → W p l e (headSpec (lw_ws yX6_isTaken cX6_isTaken 5 (some .boolean)) ({ frames := 3, cells := 0, slots := 0, locals := 64 } : Room)).room s m ([.ref (ad 0), .int a1, .int a2] : List Value).toArray below meth c H locs 0 0 (MQ below (QI g (WM g ad sg ++ X) (dd_A 9 ad X s.heap.size) r0) ([.ref (ad 0), .int a1, .int a2] : List Value).toArray s 0 0 (dd_A 9 ad X s.heap.size)) (F0 m 29 ls []) := by
    intro k_5 hk_5 v4 H locs ls hf hP hS hl
    unfold f_X6_isTaken_29 at hf
    refine lv_iconst (v := (1 : Int32)) hx hb dX6_isTaken_29 (by decide) ?_
    refine lv_goto (tgt := 34) hx hb dX6_isTaken_30 (by decide) ?_
    exact hL_34 k_5 hk_5 v4 (1 : Int32) _ _ _ hf hP hS (lv_sub hl [0, 1, 2, 3] rfl)
  have hL_5 : ∀ (n : Nat), ∀ (v3 : Int32) (v4 : Int32) (H : Heap) (locs : List Loc) (ls : Array Slot), f_X6_isTaken_5 sg a1 a2 n v3 v4 = some (r0) → va_P g.1 vwCl (WM g ad sg ++ X) H → va_S (dd_A 9 ad X s.heap.size) s.heap H locs → lv_has ls 5 [(0, .ref (ad 0)), (1, .int a1), (2, .int a2), (3, .int v3), (4, .int v4)] → W p l e (headSpec (lw_ws yX6_isTaken cX6_isTaken 5 (some .boolean)) ({ frames := 3, cells := 0, slots := 0, locals := 64 } : Room)).room s m ([.ref (ad 0), .int a1, .int a2] : List Value).toArray below meth c H locs 0 0 (MQ below (QI g (WM g ad sg ++ X) (dd_A 9 ad X s.heap.size) r0) ([.ref (ad 0), .int a1, .int a2] : List Value).toArray s 0 0 (dd_A 9 ad X s.heap.size)) (F0 m 5 ls []) := by
    intro n
    induction n with
    | zero =>
      intro v3 v4 H locs ls hf
      rw [f_X6_isTaken_5] at hf
      cases hf
    | succ n ih =>
      intro v3 v4 H locs ls hf hP hS hl
      rw [f_X6_isTaken_5] at hf
      refine lv_iload hx hb dX6_isTaken_5 (lv_at hl 4 rfl) ?_
      refine lv_aload_n hx hb dX6_isTaken_7 rfl (lv_at hl 0 rfl) ?_
      refine gf_X6_74 hx hb hts hown hK hP dX6_isTaken_8 ?_
      refine lv_icmp_ge (tgt := 41) hx hb dX6_isTaken_11 (by decide) (fun c1 => ?_) (fun c1 => ?_)
      · have hf := if_t c1 hf
        refine lv_iload_n hx hb dX6_isTaken_41 rfl (lv_at hl 3 rfl) ?_
        obtain ⟨hz2, hf⟩ := gd_so hf
        exact W.zret (v := v3) hx hb hr (bz_z hz2) (fun t ht hW => ⟨⟨v3, (), rfl, so1 hf, P_at ht hP⟩, hS.F ht⟩) hS.2.2 dX6_isTaken_42
      · have hf := if_f c1 hf
        refine lv_iload_n hx hb dX6_isTaken_14 rfl (lv_at hl 3 rfl) ?_
        refine lv_if_ne (tgt := 29) hx hb dX6_isTaken_15 (by decide) (fun c3 => ?_) (fun c3 => ?_)
        · have hf := if_f c3 hf
          exact hL_29 (fun z0 z1 => f_X6_isTaken_5 sg a1 a2 n z0 z1) ih v4 _ _ _ hf hP hS (lv_sub hl [0, 1, 2, 4] rfl)
        · have hf := if_t c3 hf
          refine lv_aload_n hx hb dX6_isTaken_18 rfl (lv_at hl 0 rfl) ?_
          refine lv_iload hx hb dX6_isTaken_19 (lv_at hl 4 rfl) ?_
          refine lv_iload_n hx hb dX6_isTaken_21 rfl (lv_at hl 1 rfl) ?_
          obtain ⟨r5, q4, hf⟩ := bd_so hf
          refine cl_i (va_runV (As := [.int v4, .int a1]) (rest := []) ⟨hx, hb, hml, hown, hts⟩ (c_X6_at l g ad X _ sg v4 a1 r5 q4) (cwV 2 hts gl_X6_160 rfl rfl rfl yd_X6_at ⟨Nat.le_of_ble_eq_true rfl, Nat.le_of_ble_eq_true rfl⟩) (preV_of hK hP (hD sg) (dd_at (by decide) cm_0) rfl) rfl rfl hl.1 rfl (lv_room (Nat.le_of_ble_eq_true rfl)) dX6_isTaken_22 ⟨Nat.le_of_ble_eq_true rfl, Nat.le_of_ble_eq_true rfl⟩) hS (fun q h => dd_A_mono hS.1 h) (fun q h => dd_A_mono hS.1 h) (fun H locs hP hS => ?_)
          refine lv_iload_n hx hb dX6_isTaken_25 rfl (lv_at hl 2 rfl) ?_
          refine lv_icmp_ne (tgt := 33) hx hb dX6_isTaken_26 (by decide) (fun c6 => ?_) (fun c6 => ?_)
          · have hf := if_f c6 hf
            refine lv_iconst (v := (0 : Int32)) hx hb dX6_isTaken_33 (by decide) ?_
            exact hL_34 (fun z0 z1 => f_X6_isTaken_5 sg a1 a2 n z0 z1) ih v4 (0 : Int32) _ _ _ hf hP hS (lv_sub hl [0, 1, 2, 4] rfl)
          · have hf := if_t c6 hf
            exact hL_29 (fun z0 z1 => f_X6_isTaken_5 sg a1 a2 n z0 z1) ih v4 _ _ _ hf hP hS (lv_sub hl [0, 1, 2, 4] rfl)
  unfold f_X6_isTaken at hf
  have hl := lv_entry ([.ref (ad 0), .int a1, .int a2]) (n := 5) (Nat.le_of_ble_eq_true rfl)
  rw [lg_entry_eq]
  generalize (lg_sl ([.ref (ad 0), .int a1, .int a2]) ++ List.replicate (5 - (lg_sl ([.ref (ad 0), .int a1, .int a2])).length) Slot.unset).toArray = ls at hl ⊢
  have hl : lv_has ls 5 [(0, .ref (ad 0)), (1, .int a1), (2, .int a2)] := hl
  refine lv_iconst (v := (0 : Int32)) hx hb dX6_isTaken_0 (by decide) ?_
  refine lv_istore_n (lv' := [(3, .int (0 : Int32)), (0, .ref (ad 0)), (1, .int a1), (2, .int a2)]) hx hb dX6_isTaken_1 rfl hl (by decide) rfl (fun ls hl => ?_)
  refine lv_iconst (v := (0 : Int32)) hx hb dX6_isTaken_2 (by decide) ?_
  refine lv_istore (lv' := [(4, .int (0 : Int32)), (3, .int (0 : Int32)), (0, .ref (ad 0)), (1, .int a1), (2, .int a2)]) hx hb dX6_isTaken_3 hl (by decide) rfl (fun ls hl => ?_)
  exact hL_5 64 (0 : Int32) (0 : Int32) _ _ _ hf hP hS (lv_sub hl [2, 3, 4, 1, 0] rfl)
set_option maxHeartbeats 4000000 in
set_option maxRecDepth 100000 in
theorem c_X6_longest (l : Launch) (g : dd_G) (ad : Nat → Nat) (X : va_W) (sz : Nat) (sg : dd_S) (a1 : Int32) (a2 : Int32) (r0 : Int32) (hf : f_X6_longest sg a1 a2 = some (r0)) : Met l yX6_longest (lw_ws yX6_longest cX6_longest 6 (some .int)) ({ frames := 3, cells := 0, slots := 0, locals := 64 } : Room) (va_Pc [.ref (ad 0), .int a1, .int a2] (PreW g (WM g ad sg ++ X) sz)) (QI g (WM g ad sg ++ X) (dd_A 9 ad X sz) r0) 0 0 (dd_A 9 ad X sz) := by
  refine Met.ofW (cc := cX6_longest) (maxL := 6) (ret := some .int) (by decide) rfl ?_
  intro p e s m args below meth c s₁ B hml hv
  obtain ⟨rfl, rfl, hP, hK, hD0⟩ := hv
  have hx := B.exec
  have hb := B.bytes
  have hr := B.returns
  have hts := atoms_spec (ws := (lw_ws yX6_longest cX6_longest 6 (some .int))) B.pre
  have hts : ∀ w ∈ lw_all, w.before _ s = true := fun w h => hts w (List.mem_cons_of_mem _ h)
  have hown : s.vm.findClass RX6 = some m.cls := findClass_of_methodNamed B.named
  have hlocks := B.notSynchronized
  have hD : ∀ s2 : dd_S, va_D (dd_A 9 ad X s.heap.size) (WM g ad s2 ++ X) := fun s2 => dd_D (dd_A_D hD0)
  have hS : va_S (dd_A 9 ad X s.heap.size) s.heap s.heap [] := va_S.rf
  have hL_40 : ∀ (k_8 : Int32 → Int32 → Int32 → Option (Int32)) (hk_8 : ∀ (v3 : Int32) (v4 : Int32) (v5 : Int32) (H : Heap) (locs : List Loc) (ls : Array Slot), k_8 v3 v4 v5 = some (r0) → va_P g.1 vwCl (WM g ad sg ++ X) H → va_S (dd_A 9 ad X s.heap.size) s.heap H locs → lv_has ls 6 [(0, .ref (ad 0)), (1, .int a1), (2, .int a2), (3, .int v3), (4, .int v4), (5, .int v5)] → W p l e (headSpec (lw_ws yX6_longest cX6_longest 6 (some .int)) ({ frames := 3, cells := 0, slots := 0, locals := 64 } : Room)).room s m ([.ref (ad 0), .int a1, .int a2] : List Value).toArray below meth c H locs 0 0 (MQ below (QI g (WM g ad sg ++ X) (dd_A 9 ad X s.heap.size) r0) ([.ref (ad 0), .int a1, .int a2] : List Value).toArray s 0 0 (dd_A 9 ad X s.heap.size)) (F0 m 8 ls [])), ∀ (v3 : Int32) (v5 : Int32) (t0 : Int32) (H : Heap) (locs : List Loc) (ls : Array Slot), f_X6_longest_40 sg a1 a2 k_8 v3 v5 t0 = some (r0) → va_P g.1 vwCl (WM g ad sg ++ X) H → va_S (dd_A 9 ad X s.heap.size) s.heap H locs → lv_has ls 6 [(0, .ref (ad 0)), (1, .int a1), (2, .int a2), (3, .int v3), (5, .int v5)] → W p l e (headSpec (lw_ws yX6_longest cX6_longest 6 (some .int)) ({ frames := 3, cells := 0, slots := 0, locals := 64 } : Room)).room s m ([.ref (ad 0), .int a1, .int a2] : List Value).toArray below meth c H locs 0 0 (MQ below (QI g (WM g ad sg ++ X) (dd_A 9 ad X s.heap.size) r0) ([.ref (ad 0), .int a1, .int a2] : List Value).toArray s 0 0 (dd_A 9 ad X s.heap.size)) (F0 m 40 ls [.int t0]) := by
    intro k_8 hk_8 v3 v5 t0 H locs ls hf hP hS hl
    unfold f_X6_longest_40 at hf
    refine lv_istore (lv' := [(4, .int t0), (0, .ref (ad 0)), (1, .int a1), (2, .int a2), (3, .int v3), (5, .int v5)]) hx hb dX6_longest_40 hl (by decide) rfl (fun ls hl => ?_)
    refine lv_iload_n hx hb dX6_longest_42 rfl (lv_at hl 4 rfl) ?_
    refine lv_iload hx hb dX6_longest_43 (lv_at hl 0 rfl) ?_
    refine va_mmax hx hb (hml.trans hl.1.symm) hown (hts _ qw_300) (hts _ qw_301) (hts _ qw_302) (hts _ qw_303) (Nat.le_of_ble_eq_true rfl) (Nat.le_of_ble_eq_true rfl) (Nat.le_of_ble_eq_true rfl) (Nat.le_of_ble_eq_true rfl) dX6_longest_45 ?_
    refine lv_topi (fun x6 ex6 => ?_)
    have hf := lt_so ex6 hf
    refine lv_istore_n (lv' := [(3, .int x6), (4, .int t0), (0, .ref (ad 0)), (1, .int a1), (2, .int a2), (5, .int v5)]) hx hb dX6_longest_48 rfl hl (by decide) rfl (fun ls hl => ?_)
    obtain ⟨x7, ex7, hf⟩ := lt_ex hf
    refine lv_iinc (v := x7) (lv' := [(5, .int x7), (3, .int x6), (4, .int t0), (0, .ref (ad 0)), (1, .int a1), (2, .int a2)]) hx hb dX6_longest_49 hl (k := 5) rfl (by rw [ex7]; rfl) (by decide) rfl (fun ls hl => ?_)
    refine lv_goto (tgt := 8) hx hb dX6_longest_52 (by decide) ?_
    exact hk_8 x6 t0 x7 _ _ _ hf hP hS (lv_sub hl [3, 4, 5, 1, 2, 0] rfl)
  have hL_32 : ∀ (k_8 : Int32 → Int32 → Int32 → Option (Int32)) (hk_8 : ∀ (v3 : Int32) (v4 : Int32) (v5 : Int32) (H : Heap) (locs : List Loc) (ls : Array Slot), k_8 v3 v4 v5 = some (r0) → va_P g.1 vwCl (WM g ad sg ++ X) H → va_S (dd_A 9 ad X s.heap.size) s.heap H locs → lv_has ls 6 [(0, .ref (ad 0)), (1, .int a1), (2, .int a2), (3, .int v3), (4, .int v4), (5, .int v5)] → W p l e (headSpec (lw_ws yX6_longest cX6_longest 6 (some .int)) ({ frames := 3, cells := 0, slots := 0, locals := 64 } : Room)).room s m ([.ref (ad 0), .int a1, .int a2] : List Value).toArray below meth c H locs 0 0 (MQ below (QI g (WM g ad sg ++ X) (dd_A 9 ad X s.heap.size) r0) ([.ref (ad 0), .int a1, .int a2] : List Value).toArray s 0 0 (dd_A 9 ad X s.heap.size)) (F0 m 8 ls [])), ∀ (v3 : Int32) (v4 : Int32) (v5 : Int32) (H : Heap) (locs : List Loc) (ls : Array Slot), f_X6_longest_32 sg a1 a2 k_8 v3 v4 v5 = some (r0) → va_P g.1 vwCl (WM g ad sg ++ X) H → va_S (dd_A 9 ad X s.heap.size) s.heap H locs → lv_has ls 6 [(0, .ref (ad 0)), (1, .int a1), (2, .int a2), (3, .int v3), (4, .int v4), (5, .int v5)] → W p l e (headSpec (lw_ws yX6_longest cX6_longest 6 (some .int)) ({ frames := 3, cells := 0, slots := 0, locals := 64 } : Room)).room s m ([.ref (ad 0), .int a1, .int a2] : List Value).toArray below meth c H locs 0 0 (MQ below (QI g (WM g ad sg ++ X) (dd_A 9 ad X s.heap.size) r0) ([.ref (ad 0), .int a1, .int a2] : List Value).toArray s 0 0 (dd_A 9 ad X s.heap.size)) (F0 m 32 ls []) := by
    intro k_8 hk_8 v3 v4 v5 H locs ls hf hP hS hl
    unfold f_X6_longest_32 at hf
    refine lv_iload hx hb dX6_longest_32 (lv_at hl 4 rfl) ?_
    refine lv_iconst (v := (1 : Int32)) hx hb dX6_longest_34 (by decide) ?_
    refine lv_iadd hx hb dX6_longest_35 ?_
    refine lv_goto (tgt := 40) hx hb dX6_longest_36 (by decide) ?_
    exact hL_40 k_8 hk_8 v3 v5 (v4 + (1 : Int32)) _ _ _ hf hP hS (lv_sub hl [0, 1, 2, 3, 5] rfl)
  have hL_8 : ∀ (n : Nat), ∀ (v3 : Int32) (v4 : Int32) (v5 : Int32) (H : Heap) (locs : List Loc) (ls : Array Slot), f_X6_longest_8 sg a1 a2 n v3 v4 v5 = some (r0) → va_P g.1 vwCl (WM g ad sg ++ X) H → va_S (dd_A 9 ad X s.heap.size) s.heap H locs → lv_has ls 6 [(0, .ref (ad 0)), (1, .int a1), (2, .int a2), (3, .int v3), (4, .int v4), (5, .int v5)] → W p l e (headSpec (lw_ws yX6_longest cX6_longest 6 (some .int)) ({ frames := 3, cells := 0, slots := 0, locals := 64 } : Room)).room s m ([.ref (ad 0), .int a1, .int a2] : List Value).toArray below meth c H locs 0 0 (MQ below (QI g (WM g ad sg ++ X) (dd_A 9 ad X s.heap.size) r0) ([.ref (ad 0), .int a1, .int a2] : List Value).toArray s 0 0 (dd_A 9 ad X s.heap.size)) (F0 m 8 ls []) := by
    intro n
    induction n with
    | zero =>
      intro v3 v4 v5 H locs ls hf
      rw [f_X6_longest_8] at hf
      cases hf
    | succ n ih =>
      intro v3 v4 v5 H locs ls hf hP hS hl
      rw [f_X6_longest_8] at hf
      refine lv_iload hx hb dX6_longest_8 (lv_at hl 5 rfl) ?_
      refine lv_bipush (v := (7 : Int32)) hx hb dX6_longest_10 (by decide) ?_
      refine lv_icmp_ge (tgt := 55) hx hb dX6_longest_12 (by decide) (fun c1 => ?_) (fun c1 => ?_)
      · have hf := if_t c1 hf
        refine lv_iload_n hx hb dX6_longest_55 rfl (lv_at hl 3 rfl) ?_
        exact W.iret (v := v3) hx hb hr (fun t ht hW => ⟨⟨v3, (), rfl, so1 hf, P_at ht hP⟩, hS.F ht⟩) hS.2.2 dX6_longest_56
      · have hf := if_f c1 hf
        refine lv_iload hx hb dX6_longest_15 (lv_at hl 5 rfl) ?_
        refine lv_iload_n hx hb dX6_longest_17 rfl (lv_at hl 2 rfl) ?_
        refine lv_icmp_eq (tgt := 32) hx hb dX6_longest_18 (by decide) (fun c2 => ?_) (fun c2 => ?_)
        · have hf := if_t c2 hf
          exact hL_32 (fun z0 z1 z2 => f_X6_longest_8 sg a1 a2 n z0 z1 z2) ih v3 v4 v5 _ _ _ hf hP hS (lv_sub hl [0, 1, 2, 3, 4, 5] rfl)
        · have hf := if_f c2 hf
          refine lv_aload_n hx hb dX6_longest_21 rfl (lv_at hl 0 rfl) ?_
          refine lv_iload_n hx hb dX6_longest_22 rfl (lv_at hl 1 rfl) ?_
          refine lv_iload hx hb dX6_longest_23 (lv_at hl 5 rfl) ?_
          obtain ⟨r4, q3, hf⟩ := bd_so hf
          refine cl_i (va_runV (As := [.int a1, .int v5]) (rest := []) ⟨hx, hb, hml, hown, hts⟩ (c_X6_at l g ad X _ sg a1 v5 r4 q3) (cwV 2 hts gl_X6_160 rfl rfl rfl yd_X6_at ⟨Nat.le_of_ble_eq_true rfl, Nat.le_of_ble_eq_true rfl⟩) (preV_of hK hP (hD sg) (dd_at (by decide) cm_0) rfl) rfl rfl hl.1 rfl (lv_room (Nat.le_of_ble_eq_true rfl)) dX6_longest_25 ⟨Nat.le_of_ble_eq_true rfl, Nat.le_of_ble_eq_true rfl⟩) hS (fun q h => dd_A_mono hS.1 h) (fun q h => dd_A_mono hS.1 h) (fun H locs hP hS => ?_)
          refine lv_iconst (v := (-1 : Int32)) hx hb dX6_longest_28 (by decide) ?_
          refine lv_icmp_eq (tgt := 39) hx hb dX6_longest_29 (by decide) (fun c5 => ?_) (fun c5 => ?_)
          · have hf := if_t c5 hf
            refine lv_iconst (v := (0 : Int32)) hx hb dX6_longest_39 (by decide) ?_
            exact hL_40 (fun z0 z1 z2 => f_X6_longest_8 sg a1 a2 n z0 z1 z2) ih v3 v5 (0 : Int32) _ _ _ hf hP hS (lv_sub hl [0, 1, 2, 3, 5] rfl)
          · have hf := if_f c5 hf
            exact hL_32 (fun z0 z1 z2 => f_X6_longest_8 sg a1 a2 n z0 z1 z2) ih v3 v4 v5 _ _ _ hf hP hS (lv_sub hl [0, 1, 2, 3, 4, 5] rfl)
  unfold f_X6_longest at hf
  have hl := lv_entry ([.ref (ad 0), .int a1, .int a2]) (n := 6) (Nat.le_of_ble_eq_true rfl)
  rw [lg_entry_eq]
  generalize (lg_sl ([.ref (ad 0), .int a1, .int a2]) ++ List.replicate (6 - (lg_sl ([.ref (ad 0), .int a1, .int a2])).length) Slot.unset).toArray = ls at hl ⊢
  have hl : lv_has ls 6 [(0, .ref (ad 0)), (1, .int a1), (2, .int a2)] := hl
  refine lv_iconst (v := (0 : Int32)) hx hb dX6_longest_0 (by decide) ?_
  refine lv_istore_n (lv' := [(3, .int (0 : Int32)), (0, .ref (ad 0)), (1, .int a1), (2, .int a2)]) hx hb dX6_longest_1 rfl hl (by decide) rfl (fun ls hl => ?_)
  refine lv_iconst (v := (0 : Int32)) hx hb dX6_longest_2 (by decide) ?_
  refine lv_istore (lv' := [(4, .int (0 : Int32)), (3, .int (0 : Int32)), (0, .ref (ad 0)), (1, .int a1), (2, .int a2)]) hx hb dX6_longest_3 hl (by decide) rfl (fun ls hl => ?_)
  refine lv_iconst (v := (0 : Int32)) hx hb dX6_longest_5 (by decide) ?_
  refine lv_istore (lv' := [(5, .int (0 : Int32)), (4, .int (0 : Int32)), (3, .int (0 : Int32)), (0, .ref (ad 0)), (1, .int a1), (2, .int a2)]) hx hb dX6_longest_6 hl (by decide) rfl (fun ls hl => ?_)
  exact hL_8 64 (0 : Int32) (0 : Int32) (0 : Int32) _ _ _ hf hP hS (lv_sub hl [3, 4, 5, 2, 1, 0] rfl)
set_option maxHeartbeats 4000000 in
set_option maxRecDepth 100000 in
theorem c_X6_between (l : Launch) (g : dd_G) (ad : Nat → Nat) (X : va_W) (sz : Nat) (sg : dd_S) (a1 : Int32) (a2 : Int32) (r0 : Int32) (s0 : dd_S) (hf : f_X6_between sg a1 a2 = some (r0, s0)) : Met l yX6_between (lw_ws yX6_between cX6_between 4 (some .int)) ({ frames := 2, cells := 0, slots := 0, locals := 50 } : Room) (va_Pc [.ref (ad 0), .int a1, .int a2] (PreW g (WM g ad sg ++ X) sz)) (QI g (WM g ad s0 ++ X) (dd_A 9 ad X sz) r0) 0 0 (dd_A 9 ad X sz) := by
  refine Met.ofW (cc := cX6_between) (maxL := 4) (ret := some .int) (by decide) rfl ?_
  intro p e s m args below meth c s₁ B hml hv
  obtain ⟨rfl, rfl, hP, hK, hD0⟩ := hv
  have hx := B.exec
  have hb := B.bytes
  have hr := B.returns
  have hts := atoms_spec (ws := (lw_ws yX6_between cX6_between 4 (some .int))) B.pre
  have hts : ∀ w ∈ lw_all, w.before _ s = true := fun w h => hts w (List.mem_cons_of_mem _ h)
  have hown : s.vm.findClass RX6 = some m.cls := findClass_of_methodNamed B.named
  have hlocks := B.notSynchronized
  have hD : ∀ s2 : dd_S, va_D (dd_A 9 ad X s.heap.size) (WM g ad s2 ++ X) := fun s2 => dd_D (dd_A_D hD0)
  have hS : va_S (dd_A 9 ad X s.heap.size) s.heap s.heap [] := va_S.rf
  unfold f_X6_between at hf
  have hl := lv_entry ([.ref (ad 0), .int a1, .int a2]) (n := 4) (Nat.le_of_ble_eq_true rfl)
  rw [lg_entry_eq]
  generalize (lg_sl ([.ref (ad 0), .int a1, .int a2]) ++ List.replicate (4 - (lg_sl ([.ref (ad 0), .int a1, .int a2])).length) Slot.unset).toArray = ls at hl ⊢
  have hl : lv_has ls 4 [(0, .ref (ad 0)), (1, .int a1), (2, .int a2)] := hl
  refine lv_aload_n hx hb dX6_between_0 rfl (lv_at hl 0 rfl) ?_
  refine lv_iload_n hx hb dX6_between_1 rfl (lv_at hl 1 rfl) ?_
  obtain ⟨r3, sg2, q1, hf⟩ := bd2_so hf
  refine cl_i (va_runV (As := [.int a1]) (rest := []) ⟨hx, hb, hml, hown, hts⟩ (c_X6_look l g ad X _ sg a1 r3 sg2 q1) (cwV 1 hts gl_X6_71 rfl rfl rfl yd_X6_look ⟨Nat.le_of_ble_eq_true rfl, Nat.le_of_ble_eq_true rfl⟩) (preV_of hK hP (hD sg) (dd_at (by decide) cm_0) rfl) rfl rfl hl.1 rfl (lv_room (Nat.le_of_ble_eq_true rfl)) dX6_between_2 ⟨Nat.le_of_ble_eq_true rfl, Nat.le_of_ble_eq_true rfl⟩) hS (fun q h => dd_A_mono hS.1 h) (fun q h => dd_A_mono hS.1 h) (fun H locs hP hS => ?_)
  refine lv_pop hx hb dX6_between_5 rfl ?_
  refine lv_aload_n hx hb dX6_between_6 rfl (lv_at hl 0 rfl) ?_
  refine gf_X6_91 hx hb hts hown hK hP dX6_between_7 ?_
  refine lv_istore_n (lv' := [(3, .int (sg2 0 18)), (0, .ref (ad 0)), (1, .int a1), (2, .int a2)]) hx hb dX6_between_10 rfl hl (by decide) rfl (fun ls hl => ?_)
  refine lv_aload_n hx hb dX6_between_11 rfl (lv_at hl 1 rfl) ?_
  refine lv_iload_n hx hb dX6_between_12 rfl (lv_at hl 3 rfl) ?_
  obtain ⟨r6, sg5, q4, hf⟩ := bd2_so hf
  refine cl_i (va_runV (As := [.int a2]) (rest := []) ⟨hx, hb, hml, hown, hts⟩ (c_X6_look l g ad X _ sg2 a2 r6 sg5 q4) (cwV 1 hts gl_X6_71 rfl rfl rfl yd_X6_look ⟨Nat.le_of_ble_eq_true rfl, Nat.le_of_ble_eq_true rfl⟩) (preV_of hK hP (hD sg2) (dd_at (by decide) cm_0) rfl) rfl rfl hl.1 rfl (lv_room (Nat.le_of_ble_eq_true rfl)) dX6_between_13 ⟨Nat.le_of_ble_eq_true rfl, Nat.le_of_ble_eq_true rfl⟩) hS (fun q h => dd_A_mono hS.1 h) (fun q h => dd_A_mono hS.1 h) (fun H locs hP hS => ?_)
  refine lv_pop hx hb dX6_between_16 rfl ?_
  refine lv_aload_n hx hb dX6_between_17 rfl (lv_at hl 1 rfl) ?_
  refine gf_X6_88 hx hb hts hown hK hP dX6_between_18 ?_
  refine lv_sipush (v := (1440 : Int32)) hx hb dX6_between_21 (by decide) ?_
  refine lv_iadd hx hb dX6_between_24 ?_
  refine lv_iload_n hx hb dX6_between_25 rfl (lv_at hl 0 rfl) ?_
  refine lv_isub hx hb dX6_between_26 ?_
  exact W.iret (v := (((sg5 0 17) + (1440 : Int32)) - (sg2 0 18))) hx hb hr (fun t ht hW => ⟨⟨(((sg5 0 17) + (1440 : Int32)) - (sg2 0 18)), (), rfl, (so2 hf).1, P_at2 (so2 hf).2 ht hP⟩, hS.F ht⟩) hS.2.2 dX6_between_27
set_option maxHeartbeats 4000000 in
set_option maxRecDepth 100000 in
theorem c_X6_hasRest (l : Launch) (g : dd_G) (ad : Nat → Nat) (X : va_W) (sz : Nat) (sg : dd_S) (a1 : Int32) (a2 : Int32) (a3 : Int32) (r0 : Int32) (s0 : dd_S) (hf : f_X6_hasRest sg a1 a2 a3 = some (r0, s0)) : Met l yX6_hasRest (lw_ws yX6_hasRest cX6_hasRest 6 (some .boolean)) ({ frames := 3, cells := 0, slots := 0, locals := 73 } : Room) (va_Pc [.ref (ad 0), .int a1, .int a2, .int a3] (PreW g (WM g ad sg ++ X) sz)) (QI g (WM g ad s0 ++ X) (dd_A 9 ad X sz) r0) 0 0 (dd_A 9 ad X sz) := by
  refine Met.ofW (cc := cX6_hasRest) (maxL := 6) (ret := some .boolean) (by decide) rfl ?_
  intro p e s m args below meth c s₁ B hml hv
  obtain ⟨rfl, rfl, hP, hK, hD0⟩ := hv
  have hx := B.exec
  have hb := B.bytes
  have hr := B.returns
  have hts := atoms_spec (ws := (lw_ws yX6_hasRest cX6_hasRest 6 (some .boolean))) B.pre
  have hts : ∀ w ∈ lw_all, w.before _ s = true := fun w h => hts w (List.mem_cons_of_mem _ h)
  have hown : s.vm.findClass RX6 = some m.cls := findClass_of_methodNamed B.named
  have hlocks := B.notSynchronized
  have hD : ∀ s2 : dd_S, va_D (dd_A 9 ad X s.heap.size) (WM g ad s2 ++ X) := fun s2 => dd_D (dd_A_D hD0)
  have hS : va_S (dd_A 9 ad X s.heap.size) s.heap s.heap [] := va_S.rf
  have hL_65 : ∀ (sg : dd_S) (t0 : Int32) (H : Heap) (locs : List Loc) (ls : Array Slot), f_X6_hasRest_65 a1 a2 a3 sg t0 = some (r0, s0) → va_P g.1 vwCl (WM g ad sg ++ X) H → va_S (dd_A 9 ad X s.heap.size) s.heap H locs → lv_has ls 6 [] → W p l e (headSpec (lw_ws yX6_hasRest cX6_hasRest 6 (some .boolean)) ({ frames := 3, cells := 0, slots := 0, locals := 73 } : Room)).room s m ([.ref (ad 0), .int a1, .int a2, .int a3] : List Value).toArray below meth c H locs 0 0 (MQ below (QI g (WM g ad s0 ++ X) (dd_A 9 ad X s.heap.size) r0) ([.ref (ad 0), .int a1, .int a2, .int a3] : List Value).toArray s 0 0 (dd_A 9 ad X s.heap.size)) (F0 m 65 ls [.int t0]) := by
    intro sg t0 H locs ls hf hP hS hl
    unfold f_X6_hasRest_65 at hf
    obtain ⟨hz15, hf⟩ := gd_so hf
    exact W.zret (v := t0) hx hb hr (bz_z hz15) (fun t ht hW => ⟨⟨t0, (), rfl, (so2 hf).1, P_at2 (so2 hf).2 ht hP⟩, hS.F ht⟩) hS.2.2 dX6_hasRest_65
  have hL_60 : ∀ (sg : dd_S) (H : Heap) (locs : List Loc) (ls : Array Slot), f_X6_hasRest_60 a1 a2 a3 sg = some (r0, s0) → va_P g.1 vwCl (WM g ad sg ++ X) H → va_S (dd_A 9 ad X s.heap.size) s.heap H locs → lv_has ls 6 [] → W p l e (headSpec (lw_ws yX6_hasRest cX6_hasRest 6 (some .boolean)) ({ frames := 3, cells := 0, slots := 0, locals := 73 } : Room)).room s m ([.ref (ad 0), .int a1, .int a2, .int a3] : List Value).toArray below meth c H locs 0 0 (MQ below (QI g (WM g ad s0 ++ X) (dd_A 9 ad X s.heap.size) r0) ([.ref (ad 0), .int a1, .int a2, .int a3] : List Value).toArray s 0 0 (dd_A 9 ad X s.heap.size)) (F0 m 60 ls []) := by
    intro sg H locs ls hf hP hS hl
    unfold f_X6_hasRest_60 at hf
    refine lv_iconst (v := (1 : Int32)) hx hb dX6_hasRest_60 (by decide) ?_
    refine lv_goto (tgt := 65) hx hb dX6_hasRest_61 (by decide) ?_
    exact hL_65 sg (1 : Int32) _ _ _ hf hP hS (lv_sub hl [] rfl)
  have hL_64 : ∀ (sg : dd_S) (H : Heap) (locs : List Loc) (ls : Array Slot), f_X6_hasRest_64 a1 a2 a3 sg = some (r0, s0) → va_P g.1 vwCl (WM g ad sg ++ X) H → va_S (dd_A 9 ad X s.heap.size) s.heap H locs → lv_has ls 6 [] → W p l e (headSpec (lw_ws yX6_hasRest cX6_hasRest 6 (some .boolean)) ({ frames := 3, cells := 0, slots := 0, locals := 73 } : Room)).room s m ([.ref (ad 0), .int a1, .int a2, .int a3] : List Value).toArray below meth c H locs 0 0 (MQ below (QI g (WM g ad s0 ++ X) (dd_A 9 ad X s.heap.size) r0) ([.ref (ad 0), .int a1, .int a2, .int a3] : List Value).toArray s 0 0 (dd_A 9 ad X s.heap.size)) (F0 m 64 ls []) := by
    intro sg H locs ls hf hP hS hl
    unfold f_X6_hasRest_64 at hf
    refine lv_iconst (v := (0 : Int32)) hx hb dX6_hasRest_64 (by decide) ?_
    exact hL_65 sg (0 : Int32) _ _ _ hf hP hS (lv_sub hl [] rfl)
  have hL_40 : ∀ (sg : dd_S) (v5 : Int32) (H : Heap) (locs : List Loc) (ls : Array Slot), f_X6_hasRest_40 a1 a2 a3 sg v5 = some (r0, s0) → va_P g.1 vwCl (WM g ad sg ++ X) H → va_S (dd_A 9 ad X s.heap.size) s.heap H locs → lv_has ls 6 [(0, .ref (ad 0)), (3, .int a3), (5, .int v5)] → W p l e (headSpec (lw_ws yX6_hasRest cX6_hasRest 6 (some .boolean)) ({ frames := 3, cells := 0, slots := 0, locals := 73 } : Room)).room s m ([.ref (ad 0), .int a1, .int a2, .int a3] : List Value).toArray below meth c H locs 0 0 (MQ below (QI g (WM g ad s0 ++ X) (dd_A 9 ad X s.heap.size) r0) ([.ref (ad 0), .int a1, .int a2, .int a3] : List Value).toArray s 0 0 (dd_A 9 ad X s.heap.size)) (F0 m 40 ls []) := by
    intro sg v5 H locs ls hf hP hS hl
    unfold f_X6_hasRest_40 at hf
    refine lv_iload hx hb dX6_hasRest_40 (lv_at hl 2 rfl) ?_
    refine lv_iconst (v := (-1 : Int32)) hx hb dX6_hasRest_42 (by decide) ?_
    refine lv_icmp_eq (tgt := 60) hx hb dX6_hasRest_43 (by decide) (fun c10 => ?_) (fun c10 => ?_)
    · have hf := if_t c10 hf
      exact hL_60 sg _ _ _ hf hP hS (lv_sub hl [] rfl)
    · have hf := if_f c10 hf
      refine lv_aload_n hx hb dX6_hasRest_46 rfl (lv_at hl 0 rfl) ?_
      refine lv_iload_n hx hb dX6_hasRest_47 rfl (lv_at hl 1 rfl) ?_
      refine lv_iload hx hb dX6_hasRest_48 (lv_at hl 2 rfl) ?_
      obtain ⟨r13, sg12, q11, hf⟩ := bd2_so hf
      refine cl_i (va_runV (As := [.int a3, .int v5]) (rest := []) ⟨hx, hb, hml, hown, hts⟩ (c_X6_between l g ad X _ sg a3 v5 r13 sg12 q11) (cwV 2 hts gl_X6_163 rfl rfl rfl yd_X6_between ⟨Nat.le_of_ble_eq_true rfl, Nat.le_of_ble_eq_true rfl⟩) (preV_of hK hP (hD sg) (dd_at (by decide) cm_0) rfl) rfl rfl hl.1 rfl (lv_room (Nat.le_of_ble_eq_true rfl)) dX6_hasRest_50 ⟨Nat.le_of_ble_eq_true rfl, Nat.le_of_ble_eq_true rfl⟩) hS (fun q h => dd_A_mono hS.1 h) (fun q h => dd_A_mono hS.1 h) (fun H locs hP hS => ?_)
      refine lv_aload_n hx hb dX6_hasRest_53 rfl (lv_at hl 0 rfl) ?_
      refine gf_X6_41 hx hb hts hown hK hP dX6_hasRest_54 ?_
      refine lv_icmp_lt (tgt := 64) hx hb dX6_hasRest_57 (by decide) (fun c14 => ?_) (fun c14 => ?_)
      · have hf := if_t c14 hf
        exact hL_64 sg12 _ _ _ hf hP hS (lv_sub hl [] rfl)
      · have hf := if_f c14 hf
        exact hL_60 sg12 _ _ _ hf hP hS (lv_sub hl [] rfl)
  unfold f_X6_hasRest at hf
  have hl := lv_entry ([.ref (ad 0), .int a1, .int a2, .int a3]) (n := 6) (Nat.le_of_ble_eq_true rfl)
  rw [lg_entry_eq]
  generalize (lg_sl ([.ref (ad 0), .int a1, .int a2, .int a3]) ++ List.replicate (6 - (lg_sl ([.ref (ad 0), .int a1, .int a2, .int a3])).length) Slot.unset).toArray = ls at hl ⊢
  have hl : lv_has ls 6 [(0, .ref (ad 0)), (1, .int a1), (2, .int a2), (3, .int a3)] := hl
  refine lv_aload_n hx hb dX6_hasRest_0 rfl (lv_at hl 0 rfl) ?_
  refine lv_iload_n hx hb dX6_hasRest_1 rfl (lv_at hl 1 rfl) ?_
  refine lv_iload_n hx hb dX6_hasRest_2 rfl (lv_at hl 2 rfl) ?_
  refine lv_iconst (v := (1 : Int32)) hx hb dX6_hasRest_3 (by decide) ?_
  refine lv_isub hx hb dX6_hasRest_4 ?_
  obtain ⟨r2, q1, hf⟩ := bd_so hf
  refine cl_i (va_runV (As := [.int a1, .int (a2 - (1 : Int32))]) (rest := []) ⟨hx, hb, hml, hown, hts⟩ (c_X6_at l g ad X _ sg a1 (a2 - (1 : Int32)) r2 q1) (cwV 2 hts gl_X6_160 rfl rfl rfl yd_X6_at ⟨Nat.le_of_ble_eq_true rfl, Nat.le_of_ble_eq_true rfl⟩) (preV_of hK hP (hD sg) (dd_at (by decide) cm_0) rfl) rfl rfl hl.1 rfl (lv_room (Nat.le_of_ble_eq_true rfl)) dX6_hasRest_5 ⟨Nat.le_of_ble_eq_true rfl, Nat.le_of_ble_eq_true rfl⟩) hS (fun q h => dd_A_mono hS.1 h) (fun q h => dd_A_mono hS.1 h) (fun H locs hP hS => ?_)
  refine lv_istore (lv' := [(4, .int r2), (0, .ref (ad 0)), (1, .int a1), (2, .int a2), (3, .int a3)]) hx hb dX6_hasRest_8 hl (by decide) rfl (fun ls hl => ?_)
  refine lv_aload_n hx hb dX6_hasRest_10 rfl (lv_at hl 1 rfl) ?_
  refine lv_iload_n hx hb dX6_hasRest_11 rfl (lv_at hl 2 rfl) ?_
  refine lv_iload_n hx hb dX6_hasRest_12 rfl (lv_at hl 3 rfl) ?_
  refine lv_iconst (v := (1 : Int32)) hx hb dX6_hasRest_13 (by decide) ?_
  refine lv_iadd hx hb dX6_hasRest_14 ?_
  obtain ⟨r4, q3, hf⟩ := bd_so hf
  refine cl_i (va_runV (As := [.int a1, .int (a2 + (1 : Int32))]) (rest := []) ⟨hx, hb, hml, hown, hts⟩ (c_X6_at l g ad X _ sg a1 (a2 + (1 : Int32)) r4 q3) (cwV 2 hts gl_X6_160 rfl rfl rfl yd_X6_at ⟨Nat.le_of_ble_eq_true rfl, Nat.le_of_ble_eq_true rfl⟩) (preV_of hK hP (hD sg) (dd_at (by decide) cm_0) rfl) rfl rfl hl.1 rfl (lv_room (Nat.le_of_ble_eq_true rfl)) dX6_hasRest_15 ⟨Nat.le_of_ble_eq_true rfl, Nat.le_of_ble_eq_true rfl⟩) hS (fun q h => dd_A_mono hS.1 h) (fun q h => dd_A_mono hS.1 h) (fun H locs hP hS => ?_)
  refine lv_istore (lv' := [(5, .int r4), (4, .int r2), (0, .ref (ad 0)), (1, .int a1), (2, .int a2), (3, .int a3)]) hx hb dX6_hasRest_18 hl (by decide) rfl (fun ls hl => ?_)
  refine lv_iload hx hb dX6_hasRest_20 (lv_at hl 1 rfl) ?_
  refine lv_iconst (v := (-1 : Int32)) hx hb dX6_hasRest_22 (by decide) ?_
  refine lv_icmp_eq (tgt := 40) hx hb dX6_hasRest_23 (by decide) (fun c5 => ?_) (fun c5 => ?_)
  · have hf := if_t c5 hf
    exact hL_40 sg r4 _ _ _ hf hP hS (lv_sub hl [2, 5, 0] rfl)
  · have hf := if_f c5 hf
    refine lv_aload_n hx hb dX6_hasRest_26 rfl (lv_at hl 2 rfl) ?_
    refine lv_iload hx hb dX6_hasRest_27 (lv_at hl 1 rfl) ?_
    refine lv_iload_n hx hb dX6_hasRest_29 rfl (lv_at hl 5 rfl) ?_
    obtain ⟨r8, sg7, q6, hf⟩ := bd2_so hf
    refine cl_i (va_runV (As := [.int r2, .int a3]) (rest := []) ⟨hx, hb, hml, hown, hts⟩ (c_X6_between l g ad X _ sg r2 a3 r8 sg7 q6) (cwV 2 hts gl_X6_163 rfl rfl rfl yd_X6_between ⟨Nat.le_of_ble_eq_true rfl, Nat.le_of_ble_eq_true rfl⟩) (preV_of hK hP (hD sg) (dd_at (by decide) cm_0) rfl) rfl rfl hl.1 rfl (lv_room (Nat.le_of_ble_eq_true rfl)) dX6_hasRest_30 ⟨Nat.le_of_ble_eq_true rfl, Nat.le_of_ble_eq_true rfl⟩) hS (fun q h => dd_A_mono hS.1 h) (fun q h => dd_A_mono hS.1 h) (fun H locs hP hS => ?_)
    refine lv_aload_n hx hb dX6_hasRest_33 rfl (lv_at hl 2 rfl) ?_
    refine gf_X6_41 hx hb hts hown hK hP dX6_hasRest_34 ?_
    refine lv_icmp_lt (tgt := 64) hx hb dX6_hasRest_37 (by decide) (fun c9 => ?_) (fun c9 => ?_)
    · have hf := if_t c9 hf
      exact hL_64 sg7 _ _ _ hf hP hS (lv_sub hl [] rfl)
    · have hf := if_f c9 hf
      exact hL_40 sg7 r4 _ _ _ hf hP hS (lv_sub hl [2, 5, 0] rfl)
set_option maxHeartbeats 4000000 in
set_option maxRecDepth 100000 in
theorem c_X6_reasonFor (l : Launch) (g : dd_G) (ad : Nat → Nat) (X : va_W) (sz : Nat) (sg : dd_S) (a1 : Int32) (a2 : Int32) (a3 : Int32) (r0 : Int32) (s0 : dd_S) (hf : f_X6_reasonFor sg a1 a2 a3 = some (r0, s0)) : Met l yX6_reasonFor (lw_ws yX6_reasonFor cX6_reasonFor 5 (some .int)) ({ frames := 4, cells := 0, slots := 0, locals := 98 } : Room) (va_Pc [.ref (ad 0), .int a1, .int a2, .int a3] (PreW g (WM g ad sg ++ X) sz)) (QI g (WM g ad s0 ++ X) (dd_A 9 ad X sz) r0) 0 0 (dd_A 9 ad X sz) := by
  refine Met.ofW (cc := cX6_reasonFor) (maxL := 5) (ret := some .int) (by decide) rfl ?_
  intro p e s m args below meth c s₁ B hml hv
  obtain ⟨rfl, rfl, hP, hK, hD0⟩ := hv
  have hx := B.exec
  have hb := B.bytes
  have hr := B.returns
  have hts := atoms_spec (ws := (lw_ws yX6_reasonFor cX6_reasonFor 5 (some .int))) B.pre
  have hts : ∀ w ∈ lw_all, w.before _ s = true := fun w h => hts w (List.mem_cons_of_mem _ h)
  have hown : s.vm.findClass RX6 = some m.cls := findClass_of_methodNamed B.named
  have hlocks := B.notSynchronized
  have hD : ∀ s2 : dd_S, va_D (dd_A 9 ad X s.heap.size) (WM g ad s2 ++ X) := fun s2 => dd_D (dd_A_D hD0)
  have hS : va_S (dd_A 9 ad X s.heap.size) s.heap s.heap [] := va_S.rf
  have hL_98 : ∀ (sg : dd_S) (t0 : Int32) (H : Heap) (locs : List Loc) (ls : Array Slot), f_X6_reasonFor_98 a1 a2 a3 sg t0 = some (r0, s0) → va_P g.1 vwCl (WM g ad sg ++ X) H → va_S (dd_A 9 ad X s.heap.size) s.heap H locs → lv_has ls 5 [] → W p l e (headSpec (lw_ws yX6_reasonFor cX6_reasonFor 5 (some .int)) ({ frames := 4, cells := 0, slots := 0, locals := 98 } : Room)).room s m ([.ref (ad 0), .int a1, .int a2, .int a3] : List Value).toArray below meth c H locs 0 0 (MQ below (QI g (WM g ad s0 ++ X) (dd_A 9 ad X s.heap.size) r0) ([.ref (ad 0), .int a1, .int a2, .int a3] : List Value).toArray s 0 0 (dd_A 9 ad X s.heap.size)) (F0 m 98 ls [.int t0]) := by
    intro sg t0 H locs ls hf hP hS hl
    unfold f_X6_reasonFor_98 at hf
    exact W.iret (v := t0) hx hb hr (fun t ht hW => ⟨⟨t0, (), rfl, (so2 hf).1, P_at2 (so2 hf).2 ht hP⟩, hS.F ht⟩) hS.2.2 dX6_reasonFor_98
  unfold f_X6_reasonFor at hf
  have hl := lv_entry ([.ref (ad 0), .int a1, .int a2, .int a3]) (n := 5) (Nat.le_of_ble_eq_true rfl)
  rw [lg_entry_eq]
  generalize (lg_sl ([.ref (ad 0), .int a1, .int a2, .int a3]) ++ List.replicate (5 - (lg_sl ([.ref (ad 0), .int a1, .int a2, .int a3])).length) Slot.unset).toArray = ls at hl ⊢
  have hl : lv_has ls 5 [(0, .ref (ad 0)), (1, .int a1), (2, .int a2), (3, .int a3)] := hl
  refine lv_aload_n hx hb dX6_reasonFor_0 rfl (lv_at hl 0 rfl) ?_
  refine lv_iload_n hx hb dX6_reasonFor_1 rfl (lv_at hl 3 rfl) ?_
  obtain ⟨r3, sg2, q1, hf⟩ := bd2_so hf
  refine cl_i (va_runV (As := [.int a3]) (rest := []) ⟨hx, hb, hml, hown, hts⟩ (c_X6_look l g ad X _ sg a3 r3 sg2 q1) (cwV 1 hts gl_X6_71 rfl rfl rfl yd_X6_look ⟨Nat.le_of_ble_eq_true rfl, Nat.le_of_ble_eq_true rfl⟩) (preV_of hK hP (hD sg) (dd_at (by decide) cm_0) rfl) rfl rfl hl.1 rfl (lv_room (Nat.le_of_ble_eq_true rfl)) dX6_reasonFor_2 ⟨Nat.le_of_ble_eq_true rfl, Nat.le_of_ble_eq_true rfl⟩) hS (fun q h => dd_A_mono hS.1 h) (fun q h => dd_A_mono hS.1 h) (fun H locs hP hS => ?_)
  refine lv_pop hx hb dX6_reasonFor_5 rfl ?_
  refine lv_aload_n hx hb dX6_reasonFor_6 rfl (lv_at hl 0 rfl) ?_
  refine gf_X6_81 hx hb hts hown hK hP dX6_reasonFor_7 ?_
  refine lv_if_ne (tgt := 15) hx hb dX6_reasonFor_10 (by decide) (fun c4 => ?_) (fun c4 => ?_)
  · have hf := if_f c4 hf
    refine lv_aload_n hx hb dX6_reasonFor_15 rfl (lv_at hl 0 rfl) ?_
    refine gf_X6_106 hx hb hts hown hK hP dX6_reasonFor_16 ?_
    refine lv_if_ne (tgt := 24) hx hb dX6_reasonFor_19 (by decide) (fun c5 => ?_) (fun c5 => ?_)
    · have hf := if_f c5 hf
      refine lv_aload_n hx hb dX6_reasonFor_24 rfl (lv_at hl 0 rfl) ?_
      refine gf_X6_97 hx hb hts hown hK hP dX6_reasonFor_25 ?_
      refine lv_istore (lv' := [(4, .int (sg2 0 20)), (0, .ref (ad 0)), (1, .int a1), (2, .int a2), (3, .int a3)]) hx hb dX6_reasonFor_28 hl (by decide) rfl (fun ls hl => ?_)
      refine lv_aload_n hx hb dX6_reasonFor_30 rfl (lv_at hl 1 rfl) ?_
      refine lv_iload_n hx hb dX6_reasonFor_31 rfl (lv_at hl 3 rfl) ?_
      refine lv_iload_n hx hb dX6_reasonFor_32 rfl (lv_at hl 4 rfl) ?_
      obtain ⟨r7, q6, hf⟩ := bd_so hf
      refine cl_i (va_runV (As := [.int a2, .int a3]) (rest := []) ⟨hx, hb, hml, hown, hts⟩ (c_X6_isTaken l g ad X _ sg2 a2 a3 r7 q6) (cwV 2 hts gl_X6_166 rfl rfl rfl yd_X6_isTaken ⟨Nat.le_of_ble_eq_true rfl, Nat.le_of_ble_eq_true rfl⟩) (preV_of hK hP (hD sg2) (dd_at (by decide) cm_0) rfl) rfl rfl hl.1 rfl (lv_room (Nat.le_of_ble_eq_true rfl)) dX6_reasonFor_33 ⟨Nat.le_of_ble_eq_true rfl, Nat.le_of_ble_eq_true rfl⟩) hS (fun q h => dd_A_mono hS.1 h) (fun q h => dd_A_mono hS.1 h) (fun H locs hP hS => ?_)
      refine lv_if_eq (tgt := 41) hx hb dX6_reasonFor_36 (by decide) (fun c8 => ?_) (fun c8 => ?_)
      · have hf := if_t c8 hf
        refine lv_aload_n hx hb dX6_reasonFor_41 rfl (lv_at hl 1 rfl) ?_
        refine lv_iload_n hx hb dX6_reasonFor_42 rfl (lv_at hl 2 rfl) ?_
        refine lv_iload_n hx hb dX6_reasonFor_43 rfl (lv_at hl 3 rfl) ?_
        obtain ⟨r10, q9, hf⟩ := bd_so hf
        refine cl_i (va_runV (As := [.int a1, .int a2]) (rest := []) ⟨hx, hb, hml, hown, hts⟩ (c_X6_at l g ad X _ sg2 a1 a2 r10 q9) (cwV 2 hts gl_X6_160 rfl rfl rfl yd_X6_at ⟨Nat.le_of_ble_eq_true rfl, Nat.le_of_ble_eq_true rfl⟩) (preV_of hK hP (hD sg2) (dd_at (by decide) cm_0) rfl) rfl rfl hl.1 rfl (lv_room (Nat.le_of_ble_eq_true rfl)) dX6_reasonFor_44 ⟨Nat.le_of_ble_eq_true rfl, Nat.le_of_ble_eq_true rfl⟩) hS (fun q h => dd_A_mono hS.1 h) (fun q h => dd_A_mono hS.1 h) (fun H locs hP hS => ?_)
        refine lv_iconst (v := (-1 : Int32)) hx hb dX6_reasonFor_47 (by decide) ?_
        refine lv_icmp_eq (tgt := 53) hx hb dX6_reasonFor_48 (by decide) (fun c11 => ?_) (fun c11 => ?_)
        · have hf := if_t c11 hf
          refine lv_aload_n hx hb dX6_reasonFor_53 rfl (lv_at hl 1 rfl) ?_
          refine lv_iload_n hx hb dX6_reasonFor_54 rfl (lv_at hl 2 rfl) ?_
          refine lv_iload_n hx hb dX6_reasonFor_55 rfl (lv_at hl 3 rfl) ?_
          obtain ⟨r13, q12, hf⟩ := bd_so hf
          refine cl_i (va_runV (As := [.int a1, .int a2]) (rest := []) ⟨hx, hb, hml, hown, hts⟩ (c_X6_longest l g ad X _ sg2 a1 a2 r13 q12) (cwV 2 hts gl_X6_169 rfl rfl rfl yd_X6_longest ⟨Nat.le_of_ble_eq_true rfl, Nat.le_of_ble_eq_true rfl⟩) (preV_of hK hP (hD sg2) (dd_at (by decide) cm_0) rfl) rfl rfl hl.1 rfl (lv_room (Nat.le_of_ble_eq_true rfl)) dX6_reasonFor_56 ⟨Nat.le_of_ble_eq_true rfl, Nat.le_of_ble_eq_true rfl⟩) hS (fun q h => dd_A_mono hS.1 h) (fun q h => dd_A_mono hS.1 h) (fun H locs hP hS => ?_)
          refine lv_iconst (v := (5 : Int32)) hx hb dX6_reasonFor_59 (by decide) ?_
          refine lv_icmp_le (tgt := 65) hx hb dX6_reasonFor_60 (by decide) (fun c14 => ?_) (fun c14 => ?_)
          · have hf := if_t c14 hf
            refine lv_aload_n hx hb dX6_reasonFor_65 rfl (lv_at hl 1 rfl) ?_
            refine lv_iload_n hx hb dX6_reasonFor_66 rfl (lv_at hl 2 rfl) ?_
            obtain ⟨r17, sg16, q15, hf⟩ := bd2_so hf
            refine cl_i (va_runV (As := [.int a1]) (rest := []) ⟨hx, hb, hml, hown, hts⟩ (c_X6_weekOf l g ad X _ sg2 a1 r17 sg16 q15) (cwV 1 hts gl_X6_172 rfl rfl rfl yd_X6_weekOf ⟨Nat.le_of_ble_eq_true rfl, Nat.le_of_ble_eq_true rfl⟩) (preV_of hK hP (hD sg2) (dd_at (by decide) cm_0) rfl) rfl rfl hl.1 rfl (lv_room (Nat.le_of_ble_eq_true rfl)) dX6_reasonFor_67 ⟨Nat.le_of_ble_eq_true rfl, Nat.le_of_ble_eq_true rfl⟩) hS (fun q h => dd_A_mono hS.1 h) (fun q h => dd_A_mono hS.1 h) (fun H locs hP hS => ?_)
            refine lv_iload hx hb dX6_reasonFor_70 (lv_at hl 0 rfl) ?_
            refine lv_iadd hx hb dX6_reasonFor_72 ?_
            refine lv_sipush (v := (2880 : Int32)) hx hb dX6_reasonFor_73 (by decide) ?_
            refine lv_icmp_le (tgt := 82) hx hb dX6_reasonFor_76 (by decide) (fun c18 => ?_) (fun c18 => ?_)
            · have hf := if_t c18 hf
              refine lv_aload_n hx hb dX6_reasonFor_82 rfl (lv_at hl 1 rfl) ?_
              refine lv_iload_n hx hb dX6_reasonFor_83 rfl (lv_at hl 2 rfl) ?_
              refine lv_iload_n hx hb dX6_reasonFor_84 rfl (lv_at hl 3 rfl) ?_
              refine lv_iload_n hx hb dX6_reasonFor_85 rfl (lv_at hl 4 rfl) ?_
              obtain ⟨r21, sg20, q19, hf⟩ := bd2_so hf
              refine cl_i (va_runV (As := [.int a1, .int a2, .int a3]) (rest := []) ⟨hx, hb, hml, hown, hts⟩ (c_X6_hasRest l g ad X _ sg16 a1 a2 a3 r21 sg20 q19) (cwV 3 hts gl_X6_175 rfl rfl rfl yd_X6_hasRest ⟨Nat.le_of_ble_eq_true rfl, Nat.le_of_ble_eq_true rfl⟩) (preV_of hK hP (hD sg16) (dd_at (by decide) cm_0) rfl) rfl rfl hl.1 rfl (lv_room (Nat.le_of_ble_eq_true rfl)) dX6_reasonFor_86 ⟨Nat.le_of_ble_eq_true rfl, Nat.le_of_ble_eq_true rfl⟩) hS (fun q h => dd_A_mono hS.1 h) (fun q h => dd_A_mono hS.1 h) (fun H locs hP hS => ?_)
              refine lv_if_eq (tgt := 96) hx hb dX6_reasonFor_89 (by decide) (fun c22 => ?_) (fun c22 => ?_)
              · have hf := if_t c22 hf
                refine lv_bipush (v := (7 : Int32)) hx hb dX6_reasonFor_96 (by decide) ?_
                exact hL_98 sg20 (7 : Int32) _ _ _ hf hP hS (lv_sub hl [] rfl)
              · have hf := if_f c22 hf
                refine lv_iconst (v := (0 : Int32)) hx hb dX6_reasonFor_92 (by decide) ?_
                refine lv_goto (tgt := 98) hx hb dX6_reasonFor_93 (by decide) ?_
                exact hL_98 sg20 (0 : Int32) _ _ _ hf hP hS (lv_sub hl [] rfl)
            · have hf := if_f c18 hf
              refine lv_bipush (v := (6 : Int32)) hx hb dX6_reasonFor_79 (by decide) ?_
              exact W.iret (v := (6 : Int32)) hx hb hr (fun t ht hW => ⟨⟨(6 : Int32), (), rfl, (so2 hf).1, P_at2 (so2 hf).2 ht hP⟩, hS.F ht⟩) hS.2.2 dX6_reasonFor_81
          · have hf := if_f c14 hf
            refine lv_iconst (v := (5 : Int32)) hx hb dX6_reasonFor_63 (by decide) ?_
            exact W.iret (v := (5 : Int32)) hx hb hr (fun t ht hW => ⟨⟨(5 : Int32), (), rfl, (so2 hf).1, P_at2 (so2 hf).2 ht hP⟩, hS.F ht⟩) hS.2.2 dX6_reasonFor_64
        · have hf := if_f c11 hf
          refine lv_iconst (v := (4 : Int32)) hx hb dX6_reasonFor_51 (by decide) ?_
          exact W.iret (v := (4 : Int32)) hx hb hr (fun t ht hW => ⟨⟨(4 : Int32), (), rfl, (so2 hf).1, P_at2 (so2 hf).2 ht hP⟩, hS.F ht⟩) hS.2.2 dX6_reasonFor_52
      · have hf := if_f c8 hf
        refine lv_iconst (v := (3 : Int32)) hx hb dX6_reasonFor_39 (by decide) ?_
        exact W.iret (v := (3 : Int32)) hx hb hr (fun t ht hW => ⟨⟨(3 : Int32), (), rfl, (so2 hf).1, P_at2 (so2 hf).2 ht hP⟩, hS.F ht⟩) hS.2.2 dX6_reasonFor_40
    · have hf := if_t c5 hf
      refine lv_iconst (v := (2 : Int32)) hx hb dX6_reasonFor_22 (by decide) ?_
      exact W.iret (v := (2 : Int32)) hx hb hr (fun t ht hW => ⟨⟨(2 : Int32), (), rfl, (so2 hf).1, P_at2 (so2 hf).2 ht hP⟩, hS.F ht⟩) hS.2.2 dX6_reasonFor_23
  · have hf := if_t c4 hf
    refine lv_iconst (v := (1 : Int32)) hx hb dX6_reasonFor_13 (by decide) ?_
    exact W.iret (v := (1 : Int32)) hx hb hr (fun t ht hW => ⟨⟨(1 : Int32), (), rfl, (so2 hf).1, P_at2 (so2 hf).2 ht hP⟩, hS.F ht⟩) hS.2.2 dX6_reasonFor_14
set_option maxHeartbeats 4000000 in
set_option maxRecDepth 100000 in
theorem c_X6_reason (l : Launch) (g : dd_G) (ad : Nat → Nat) (X : va_W) (sz : Nat) (sg : dd_S) (a1 : Int32) (a2 : Int32) (a3 : Int32) (r0 : Int32) (s0 : dd_S) (hf : f_X6_reason sg a1 a2 a3 = some (r0, s0)) : Met l yX6_reason (lw_ws yX6_reason cX6_reason 4 (some .int)) ({ frames := 5, cells := 0, slots := 0, locals := 122 } : Room) (va_Pc [.ref (ad 0), .int a1, .int a2, .int a3] (PreW g (WM g ad sg ++ X) sz)) (QI g (WM g ad s0 ++ X) (dd_A 9 ad X sz) r0) 0 0 (dd_A 9 ad X sz) := by
  refine Met.ofW (cc := cX6_reason) (maxL := 4) (ret := some .int) (by decide) rfl ?_
  intro p e s m args below meth c s₁ B hml hv
  obtain ⟨rfl, rfl, hP, hK, hD0⟩ := hv
  have hx := B.exec
  have hb := B.bytes
  have hr := B.returns
  have hts := atoms_spec (ws := (lw_ws yX6_reason cX6_reason 4 (some .int))) B.pre
  have hts : ∀ w ∈ lw_all, w.before _ s = true := fun w h => hts w (List.mem_cons_of_mem _ h)
  have hown : s.vm.findClass RX6 = some m.cls := findClass_of_methodNamed B.named
  have hlocks := B.notSynchronized
  have hD : ∀ s2 : dd_S, va_D (dd_A 9 ad X s.heap.size) (WM g ad s2 ++ X) := fun s2 => dd_D (dd_A_D hD0)
  have hS : va_S (dd_A 9 ad X s.heap.size) s.heap s.heap [] := va_S.rf
  have hL_43 : ∀ (sg : dd_S) (t0 : Int32) (H : Heap) (locs : List Loc) (ls : Array Slot), f_X6_reason_43 a1 a2 a3 sg t0 = some (r0, s0) → va_P g.1 vwCl (WM g ad sg ++ X) H → va_S (dd_A 9 ad X s.heap.size) s.heap H locs → lv_has ls 4 [] → W p l e (headSpec (lw_ws yX6_reason cX6_reason 4 (some .int)) ({ frames := 5, cells := 0, slots := 0, locals := 122 } : Room)).room s m ([.ref (ad 0), .int a1, .int a2, .int a3] : List Value).toArray below meth c H locs 0 0 (MQ below (QI g (WM g ad s0 ++ X) (dd_A 9 ad X s.heap.size) r0) ([.ref (ad 0), .int a1, .int a2, .int a3] : List Value).toArray s 0 0 (dd_A 9 ad X s.heap.size)) (F0 m 43 ls [.int t0]) := by
    intro sg t0 H locs ls hf hP hS hl
    unfold f_X6_reason_43 at hf
    exact W.iret (v := t0) hx hb hr (fun t ht hW => ⟨⟨t0, (), rfl, (so2 hf).1, P_at2 (so2 hf).2 ht hP⟩, hS.F ht⟩) hS.2.2 dX6_reason_43
  have hL_38 : ∀ (sg : dd_S) (H : Heap) (locs : List Loc) (ls : Array Slot), f_X6_reason_38 a1 a2 a3 sg = some (r0, s0) → va_P g.1 vwCl (WM g ad sg ++ X) H → va_S (dd_A 9 ad X s.heap.size) s.heap H locs → lv_has ls 4 [(0, .ref (ad 0))] → W p l e (headSpec (lw_ws yX6_reason cX6_reason 4 (some .int)) ({ frames := 5, cells := 0, slots := 0, locals := 122 } : Room)).room s m ([.ref (ad 0), .int a1, .int a2, .int a3] : List Value).toArray below meth c H locs 0 0 (MQ below (QI g (WM g ad s0 ++ X) (dd_A 9 ad X s.heap.size) r0) ([.ref (ad 0), .int a1, .int a2, .int a3] : List Value).toArray s 0 0 (dd_A 9 ad X s.heap.size)) (F0 m 38 ls []) := by
    intro sg H locs ls hf hP hS hl
    unfold f_X6_reason_38 at hf
    refine lv_aload_n hx hb dX6_reason_38 rfl (lv_at hl 0 rfl) ?_
    refine lv_iconst (v := (1 : Int32)) hx hb dX6_reason_39 (by decide) ?_
    obtain ⟨r16, sg15, q14, hf⟩ := bd2_so hf
    refine cl_i (va_runV (As := [.int (1 : Int32)]) (rest := []) ⟨hx, hb, hml, hown, hts⟩ (c_X6_no l g ad X _ sg (1 : Int32) r16 sg15 q14) (cwV 1 hts gl_X6_64 rfl rfl rfl yd_X6_no ⟨Nat.le_of_ble_eq_true rfl, Nat.le_of_ble_eq_true rfl⟩) (preV_of hK hP (hD sg) (dd_at (by decide) cm_0) rfl) rfl rfl hl.1 rfl (lv_room (Nat.le_of_ble_eq_true rfl)) dX6_reason_40 ⟨Nat.le_of_ble_eq_true rfl, Nat.le_of_ble_eq_true rfl⟩) hS (fun q h => dd_A_mono hS.1 h) (fun q h => dd_A_mono hS.1 h) (fun H locs hP hS => ?_)
    exact hL_43 sg15 r16 _ _ _ hf hP hS (lv_sub hl [] rfl)
  unfold f_X6_reason at hf
  have hl := lv_entry ([.ref (ad 0), .int a1, .int a2, .int a3]) (n := 4) (Nat.le_of_ble_eq_true rfl)
  rw [lg_entry_eq]
  generalize (lg_sl ([.ref (ad 0), .int a1, .int a2, .int a3]) ++ List.replicate (4 - (lg_sl ([.ref (ad 0), .int a1, .int a2, .int a3])).length) Slot.unset).toArray = ls at hl ⊢
  have hl : lv_has ls 4 [(0, .ref (ad 0)), (1, .int a1), (2, .int a2), (3, .int a3)] := hl
  refine lv_aload_n hx hb dX6_reason_0 rfl (lv_at hl 0 rfl) ?_
  refine lv_iconst (v := (0 : Int32)) hx hb dX6_reason_1 (by decide) ?_
  obtain ⟨sg1, esg1, hf⟩ := lt_ex hf
  refine pf_X6_47 hx hb hts hown hK hP hD hS dX6_reason_2 (fun H locs hP hS => ?_)
  rw [← esg1] at hP
  refine lv_aload_n hx hb dX6_reason_5 rfl (lv_at hl 0 rfl) ?_
  refine lv_iload_n hx hb dX6_reason_6 rfl (lv_at hl 1 rfl) ?_
  obtain ⟨r3, q2, hf⟩ := bd_so hf
  refine cl_i (va_runV (As := [.int a1]) (rest := []) ⟨hx, hb, hml, hown, hts⟩ (c_X6_isDriver l g ad X _ sg1 a1 r3 q2) (cwV 1 hts gl_X6_178 rfl rfl rfl yd_X6_isDriver ⟨Nat.le_of_ble_eq_true rfl, Nat.le_of_ble_eq_true rfl⟩) (preV_of hK hP (hD sg1) (dd_at (by decide) cm_0) rfl) rfl rfl hl.1 rfl (lv_room (Nat.le_of_ble_eq_true rfl)) dX6_reason_7 ⟨Nat.le_of_ble_eq_true rfl, Nat.le_of_ble_eq_true rfl⟩) hS (fun q h => dd_A_mono hS.1 h) (fun q h => dd_A_mono hS.1 h) (fun H locs hP hS => ?_)
  refine lv_if_eq (tgt := 38) hx hb dX6_reason_10 (by decide) (fun c4 => ?_) (fun c4 => ?_)
  · have hf := if_t c4 hf
    exact hL_38 sg1 _ _ _ hf hP hS (lv_sub hl [0] rfl)
  · have hf := if_f c4 hf
    refine lv_iload_n hx hb dX6_reason_13 rfl (lv_at hl 2 rfl) ?_
    obtain ⟨r6, q5, hf⟩ := bd_so hf
    refine cl_i (va_runS (As := [.int a2]) (rest := []) ⟨hx, hb, hml, hown, hts⟩ (c_X6_isDay l g ad X _ sg1 a2 r6 q5) (cwS 1 hts gl_X6_157 rfl rfl rfl yd_X6_isDay ⟨Nat.le_of_ble_eq_true rfl, Nat.le_of_ble_eq_true rfl⟩) (preS_of hK hP (hD sg1)) rfl rfl hl.1 rfl (lv_room (Nat.le_of_ble_eq_true rfl)) dX6_reason_14 ⟨Nat.le_of_ble_eq_true rfl, Nat.le_of_ble_eq_true rfl⟩) hS (fun q h => dd_A_mono hS.1 h) (fun q h => dd_A_mono hS.1 h) (fun H locs hP hS => ?_)
    refine lv_if_eq (tgt := 38) hx hb dX6_reason_17 (by decide) (fun c7 => ?_) (fun c7 => ?_)
    · have hf := if_t c7 hf
      exact hL_38 sg1 _ _ _ hf hP hS (lv_sub hl [0] rfl)
    · have hf := if_f c7 hf
      refine lv_aload_n hx hb dX6_reason_20 rfl (lv_at hl 0 rfl) ?_
      refine lv_iload_n hx hb dX6_reason_21 rfl (lv_at hl 3 rfl) ?_
      obtain ⟨r9, q8, hf⟩ := bd_so hf
      refine cl_i (va_runV (As := [.int a3]) (rest := []) ⟨hx, hb, hml, hown, hts⟩ (c_X6_isDuty l g ad X _ sg1 a3 r9 q8) (cwV 1 hts gl_X6_126 rfl rfl rfl yd_X6_isDuty ⟨Nat.le_of_ble_eq_true rfl, Nat.le_of_ble_eq_true rfl⟩) (preV_of hK hP (hD sg1) (dd_at (by decide) cm_0) rfl) rfl rfl hl.1 rfl (lv_room (Nat.le_of_ble_eq_true rfl)) dX6_reason_22 ⟨Nat.le_of_ble_eq_true rfl, Nat.le_of_ble_eq_true rfl⟩) hS (fun q h => dd_A_mono hS.1 h) (fun q h => dd_A_mono hS.1 h) (fun H locs hP hS => ?_)
      refine lv_if_eq (tgt := 38) hx hb dX6_reason_25 (by decide) (fun c10 => ?_) (fun c10 => ?_)
      · have hf := if_t c10 hf
        exact hL_38 sg1 _ _ _ hf hP hS (lv_sub hl [0] rfl)
      · have hf := if_f c10 hf
        refine lv_aload_n hx hb dX6_reason_28 rfl (lv_at hl 0 rfl) ?_
        refine lv_iload_n hx hb dX6_reason_29 rfl (lv_at hl 1 rfl) ?_
        refine lv_iload_n hx hb dX6_reason_30 rfl (lv_at hl 2 rfl) ?_
        refine lv_iload_n hx hb dX6_reason_31 rfl (lv_at hl 3 rfl) ?_
        obtain ⟨r13, sg12, q11, hf⟩ := bd2_so hf
        refine cl_i (va_runV (As := [.int a1, .int a2, .int a3]) (rest := []) ⟨hx, hb, hml, hown, hts⟩ (c_X6_reasonFor l g ad X _ sg1 a1 a2 a3 r13 sg12 q11) (cwV 3 hts gl_X6_181 rfl rfl rfl yd_X6_reasonFor ⟨Nat.le_of_ble_eq_true rfl, Nat.le_of_ble_eq_true rfl⟩) (preV_of hK hP (hD sg1) (dd_at (by decide) cm_0) rfl) rfl rfl hl.1 rfl (lv_room (Nat.le_of_ble_eq_true rfl)) dX6_reason_32 ⟨Nat.le_of_ble_eq_true rfl, Nat.le_of_ble_eq_true rfl⟩) hS (fun q h => dd_A_mono hS.1 h) (fun q h => dd_A_mono hS.1 h) (fun H locs hP hS => ?_)
        refine lv_goto (tgt := 43) hx hb dX6_reason_35 (by decide) ?_
        exact hL_43 sg12 r13 _ _ _ hf hP hS (lv_sub hl [] rfl)
set_option maxHeartbeats 4000000 in
set_option maxRecDepth 100000 in
theorem c_X6_give (l : Launch) (g : dd_G) (ad : Nat → Nat) (X : va_W) (sz : Nat) (sg : dd_S) (a1 : Int32) (a2 : Int32) (a3 : Int32) (r0 : Int32) (s0 : dd_S) (hf : f_X6_give sg a1 a2 a3 = some (r0, s0)) : Met l yX6_give (lw_ws yX6_give cX6_give 4 (some .int)) ({ frames := 5, cells := 0, slots := 0, locals := 122 } : Room) (va_Pc [.ref (ad 0), .int a1, .int a2, .int a3] (PreW g (WM g ad sg ++ X) sz)) (QI g (WM g ad s0 ++ X) (dd_A 9 ad X sz) r0) 0 0 (dd_A 9 ad X sz) := by
  refine Met.ofW (cc := cX6_give) (maxL := 4) (ret := some .int) (by decide) rfl ?_
  intro p e s m args below meth c s₁ B hml hv
  obtain ⟨rfl, rfl, hP, hK, hD0⟩ := hv
  have hx := B.exec
  have hb := B.bytes
  have hr := B.returns
  have hts := atoms_spec (ws := (lw_ws yX6_give cX6_give 4 (some .int))) B.pre
  have hts : ∀ w ∈ lw_all, w.before _ s = true := fun w h => hts w (List.mem_cons_of_mem _ h)
  have hown : s.vm.findClass RX6 = some m.cls := findClass_of_methodNamed B.named
  have hlocks := B.notSynchronized
  have hD : ∀ s2 : dd_S, va_D (dd_A 9 ad X s.heap.size) (WM g ad s2 ++ X) := fun s2 => dd_D (dd_A_D hD0)
  have hS : va_S (dd_A 9 ad X s.heap.size) s.heap s.heap [] := va_S.rf
  have hL_28 : ∀ (sg : dd_S) (H : Heap) (locs : List Loc) (ls : Array Slot), f_X6_give_28 a1 a2 a3 sg = some (r0, s0) → va_P g.1 vwCl (WM g ad sg ++ X) H → va_S (dd_A 9 ad X s.heap.size) s.heap H locs → lv_has ls 4 [(0, .ref (ad 0))] → W p l e (headSpec (lw_ws yX6_give cX6_give 4 (some .int)) ({ frames := 5, cells := 0, slots := 0, locals := 122 } : Room)).room s m ([.ref (ad 0), .int a1, .int a2, .int a3] : List Value).toArray below meth c H locs 0 0 (MQ below (QI g (WM g ad s0 ++ X) (dd_A 9 ad X s.heap.size) r0) ([.ref (ad 0), .int a1, .int a2, .int a3] : List Value).toArray s 0 0 (dd_A 9 ad X s.heap.size)) (F0 m 28 ls []) := by
    intro sg H locs ls hf hP hS hl
    unfold f_X6_give_28 at hf
    refine lv_aload_n hx hb dX6_give_28 rfl (lv_at hl 0 rfl) ?_
    refine lv_iconst (v := (1 : Int32)) hx hb dX6_give_29 (by decide) ?_
    obtain ⟨r25, sg24, q23, hf⟩ := bd2_so hf
    refine cl_i (va_runV (As := [.int (1 : Int32)]) (rest := []) ⟨hx, hb, hml, hown, hts⟩ (c_X6_no l g ad X _ sg (1 : Int32) r25 sg24 q23) (cwV 1 hts gl_X6_64 rfl rfl rfl yd_X6_no ⟨Nat.le_of_ble_eq_true rfl, Nat.le_of_ble_eq_true rfl⟩) (preV_of hK hP (hD sg) (dd_at (by decide) cm_0) rfl) rfl rfl hl.1 rfl (lv_room (Nat.le_of_ble_eq_true rfl)) dX6_give_30 ⟨Nat.le_of_ble_eq_true rfl, Nat.le_of_ble_eq_true rfl⟩) hS (fun q h => dd_A_mono hS.1 h) (fun q h => dd_A_mono hS.1 h) (fun H locs hP hS => ?_)
    exact W.iret (v := r25) hx hb hr (fun t ht hW => ⟨⟨r25, (), rfl, (so2 hf).1, P_at2 (so2 hf).2 ht hP⟩, hS.F ht⟩) hS.2.2 dX6_give_33
  unfold f_X6_give at hf
  have hl := lv_entry ([.ref (ad 0), .int a1, .int a2, .int a3]) (n := 4) (Nat.le_of_ble_eq_true rfl)
  rw [lg_entry_eq]
  generalize (lg_sl ([.ref (ad 0), .int a1, .int a2, .int a3]) ++ List.replicate (4 - (lg_sl ([.ref (ad 0), .int a1, .int a2, .int a3])).length) Slot.unset).toArray = ls at hl ⊢
  have hl : lv_has ls 4 [(0, .ref (ad 0)), (1, .int a1), (2, .int a2), (3, .int a3)] := hl
  refine lv_aload_n hx hb dX6_give_0 rfl (lv_at hl 0 rfl) ?_
  refine lv_iconst (v := (0 : Int32)) hx hb dX6_give_1 (by decide) ?_
  obtain ⟨sg1, esg1, hf⟩ := lt_ex hf
  refine pf_X6_47 hx hb hts hown hK hP hD hS dX6_give_2 (fun H locs hP hS => ?_)
  rw [← esg1] at hP
  refine lv_aload_n hx hb dX6_give_5 rfl (lv_at hl 0 rfl) ?_
  refine lv_iload_n hx hb dX6_give_6 rfl (lv_at hl 1 rfl) ?_
  obtain ⟨r3, q2, hf⟩ := bd_so hf
  refine cl_i (va_runV (As := [.int a1]) (rest := []) ⟨hx, hb, hml, hown, hts⟩ (c_X6_isDriver l g ad X _ sg1 a1 r3 q2) (cwV 1 hts gl_X6_178 rfl rfl rfl yd_X6_isDriver ⟨Nat.le_of_ble_eq_true rfl, Nat.le_of_ble_eq_true rfl⟩) (preV_of hK hP (hD sg1) (dd_at (by decide) cm_0) rfl) rfl rfl hl.1 rfl (lv_room (Nat.le_of_ble_eq_true rfl)) dX6_give_7 ⟨Nat.le_of_ble_eq_true rfl, Nat.le_of_ble_eq_true rfl⟩) hS (fun q h => dd_A_mono hS.1 h) (fun q h => dd_A_mono hS.1 h) (fun H locs hP hS => ?_)
  refine lv_if_eq (tgt := 28) hx hb dX6_give_10 (by decide) (fun c4 => ?_) (fun c4 => ?_)
  · have hf := if_t c4 hf
    exact hL_28 sg1 _ _ _ hf hP hS (lv_sub hl [0] rfl)
  · have hf := if_f c4 hf
    refine lv_iload_n hx hb dX6_give_13 rfl (lv_at hl 2 rfl) ?_
    obtain ⟨r6, q5, hf⟩ := bd_so hf
    refine cl_i (va_runS (As := [.int a2]) (rest := []) ⟨hx, hb, hml, hown, hts⟩ (c_X6_isDay l g ad X _ sg1 a2 r6 q5) (cwS 1 hts gl_X6_157 rfl rfl rfl yd_X6_isDay ⟨Nat.le_of_ble_eq_true rfl, Nat.le_of_ble_eq_true rfl⟩) (preS_of hK hP (hD sg1)) rfl rfl hl.1 rfl (lv_room (Nat.le_of_ble_eq_true rfl)) dX6_give_14 ⟨Nat.le_of_ble_eq_true rfl, Nat.le_of_ble_eq_true rfl⟩) hS (fun q h => dd_A_mono hS.1 h) (fun q h => dd_A_mono hS.1 h) (fun H locs hP hS => ?_)
    refine lv_if_eq (tgt := 28) hx hb dX6_give_17 (by decide) (fun c7 => ?_) (fun c7 => ?_)
    · have hf := if_t c7 hf
      exact hL_28 sg1 _ _ _ hf hP hS (lv_sub hl [0] rfl)
    · have hf := if_f c7 hf
      refine lv_aload_n hx hb dX6_give_20 rfl (lv_at hl 0 rfl) ?_
      refine lv_iload_n hx hb dX6_give_21 rfl (lv_at hl 3 rfl) ?_
      obtain ⟨r9, q8, hf⟩ := bd_so hf
      refine cl_i (va_runV (As := [.int a3]) (rest := []) ⟨hx, hb, hml, hown, hts⟩ (c_X6_isDuty l g ad X _ sg1 a3 r9 q8) (cwV 1 hts gl_X6_126 rfl rfl rfl yd_X6_isDuty ⟨Nat.le_of_ble_eq_true rfl, Nat.le_of_ble_eq_true rfl⟩) (preV_of hK hP (hD sg1) (dd_at (by decide) cm_0) rfl) rfl rfl hl.1 rfl (lv_room (Nat.le_of_ble_eq_true rfl)) dX6_give_22 ⟨Nat.le_of_ble_eq_true rfl, Nat.le_of_ble_eq_true rfl⟩) hS (fun q h => dd_A_mono hS.1 h) (fun q h => dd_A_mono hS.1 h) (fun H locs hP hS => ?_)
      refine lv_if_ne (tgt := 34) hx hb dX6_give_25 (by decide) (fun c10 => ?_) (fun c10 => ?_)
      · have hf := if_f c10 hf
        refine lv_aload_n hx hb dX6_give_34 rfl (lv_at hl 0 rfl) ?_
        refine lv_iload_n hx hb dX6_give_35 rfl (lv_at hl 1 rfl) ?_
        refine lv_iload_n hx hb dX6_give_36 rfl (lv_at hl 2 rfl) ?_
        refine lv_iload_n hx hb dX6_give_37 rfl (lv_at hl 3 rfl) ?_
        obtain ⟨r13, sg12, q11, hf⟩ := bd2_so hf
        refine cl_i (va_runV (As := [.int a1, .int a2, .int a3]) (rest := []) ⟨hx, hb, hml, hown, hts⟩ (c_X6_reasonFor l g ad X _ sg1 a1 a2 a3 r13 sg12 q11) (cwV 3 hts gl_X6_181 rfl rfl rfl yd_X6_reasonFor ⟨Nat.le_of_ble_eq_true rfl, Nat.le_of_ble_eq_true rfl⟩) (preV_of hK hP (hD sg1) (dd_at (by decide) cm_0) rfl) rfl rfl hl.1 rfl (lv_room (Nat.le_of_ble_eq_true rfl)) dX6_give_38 ⟨Nat.le_of_ble_eq_true rfl, Nat.le_of_ble_eq_true rfl⟩) hS (fun q h => dd_A_mono hS.1 h) (fun q h => dd_A_mono hS.1 h) (fun H locs hP hS => ?_)
        refine lv_if_eq (tgt := 50) hx hb dX6_give_41 (by decide) (fun c14 => ?_) (fun c14 => ?_)
        · have hf := if_t c14 hf
          refine lv_aload_n hx hb dX6_give_50 rfl (lv_at hl 0 rfl) ?_
          refine gf_X6_28 hx hb hts hown hK hP dX6_give_51 ?_
          refine lv_bipush (v := (7 : Int32)) hx hb dX6_give_54 (by decide) ?_
          refine lv_iload_n hx hb dX6_give_56 rfl (lv_at hl 1 rfl) ?_
          refine lv_imul hx hb dX6_give_57 ?_
          refine lv_iload_n hx hb dX6_give_58 rfl (lv_at hl 2 rfl) ?_
          refine lv_iadd hx hb dX6_give_59 ?_
          refine lv_iload_n hx hb dX6_give_60 rfl (lv_at hl 3 rfl) ?_
          obtain ⟨hi15, hf⟩ := gd_so hf
          obtain ⟨sg16, esg16, hf⟩ := lt_ex hf
          refine W_iast hx hb hK hP hD hS 7 (by decide) (fun _ => cm_7) (ix_in hi15) dX6_give_61 (fun H locs hP hS => ?_)
          rw [← esg16] at hP
          refine lv_aload_n hx hb dX6_give_62 rfl (lv_at hl 0 rfl) ?_
          refine lv_iload_n hx hb dX6_give_63 rfl (lv_at hl 1 rfl) ?_
          obtain ⟨r19, sg18, q17, hf⟩ := bd2_so hf
          refine cl_i (va_runV (As := [.int a1]) (rest := []) ⟨hx, hb, hml, hown, hts⟩ (c_X6_weekOf l g ad X _ sg16 a1 r19 sg18 q17) (cwV 1 hts gl_X6_172 rfl rfl rfl yd_X6_weekOf ⟨Nat.le_of_ble_eq_true rfl, Nat.le_of_ble_eq_true rfl⟩) (preV_of hK hP (hD sg16) (dd_at (by decide) cm_0) rfl) rfl rfl hl.1 rfl (lv_room (Nat.le_of_ble_eq_true rfl)) dX6_give_64 ⟨Nat.le_of_ble_eq_true rfl, Nat.le_of_ble_eq_true rfl⟩) hS (fun q h => dd_A_mono hS.1 h) (fun q h => dd_A_mono hS.1 h) (fun H locs hP hS => ?_)
          exact W.iret (v := r19) hx hb hr (fun t ht hW => ⟨⟨r19, (), rfl, (so2 hf).1, P_at2 (so2 hf).2 ht hP⟩, hS.F ht⟩) hS.2.2 dX6_give_67
        · have hf := if_f c14 hf
          refine lv_aload_n hx hb dX6_give_44 rfl (lv_at hl 0 rfl) ?_
          refine lv_iconst (v := (2 : Int32)) hx hb dX6_give_45 (by decide) ?_
          obtain ⟨r22, sg21, q20, hf⟩ := bd2_so hf
          refine cl_i (va_runV (As := [.int (2 : Int32)]) (rest := []) ⟨hx, hb, hml, hown, hts⟩ (c_X6_no l g ad X _ sg12 (2 : Int32) r22 sg21 q20) (cwV 1 hts gl_X6_64 rfl rfl rfl yd_X6_no ⟨Nat.le_of_ble_eq_true rfl, Nat.le_of_ble_eq_true rfl⟩) (preV_of hK hP (hD sg12) (dd_at (by decide) cm_0) rfl) rfl rfl hl.1 rfl (lv_room (Nat.le_of_ble_eq_true rfl)) dX6_give_46 ⟨Nat.le_of_ble_eq_true rfl, Nat.le_of_ble_eq_true rfl⟩) hS (fun q h => dd_A_mono hS.1 h) (fun q h => dd_A_mono hS.1 h) (fun H locs hP hS => ?_)
          exact W.iret (v := r22) hx hb hr (fun t ht hW => ⟨⟨r22, (), rfl, (so2 hf).1, P_at2 (so2 hf).2 ht hP⟩, hS.F ht⟩) hS.2.2 dX6_give_49
      · have hf := if_t c10 hf
        exact hL_28 sg1 _ _ _ hf hP hS (lv_sub hl [0] rfl)
set_option maxHeartbeats 4000000 in
set_option maxRecDepth 100000 in
theorem c_X6_takeBack (l : Launch) (g : dd_G) (ad : Nat → Nat) (X : va_W) (sz : Nat) (sg : dd_S) (a1 : Int32) (a2 : Int32) (r0 : Int32) (s0 : dd_S) (hf : f_X6_takeBack sg a1 a2 = some (r0, s0)) : Met l yX6_takeBack (lw_ws yX6_takeBack cX6_takeBack 4 (some .int)) ({ frames := 3, cells := 0, slots := 0, locals := 64 } : Room) (va_Pc [.ref (ad 0), .int a1, .int a2] (PreW g (WM g ad sg ++ X) sz)) (QI g (WM g ad s0 ++ X) (dd_A 9 ad X sz) r0) 0 0 (dd_A 9 ad X sz) := by
  refine Met.ofW (cc := cX6_takeBack) (maxL := 4) (ret := some .int) (by decide) rfl ?_
  intro p e s m args below meth c s₁ B hml hv
  obtain ⟨rfl, rfl, hP, hK, hD0⟩ := hv
  have hx := B.exec
  have hb := B.bytes
  have hr := B.returns
  have hts := atoms_spec (ws := (lw_ws yX6_takeBack cX6_takeBack 4 (some .int))) B.pre
  have hts : ∀ w ∈ lw_all, w.before _ s = true := fun w h => hts w (List.mem_cons_of_mem _ h)
  have hown : s.vm.findClass RX6 = some m.cls := findClass_of_methodNamed B.named
  have hlocks := B.notSynchronized
  have hD : ∀ s2 : dd_S, va_D (dd_A 9 ad X s.heap.size) (WM g ad s2 ++ X) := fun s2 => dd_D (dd_A_D hD0)
  have hS : va_S (dd_A 9 ad X s.heap.size) s.heap s.heap [] := va_S.rf
  have hL_20 : ∀ (sg : dd_S) (H : Heap) (locs : List Loc) (ls : Array Slot), f_X6_takeBack_20 a1 a2 sg = some (r0, s0) → va_P g.1 vwCl (WM g ad sg ++ X) H → va_S (dd_A 9 ad X s.heap.size) s.heap H locs → lv_has ls 4 [(0, .ref (ad 0))] → W p l e (headSpec (lw_ws yX6_takeBack cX6_takeBack 4 (some .int)) ({ frames := 3, cells := 0, slots := 0, locals := 64 } : Room)).room s m ([.ref (ad 0), .int a1, .int a2] : List Value).toArray below meth c H locs 0 0 (MQ below (QI g (WM g ad s0 ++ X) (dd_A 9 ad X s.heap.size) r0) ([.ref (ad 0), .int a1, .int a2] : List Value).toArray s 0 0 (dd_A 9 ad X s.heap.size)) (F0 m 20 ls []) := by
    intro sg H locs ls hf hP hS hl
    unfold f_X6_takeBack_20 at hf
    refine lv_aload_n hx hb dX6_takeBack_20 rfl (lv_at hl 0 rfl) ?_
    refine lv_iconst (v := (1 : Int32)) hx hb dX6_takeBack_21 (by decide) ?_
    obtain ⟨r18, sg17, q16, hf⟩ := bd2_so hf
    refine cl_i (va_runV (As := [.int (1 : Int32)]) (rest := []) ⟨hx, hb, hml, hown, hts⟩ (c_X6_no l g ad X _ sg (1 : Int32) r18 sg17 q16) (cwV 1 hts gl_X6_64 rfl rfl rfl yd_X6_no ⟨Nat.le_of_ble_eq_true rfl, Nat.le_of_ble_eq_true rfl⟩) (preV_of hK hP (hD sg) (dd_at (by decide) cm_0) rfl) rfl rfl hl.1 rfl (lv_room (Nat.le_of_ble_eq_true rfl)) dX6_takeBack_22 ⟨Nat.le_of_ble_eq_true rfl, Nat.le_of_ble_eq_true rfl⟩) hS (fun q h => dd_A_mono hS.1 h) (fun q h => dd_A_mono hS.1 h) (fun H locs hP hS => ?_)
    exact W.iret (v := r18) hx hb hr (fun t ht hW => ⟨⟨r18, (), rfl, (so2 hf).1, P_at2 (so2 hf).2 ht hP⟩, hS.F ht⟩) hS.2.2 dX6_takeBack_25
  unfold f_X6_takeBack at hf
  have hl := lv_entry ([.ref (ad 0), .int a1, .int a2]) (n := 4) (Nat.le_of_ble_eq_true rfl)
  rw [lg_entry_eq]
  generalize (lg_sl ([.ref (ad 0), .int a1, .int a2]) ++ List.replicate (4 - (lg_sl ([.ref (ad 0), .int a1, .int a2])).length) Slot.unset).toArray = ls at hl ⊢
  have hl : lv_has ls 4 [(0, .ref (ad 0)), (1, .int a1), (2, .int a2)] := hl
  refine lv_aload_n hx hb dX6_takeBack_0 rfl (lv_at hl 0 rfl) ?_
  refine lv_iconst (v := (0 : Int32)) hx hb dX6_takeBack_1 (by decide) ?_
  obtain ⟨sg1, esg1, hf⟩ := lt_ex hf
  refine pf_X6_47 hx hb hts hown hK hP hD hS dX6_takeBack_2 (fun H locs hP hS => ?_)
  rw [← esg1] at hP
  refine lv_aload_n hx hb dX6_takeBack_5 rfl (lv_at hl 0 rfl) ?_
  refine lv_iload_n hx hb dX6_takeBack_6 rfl (lv_at hl 1 rfl) ?_
  obtain ⟨r3, q2, hf⟩ := bd_so hf
  refine cl_i (va_runV (As := [.int a1]) (rest := []) ⟨hx, hb, hml, hown, hts⟩ (c_X6_isDriver l g ad X _ sg1 a1 r3 q2) (cwV 1 hts gl_X6_178 rfl rfl rfl yd_X6_isDriver ⟨Nat.le_of_ble_eq_true rfl, Nat.le_of_ble_eq_true rfl⟩) (preV_of hK hP (hD sg1) (dd_at (by decide) cm_0) rfl) rfl rfl hl.1 rfl (lv_room (Nat.le_of_ble_eq_true rfl)) dX6_takeBack_7 ⟨Nat.le_of_ble_eq_true rfl, Nat.le_of_ble_eq_true rfl⟩) hS (fun q h => dd_A_mono hS.1 h) (fun q h => dd_A_mono hS.1 h) (fun H locs hP hS => ?_)
  refine lv_if_eq (tgt := 20) hx hb dX6_takeBack_10 (by decide) (fun c4 => ?_) (fun c4 => ?_)
  · have hf := if_t c4 hf
    exact hL_20 sg1 _ _ _ hf hP hS (lv_sub hl [0] rfl)
  · have hf := if_f c4 hf
    refine lv_iload_n hx hb dX6_takeBack_13 rfl (lv_at hl 2 rfl) ?_
    obtain ⟨r6, q5, hf⟩ := bd_so hf
    refine cl_i (va_runS (As := [.int a2]) (rest := []) ⟨hx, hb, hml, hown, hts⟩ (c_X6_isDay l g ad X _ sg1 a2 r6 q5) (cwS 1 hts gl_X6_157 rfl rfl rfl yd_X6_isDay ⟨Nat.le_of_ble_eq_true rfl, Nat.le_of_ble_eq_true rfl⟩) (preS_of hK hP (hD sg1)) rfl rfl hl.1 rfl (lv_room (Nat.le_of_ble_eq_true rfl)) dX6_takeBack_14 ⟨Nat.le_of_ble_eq_true rfl, Nat.le_of_ble_eq_true rfl⟩) hS (fun q h => dd_A_mono hS.1 h) (fun q h => dd_A_mono hS.1 h) (fun H locs hP hS => ?_)
    refine lv_if_ne (tgt := 26) hx hb dX6_takeBack_17 (by decide) (fun c7 => ?_) (fun c7 => ?_)
    · have hf := if_f c7 hf
      refine lv_aload_n hx hb dX6_takeBack_26 rfl (lv_at hl 0 rfl) ?_
      refine lv_iload_n hx hb dX6_takeBack_27 rfl (lv_at hl 1 rfl) ?_
      refine lv_iload_n hx hb dX6_takeBack_28 rfl (lv_at hl 2 rfl) ?_
      obtain ⟨r9, q8, hf⟩ := bd_so hf
      refine cl_i (va_runV (As := [.int a1, .int a2]) (rest := []) ⟨hx, hb, hml, hown, hts⟩ (c_X6_at l g ad X _ sg1 a1 a2 r9 q8) (cwV 2 hts gl_X6_160 rfl rfl rfl yd_X6_at ⟨Nat.le_of_ble_eq_true rfl, Nat.le_of_ble_eq_true rfl⟩) (preV_of hK hP (hD sg1) (dd_at (by decide) cm_0) rfl) rfl rfl hl.1 rfl (lv_room (Nat.le_of_ble_eq_true rfl)) dX6_takeBack_29 ⟨Nat.le_of_ble_eq_true rfl, Nat.le_of_ble_eq_true rfl⟩) hS (fun q h => dd_A_mono hS.1 h) (fun q h => dd_A_mono hS.1 h) (fun H locs hP hS => ?_)
      refine lv_istore_n (lv' := [(3, .int r9), (0, .ref (ad 0)), (1, .int a1), (2, .int a2)]) hx hb dX6_takeBack_32 rfl hl (by decide) rfl (fun ls hl => ?_)
      refine lv_iload_n hx hb dX6_takeBack_33 rfl (lv_at hl 0 rfl) ?_
      refine lv_iconst (v := (-1 : Int32)) hx hb dX6_takeBack_34 (by decide) ?_
      refine lv_icmp_ne (tgt := 44) hx hb dX6_takeBack_35 (by decide) (fun c10 => ?_) (fun c10 => ?_)
      · have hf := if_f c10 hf
        refine lv_aload_n hx hb dX6_takeBack_44 rfl (lv_at hl 1 rfl) ?_
        refine gf_X6_28 hx hb hts hown hK hP dX6_takeBack_45 ?_
        refine lv_bipush (v := (7 : Int32)) hx hb dX6_takeBack_48 (by decide) ?_
        refine lv_iload_n hx hb dX6_takeBack_50 rfl (lv_at hl 2 rfl) ?_
        refine lv_imul hx hb dX6_takeBack_51 ?_
        refine lv_iload_n hx hb dX6_takeBack_52 rfl (lv_at hl 3 rfl) ?_
        refine lv_iadd hx hb dX6_takeBack_53 ?_
        refine lv_iconst (v := (-1 : Int32)) hx hb dX6_takeBack_54 (by decide) ?_
        obtain ⟨hi11, hf⟩ := gd_so hf
        obtain ⟨sg12, esg12, hf⟩ := lt_ex hf
        refine W_iast hx hb hK hP hD hS 7 (by decide) (fun _ => cm_7) (ix_in hi11) dX6_takeBack_55 (fun H locs hP hS => ?_)
        rw [← esg12] at hP
        refine lv_iload_n hx hb dX6_takeBack_56 rfl (lv_at hl 0 rfl) ?_
        exact W.iret (v := r9) hx hb hr (fun t ht hW => ⟨⟨r9, (), rfl, (so2 hf).1, P_at2 (so2 hf).2 ht hP⟩, hS.F ht⟩) hS.2.2 dX6_takeBack_57
      · have hf := if_t c10 hf
        refine lv_aload_n hx hb dX6_takeBack_38 rfl (lv_at hl 1 rfl) ?_
        refine lv_iconst (v := (2 : Int32)) hx hb dX6_takeBack_39 (by decide) ?_
        obtain ⟨r15, sg14, q13, hf⟩ := bd2_so hf
        refine cl_i (va_runV (As := [.int (2 : Int32)]) (rest := []) ⟨hx, hb, hml, hown, hts⟩ (c_X6_no l g ad X _ sg1 (2 : Int32) r15 sg14 q13) (cwV 1 hts gl_X6_64 rfl rfl rfl yd_X6_no ⟨Nat.le_of_ble_eq_true rfl, Nat.le_of_ble_eq_true rfl⟩) (preV_of hK hP (hD sg1) (dd_at (by decide) cm_0) rfl) rfl rfl hl.1 rfl (lv_room (Nat.le_of_ble_eq_true rfl)) dX6_takeBack_40 ⟨Nat.le_of_ble_eq_true rfl, Nat.le_of_ble_eq_true rfl⟩) hS (fun q h => dd_A_mono hS.1 h) (fun q h => dd_A_mono hS.1 h) (fun H locs hP hS => ?_)
        exact W.iret (v := r15) hx hb hr (fun t ht hW => ⟨⟨r15, (), rfl, (so2 hf).1, P_at2 (so2 hf).2 ht hP⟩, hS.F ht⟩) hS.2.2 dX6_takeBack_43
    · have hf := if_t c7 hf
      exact hL_20 sg1 _ _ _ hf hP hS (lv_sub hl [0] rfl)
set_option maxHeartbeats 4000000 in
set_option maxRecDepth 100000 in
theorem c_X6_given (l : Launch) (g : dd_G) (ad : Nat → Nat) (X : va_W) (sz : Nat) (sg : dd_S) (a1 : Int32) (a2 : Int32) (r0 : Int32) (s0 : dd_S) (hf : f_X6_given sg a1 a2 = some (r0, s0)) : Met l yX6_given (lw_ws yX6_given cX6_given 3 (some .int)) ({ frames := 3, cells := 0, slots := 0, locals := 64 } : Room) (va_Pc [.ref (ad 0), .int a1, .int a2] (PreW g (WM g ad sg ++ X) sz)) (QI g (WM g ad s0 ++ X) (dd_A 9 ad X sz) r0) 0 0 (dd_A 9 ad X sz) := by
  refine Met.ofW (cc := cX6_given) (maxL := 3) (ret := some .int) (by decide) rfl ?_
  intro p e s m args below meth c s₁ B hml hv
  obtain ⟨rfl, rfl, hP, hK, hD0⟩ := hv
  have hx := B.exec
  have hb := B.bytes
  have hr := B.returns
  have hts := atoms_spec (ws := (lw_ws yX6_given cX6_given 3 (some .int))) B.pre
  have hts : ∀ w ∈ lw_all, w.before _ s = true := fun w h => hts w (List.mem_cons_of_mem _ h)
  have hown : s.vm.findClass RX6 = some m.cls := findClass_of_methodNamed B.named
  have hlocks := B.notSynchronized
  have hD : ∀ s2 : dd_S, va_D (dd_A 9 ad X s.heap.size) (WM g ad s2 ++ X) := fun s2 => dd_D (dd_A_D hD0)
  have hS : va_S (dd_A 9 ad X s.heap.size) s.heap s.heap [] := va_S.rf
  have hL_34 : ∀ (sg : dd_S) (t0 : Int32) (H : Heap) (locs : List Loc) (ls : Array Slot), f_X6_given_34 a1 a2 sg t0 = some (r0, s0) → va_P g.1 vwCl (WM g ad sg ++ X) H → va_S (dd_A 9 ad X s.heap.size) s.heap H locs → lv_has ls 3 [] → W p l e (headSpec (lw_ws yX6_given cX6_given 3 (some .int)) ({ frames := 3, cells := 0, slots := 0, locals := 64 } : Room)).room s m ([.ref (ad 0), .int a1, .int a2] : List Value).toArray below meth c H locs 0 0 (MQ below (QI g (WM g ad s0 ++ X) (dd_A 9 ad X s.heap.size) r0) ([.ref (ad 0), .int a1, .int a2] : List Value).toArray s 0 0 (dd_A 9 ad X s.heap.size)) (F0 m 34 ls [.int t0]) := by
    intro sg t0 H locs ls hf hP hS hl
    unfold f_X6_given_34 at hf
    exact W.iret (v := t0) hx hb hr (fun t ht hW => ⟨⟨t0, (), rfl, (so2 hf).1, P_at2 (so2 hf).2 ht hP⟩, hS.F ht⟩) hS.2.2 dX6_given_34
  have hL_29 : ∀ (sg : dd_S) (H : Heap) (locs : List Loc) (ls : Array Slot), f_X6_given_29 a1 a2 sg = some (r0, s0) → va_P g.1 vwCl (WM g ad sg ++ X) H → va_S (dd_A 9 ad X s.heap.size) s.heap H locs → lv_has ls 3 [(0, .ref (ad 0))] → W p l e (headSpec (lw_ws yX6_given cX6_given 3 (some .int)) ({ frames := 3, cells := 0, slots := 0, locals := 64 } : Room)).room s m ([.ref (ad 0), .int a1, .int a2] : List Value).toArray below meth c H locs 0 0 (MQ below (QI g (WM g ad s0 ++ X) (dd_A 9 ad X s.heap.size) r0) ([.ref (ad 0), .int a1, .int a2] : List Value).toArray s 0 0 (dd_A 9 ad X s.heap.size)) (F0 m 29 ls []) := by
    intro sg H locs ls hf hP hS hl
    unfold f_X6_given_29 at hf
    refine lv_aload_n hx hb dX6_given_29 rfl (lv_at hl 0 rfl) ?_
    refine lv_iconst (v := (1 : Int32)) hx hb dX6_given_30 (by decide) ?_
    obtain ⟨r12, sg11, q10, hf⟩ := bd2_so hf
    refine cl_i (va_runV (As := [.int (1 : Int32)]) (rest := []) ⟨hx, hb, hml, hown, hts⟩ (c_X6_no l g ad X _ sg (1 : Int32) r12 sg11 q10) (cwV 1 hts gl_X6_64 rfl rfl rfl yd_X6_no ⟨Nat.le_of_ble_eq_true rfl, Nat.le_of_ble_eq_true rfl⟩) (preV_of hK hP (hD sg) (dd_at (by decide) cm_0) rfl) rfl rfl hl.1 rfl (lv_room (Nat.le_of_ble_eq_true rfl)) dX6_given_31 ⟨Nat.le_of_ble_eq_true rfl, Nat.le_of_ble_eq_true rfl⟩) hS (fun q h => dd_A_mono hS.1 h) (fun q h => dd_A_mono hS.1 h) (fun H locs hP hS => ?_)
    exact hL_34 sg11 r12 _ _ _ hf hP hS (lv_sub hl [] rfl)
  unfold f_X6_given at hf
  have hl := lv_entry ([.ref (ad 0), .int a1, .int a2]) (n := 3) (Nat.le_of_ble_eq_true rfl)
  rw [lg_entry_eq]
  generalize (lg_sl ([.ref (ad 0), .int a1, .int a2]) ++ List.replicate (3 - (lg_sl ([.ref (ad 0), .int a1, .int a2])).length) Slot.unset).toArray = ls at hl ⊢
  have hl : lv_has ls 3 [(0, .ref (ad 0)), (1, .int a1), (2, .int a2)] := hl
  refine lv_aload_n hx hb dX6_given_0 rfl (lv_at hl 0 rfl) ?_
  refine lv_iconst (v := (0 : Int32)) hx hb dX6_given_1 (by decide) ?_
  obtain ⟨sg1, esg1, hf⟩ := lt_ex hf
  refine pf_X6_47 hx hb hts hown hK hP hD hS dX6_given_2 (fun H locs hP hS => ?_)
  rw [← esg1] at hP
  refine lv_aload_n hx hb dX6_given_5 rfl (lv_at hl 0 rfl) ?_
  refine lv_iload_n hx hb dX6_given_6 rfl (lv_at hl 1 rfl) ?_
  obtain ⟨r3, q2, hf⟩ := bd_so hf
  refine cl_i (va_runV (As := [.int a1]) (rest := []) ⟨hx, hb, hml, hown, hts⟩ (c_X6_isDriver l g ad X _ sg1 a1 r3 q2) (cwV 1 hts gl_X6_178 rfl rfl rfl yd_X6_isDriver ⟨Nat.le_of_ble_eq_true rfl, Nat.le_of_ble_eq_true rfl⟩) (preV_of hK hP (hD sg1) (dd_at (by decide) cm_0) rfl) rfl rfl hl.1 rfl (lv_room (Nat.le_of_ble_eq_true rfl)) dX6_given_7 ⟨Nat.le_of_ble_eq_true rfl, Nat.le_of_ble_eq_true rfl⟩) hS (fun q h => dd_A_mono hS.1 h) (fun q h => dd_A_mono hS.1 h) (fun H locs hP hS => ?_)
  refine lv_if_eq (tgt := 29) hx hb dX6_given_10 (by decide) (fun c4 => ?_) (fun c4 => ?_)
  · have hf := if_t c4 hf
    exact hL_29 sg1 _ _ _ hf hP hS (lv_sub hl [0] rfl)
  · have hf := if_f c4 hf
    refine lv_iload_n hx hb dX6_given_13 rfl (lv_at hl 2 rfl) ?_
    obtain ⟨r6, q5, hf⟩ := bd_so hf
    refine cl_i (va_runS (As := [.int a2]) (rest := []) ⟨hx, hb, hml, hown, hts⟩ (c_X6_isDay l g ad X _ sg1 a2 r6 q5) (cwS 1 hts gl_X6_157 rfl rfl rfl yd_X6_isDay ⟨Nat.le_of_ble_eq_true rfl, Nat.le_of_ble_eq_true rfl⟩) (preS_of hK hP (hD sg1)) rfl rfl hl.1 rfl (lv_room (Nat.le_of_ble_eq_true rfl)) dX6_given_14 ⟨Nat.le_of_ble_eq_true rfl, Nat.le_of_ble_eq_true rfl⟩) hS (fun q h => dd_A_mono hS.1 h) (fun q h => dd_A_mono hS.1 h) (fun H locs hP hS => ?_)
    refine lv_if_eq (tgt := 29) hx hb dX6_given_17 (by decide) (fun c7 => ?_) (fun c7 => ?_)
    · have hf := if_t c7 hf
      exact hL_29 sg1 _ _ _ hf hP hS (lv_sub hl [0] rfl)
    · have hf := if_f c7 hf
      refine lv_aload_n hx hb dX6_given_20 rfl (lv_at hl 0 rfl) ?_
      refine lv_iload_n hx hb dX6_given_21 rfl (lv_at hl 1 rfl) ?_
      refine lv_iload_n hx hb dX6_given_22 rfl (lv_at hl 2 rfl) ?_
      obtain ⟨r9, q8, hf⟩ := bd_so hf
      refine cl_i (va_runV (As := [.int a1, .int a2]) (rest := []) ⟨hx, hb, hml, hown, hts⟩ (c_X6_at l g ad X _ sg1 a1 a2 r9 q8) (cwV 2 hts gl_X6_160 rfl rfl rfl yd_X6_at ⟨Nat.le_of_ble_eq_true rfl, Nat.le_of_ble_eq_true rfl⟩) (preV_of hK hP (hD sg1) (dd_at (by decide) cm_0) rfl) rfl rfl hl.1 rfl (lv_room (Nat.le_of_ble_eq_true rfl)) dX6_given_23 ⟨Nat.le_of_ble_eq_true rfl, Nat.le_of_ble_eq_true rfl⟩) hS (fun q h => dd_A_mono hS.1 h) (fun q h => dd_A_mono hS.1 h) (fun H locs hP hS => ?_)
      refine lv_goto (tgt := 34) hx hb dX6_given_26 (by decide) ?_
      exact hL_34 sg1 r9 _ _ _ hf hP hS (lv_sub hl [] rfl)
set_option maxHeartbeats 4000000 in
set_option maxRecDepth 100000 in
theorem c_X6_week (l : Launch) (g : dd_G) (ad : Nat → Nat) (X : va_W) (sz : Nat) (sg : dd_S) (a1 : Int32) (r0 : Int32) (s0 : dd_S) (hf : f_X6_week sg a1 = some (r0, s0)) : Met l yX6_week (lw_ws yX6_week cX6_week 2 (some .int)) ({ frames := 4, cells := 0, slots := 0, locals := 94 } : Room) (va_Pc [.ref (ad 0), .int a1] (PreW g (WM g ad sg ++ X) sz)) (QI g (WM g ad s0 ++ X) (dd_A 9 ad X sz) r0) 0 0 (dd_A 9 ad X sz) := by
  refine Met.ofW (cc := cX6_week) (maxL := 2) (ret := some .int) (by decide) rfl ?_
  intro p e s m args below meth c s₁ B hml hv
  obtain ⟨rfl, rfl, hP, hK, hD0⟩ := hv
  have hx := B.exec
  have hb := B.bytes
  have hr := B.returns
  have hts := atoms_spec (ws := (lw_ws yX6_week cX6_week 2 (some .int))) B.pre
  have hts : ∀ w ∈ lw_all, w.before _ s = true := fun w h => hts w (List.mem_cons_of_mem _ h)
  have hown : s.vm.findClass RX6 = some m.cls := findClass_of_methodNamed B.named
  have hlocks := B.notSynchronized
  have hD : ∀ s2 : dd_S, va_D (dd_A 9 ad X s.heap.size) (WM g ad s2 ++ X) := fun s2 => dd_D (dd_A_D hD0)
  have hS : va_S (dd_A 9 ad X s.heap.size) s.heap s.heap [] := va_S.rf
  have hL_26 : ∀ (sg : dd_S) (t0 : Int32) (H : Heap) (locs : List Loc) (ls : Array Slot), f_X6_week_26 a1 sg t0 = some (r0, s0) → va_P g.1 vwCl (WM g ad sg ++ X) H → va_S (dd_A 9 ad X s.heap.size) s.heap H locs → lv_has ls 2 [] → W p l e (headSpec (lw_ws yX6_week cX6_week 2 (some .int)) ({ frames := 4, cells := 0, slots := 0, locals := 94 } : Room)).room s m ([.ref (ad 0), .int a1] : List Value).toArray below meth c H locs 0 0 (MQ below (QI g (WM g ad s0 ++ X) (dd_A 9 ad X s.heap.size) r0) ([.ref (ad 0), .int a1] : List Value).toArray s 0 0 (dd_A 9 ad X s.heap.size)) (F0 m 26 ls [.int t0]) := by
    intro sg t0 H locs ls hf hP hS hl
    unfold f_X6_week_26 at hf
    exact W.iret (v := t0) hx hb hr (fun t ht hW => ⟨⟨t0, (), rfl, (so2 hf).1, P_at2 (so2 hf).2 ht hP⟩, hS.F ht⟩) hS.2.2 dX6_week_26
  unfold f_X6_week at hf
  have hl := lv_entry ([.ref (ad 0), .int a1]) (n := 2) (Nat.le_of_ble_eq_true rfl)
  rw [lg_entry_eq]
  generalize (lg_sl ([.ref (ad 0), .int a1]) ++ List.replicate (2 - (lg_sl ([.ref (ad 0), .int a1])).length) Slot.unset).toArray = ls at hl ⊢
  have hl : lv_has ls 2 [(0, .ref (ad 0)), (1, .int a1)] := hl
  refine lv_aload_n hx hb dX6_week_0 rfl (lv_at hl 0 rfl) ?_
  refine lv_iconst (v := (0 : Int32)) hx hb dX6_week_1 (by decide) ?_
  obtain ⟨sg1, esg1, hf⟩ := lt_ex hf
  refine pf_X6_47 hx hb hts hown hK hP hD hS dX6_week_2 (fun H locs hP hS => ?_)
  rw [← esg1] at hP
  refine lv_aload_n hx hb dX6_week_5 rfl (lv_at hl 0 rfl) ?_
  refine lv_iload_n hx hb dX6_week_6 rfl (lv_at hl 1 rfl) ?_
  obtain ⟨r3, q2, hf⟩ := bd_so hf
  refine cl_i (va_runV (As := [.int a1]) (rest := []) ⟨hx, hb, hml, hown, hts⟩ (c_X6_isDriver l g ad X _ sg1 a1 r3 q2) (cwV 1 hts gl_X6_178 rfl rfl rfl yd_X6_isDriver ⟨Nat.le_of_ble_eq_true rfl, Nat.le_of_ble_eq_true rfl⟩) (preV_of hK hP (hD sg1) (dd_at (by decide) cm_0) rfl) rfl rfl hl.1 rfl (lv_room (Nat.le_of_ble_eq_true rfl)) dX6_week_7 ⟨Nat.le_of_ble_eq_true rfl, Nat.le_of_ble_eq_true rfl⟩) hS (fun q h => dd_A_mono hS.1 h) (fun q h => dd_A_mono hS.1 h) (fun H locs hP hS => ?_)
  refine lv_if_eq (tgt := 21) hx hb dX6_week_10 (by decide) (fun c4 => ?_) (fun c4 => ?_)
  · have hf := if_t c4 hf
    refine lv_aload_n hx hb dX6_week_21 rfl (lv_at hl 0 rfl) ?_
    refine lv_iconst (v := (1 : Int32)) hx hb dX6_week_22 (by decide) ?_
    obtain ⟨r7, sg6, q5, hf⟩ := bd2_so hf
    refine cl_i (va_runV (As := [.int (1 : Int32)]) (rest := []) ⟨hx, hb, hml, hown, hts⟩ (c_X6_no l g ad X _ sg1 (1 : Int32) r7 sg6 q5) (cwV 1 hts gl_X6_64 rfl rfl rfl yd_X6_no ⟨Nat.le_of_ble_eq_true rfl, Nat.le_of_ble_eq_true rfl⟩) (preV_of hK hP (hD sg1) (dd_at (by decide) cm_0) rfl) rfl rfl hl.1 rfl (lv_room (Nat.le_of_ble_eq_true rfl)) dX6_week_23 ⟨Nat.le_of_ble_eq_true rfl, Nat.le_of_ble_eq_true rfl⟩) hS (fun q h => dd_A_mono hS.1 h) (fun q h => dd_A_mono hS.1 h) (fun H locs hP hS => ?_)
    exact hL_26 sg6 r7 _ _ _ hf hP hS (lv_sub hl [] rfl)
  · have hf := if_f c4 hf
    refine lv_aload_n hx hb dX6_week_13 rfl (lv_at hl 0 rfl) ?_
    refine lv_iload_n hx hb dX6_week_14 rfl (lv_at hl 1 rfl) ?_
    obtain ⟨r10, sg9, q8, hf⟩ := bd2_so hf
    refine cl_i (va_runV (As := [.int a1]) (rest := []) ⟨hx, hb, hml, hown, hts⟩ (c_X6_weekOf l g ad X _ sg1 a1 r10 sg9 q8) (cwV 1 hts gl_X6_172 rfl rfl rfl yd_X6_weekOf ⟨Nat.le_of_ble_eq_true rfl, Nat.le_of_ble_eq_true rfl⟩) (preV_of hK hP (hD sg1) (dd_at (by decide) cm_0) rfl) rfl rfl hl.1 rfl (lv_room (Nat.le_of_ble_eq_true rfl)) dX6_week_15 ⟨Nat.le_of_ble_eq_true rfl, Nat.le_of_ble_eq_true rfl⟩) hS (fun q h => dd_A_mono hS.1 h) (fun q h => dd_A_mono hS.1 h) (fun H locs hP hS => ?_)
    refine lv_goto (tgt := 26) hx hb dX6_week_18 (by decide) ?_
    exact hL_26 sg9 r10 _ _ _ hf hP hS (lv_sub hl [] rfl)
set_option maxHeartbeats 4000000 in
set_option maxRecDepth 100000 in
theorem c_X6_rest (l : Launch) (g : dd_G) (ad : Nat → Nat) (X : va_W) (sz : Nat) (sg : dd_S) (a1 : Int32) (a2 : Int32) (r0 : Int32) (s0 : dd_S) (hf : f_X6_rest sg a1 a2 = some (r0, s0)) : Met l yX6_rest (lw_ws yX6_rest cX6_rest 3 (some .int)) ({ frames := 3, cells := 0, slots := 0, locals := 73 } : Room) (va_Pc [.ref (ad 0), .int a1, .int a2] (PreW g (WM g ad sg ++ X) sz)) (QI g (WM g ad s0 ++ X) (dd_A 9 ad X sz) r0) 0 0 (dd_A 9 ad X sz) := by
  refine Met.ofW (cc := cX6_rest) (maxL := 3) (ret := some .int) (by decide) rfl ?_
  intro p e s m args below meth c s₁ B hml hv
  obtain ⟨rfl, rfl, hP, hK, hD0⟩ := hv
  have hx := B.exec
  have hb := B.bytes
  have hr := B.returns
  have hts := atoms_spec (ws := (lw_ws yX6_rest cX6_rest 3 (some .int))) B.pre
  have hts : ∀ w ∈ lw_all, w.before _ s = true := fun w h => hts w (List.mem_cons_of_mem _ h)
  have hown : s.vm.findClass RX6 = some m.cls := findClass_of_methodNamed B.named
  have hlocks := B.notSynchronized
  have hD : ∀ s2 : dd_S, va_D (dd_A 9 ad X s.heap.size) (WM g ad s2 ++ X) := fun s2 => dd_D (dd_A_D hD0)
  have hS : va_S (dd_A 9 ad X s.heap.size) s.heap s.heap [] := va_S.rf
  have hL_23 : ∀ (sg : dd_S) (H : Heap) (locs : List Loc) (ls : Array Slot), f_X6_rest_23 a1 a2 sg = some (r0, s0) → va_P g.1 vwCl (WM g ad sg ++ X) H → va_S (dd_A 9 ad X s.heap.size) s.heap H locs → lv_has ls 3 [(0, .ref (ad 0))] → W p l e (headSpec (lw_ws yX6_rest cX6_rest 3 (some .int)) ({ frames := 3, cells := 0, slots := 0, locals := 73 } : Room)).room s m ([.ref (ad 0), .int a1, .int a2] : List Value).toArray below meth c H locs 0 0 (MQ below (QI g (WM g ad s0 ++ X) (dd_A 9 ad X s.heap.size) r0) ([.ref (ad 0), .int a1, .int a2] : List Value).toArray s 0 0 (dd_A 9 ad X s.heap.size)) (F0 m 23 ls []) := by
    intro sg H locs ls hf hP hS hl
    unfold f_X6_rest_23 at hf
    refine lv_aload_n hx hb dX6_rest_23 rfl (lv_at hl 0 rfl) ?_
    refine lv_iconst (v := (1 : Int32)) hx hb dX6_rest_24 (by decide) ?_
    obtain ⟨r23, sg22, q21, hf⟩ := bd2_so hf
    refine cl_i (va_runV (As := [.int (1 : Int32)]) (rest := []) ⟨hx, hb, hml, hown, hts⟩ (c_X6_no l g ad X _ sg (1 : Int32) r23 sg22 q21) (cwV 1 hts gl_X6_64 rfl rfl rfl yd_X6_no ⟨Nat.le_of_ble_eq_true rfl, Nat.le_of_ble_eq_true rfl⟩) (preV_of hK hP (hD sg) (dd_at (by decide) cm_0) rfl) rfl rfl hl.1 rfl (lv_room (Nat.le_of_ble_eq_true rfl)) dX6_rest_25 ⟨Nat.le_of_ble_eq_true rfl, Nat.le_of_ble_eq_true rfl⟩) hS (fun q h => dd_A_mono hS.1 h) (fun q h => dd_A_mono hS.1 h) (fun H locs hP hS => ?_)
    exact W.iret (v := r23) hx hb hr (fun t ht hW => ⟨⟨r23, (), rfl, (so2 hf).1, P_at2 (so2 hf).2 ht hP⟩, hS.F ht⟩) hS.2.2 dX6_rest_28
  have hL_73 : ∀ (sg : dd_S) (t0 : Int32) (H : Heap) (locs : List Loc) (ls : Array Slot), f_X6_rest_73 a1 a2 sg t0 = some (r0, s0) → va_P g.1 vwCl (WM g ad sg ++ X) H → va_S (dd_A 9 ad X s.heap.size) s.heap H locs → lv_has ls 3 [] → W p l e (headSpec (lw_ws yX6_rest cX6_rest 3 (some .int)) ({ frames := 3, cells := 0, slots := 0, locals := 73 } : Room)).room s m ([.ref (ad 0), .int a1, .int a2] : List Value).toArray below meth c H locs 0 0 (MQ below (QI g (WM g ad s0 ++ X) (dd_A 9 ad X s.heap.size) r0) ([.ref (ad 0), .int a1, .int a2] : List Value).toArray s 0 0 (dd_A 9 ad X s.heap.size)) (F0 m 73 ls [.int t0]) := by
    intro sg t0 H locs ls hf hP hS hl
    unfold f_X6_rest_73 at hf
    exact W.iret (v := t0) hx hb hr (fun t ht hW => ⟨⟨t0, (), rfl, (so2 hf).1, P_at2 (so2 hf).2 ht hP⟩, hS.F ht⟩) hS.2.2 dX6_rest_73
  have hL_51 : ∀ (sg : dd_S) (H : Heap) (locs : List Loc) (ls : Array Slot), f_X6_rest_51 a1 a2 sg = some (r0, s0) → va_P g.1 vwCl (WM g ad sg ++ X) H → va_S (dd_A 9 ad X s.heap.size) s.heap H locs → lv_has ls 3 [] → W p l e (headSpec (lw_ws yX6_rest cX6_rest 3 (some .int)) ({ frames := 3, cells := 0, slots := 0, locals := 73 } : Room)).room s m ([.ref (ad 0), .int a1, .int a2] : List Value).toArray below meth c H locs 0 0 (MQ below (QI g (WM g ad s0 ++ X) (dd_A 9 ad X s.heap.size) r0) ([.ref (ad 0), .int a1, .int a2] : List Value).toArray s 0 0 (dd_A 9 ad X s.heap.size)) (F0 m 51 ls []) := by
    intro sg H locs ls hf hP hS hl
    unfold f_X6_rest_51 at hf
    refine lv_iconst (v := (-1 : Int32)) hx hb dX6_rest_51 (by decide) ?_
    refine lv_goto (tgt := 73) hx hb dX6_rest_52 (by decide) ?_
    exact hL_73 sg (-1 : Int32) _ _ _ hf hP hS (lv_sub hl [] rfl)
  unfold f_X6_rest at hf
  have hl := lv_entry ([.ref (ad 0), .int a1, .int a2]) (n := 3) (Nat.le_of_ble_eq_true rfl)
  rw [lg_entry_eq]
  generalize (lg_sl ([.ref (ad 0), .int a1, .int a2]) ++ List.replicate (3 - (lg_sl ([.ref (ad 0), .int a1, .int a2])).length) Slot.unset).toArray = ls at hl ⊢
  have hl : lv_has ls 3 [(0, .ref (ad 0)), (1, .int a1), (2, .int a2)] := hl
  refine lv_aload_n hx hb dX6_rest_0 rfl (lv_at hl 0 rfl) ?_
  refine lv_iconst (v := (0 : Int32)) hx hb dX6_rest_1 (by decide) ?_
  obtain ⟨sg1, esg1, hf⟩ := lt_ex hf
  refine pf_X6_47 hx hb hts hown hK hP hD hS dX6_rest_2 (fun H locs hP hS => ?_)
  rw [← esg1] at hP
  refine lv_aload_n hx hb dX6_rest_5 rfl (lv_at hl 0 rfl) ?_
  refine lv_iload_n hx hb dX6_rest_6 rfl (lv_at hl 1 rfl) ?_
  obtain ⟨r3, q2, hf⟩ := bd_so hf
  refine cl_i (va_runV (As := [.int a1]) (rest := []) ⟨hx, hb, hml, hown, hts⟩ (c_X6_isDriver l g ad X _ sg1 a1 r3 q2) (cwV 1 hts gl_X6_178 rfl rfl rfl yd_X6_isDriver ⟨Nat.le_of_ble_eq_true rfl, Nat.le_of_ble_eq_true rfl⟩) (preV_of hK hP (hD sg1) (dd_at (by decide) cm_0) rfl) rfl rfl hl.1 rfl (lv_room (Nat.le_of_ble_eq_true rfl)) dX6_rest_7 ⟨Nat.le_of_ble_eq_true rfl, Nat.le_of_ble_eq_true rfl⟩) hS (fun q h => dd_A_mono hS.1 h) (fun q h => dd_A_mono hS.1 h) (fun H locs hP hS => ?_)
  refine lv_if_eq (tgt := 23) hx hb dX6_rest_10 (by decide) (fun c4 => ?_) (fun c4 => ?_)
  · have hf := if_t c4 hf
    exact hL_23 sg1 _ _ _ hf hP hS (lv_sub hl [0] rfl)
  · have hf := if_f c4 hf
    refine lv_iload_n hx hb dX6_rest_13 rfl (lv_at hl 2 rfl) ?_
    refine lv_iconst (v := (1 : Int32)) hx hb dX6_rest_14 (by decide) ?_
    refine lv_bipush (v := (6 : Int32)) hx hb dX6_rest_15 (by decide) ?_
    obtain ⟨r6, q5, hf⟩ := bd_so hf
    refine cl_i (va_runS (As := [.int a2, .int (1 : Int32), .int (6 : Int32)]) (rest := []) ⟨hx, hb, hml, hown, hts⟩ (c_X6_isIn l g ad X _ sg1 a2 (1 : Int32) (6 : Int32) r6 q5) (cwS 3 hts gl_X6_53 rfl rfl rfl yd_X6_isIn ⟨Nat.le_of_ble_eq_true rfl, Nat.le_of_ble_eq_true rfl⟩) (preS_of hK hP (hD sg1)) rfl rfl hl.1 rfl (lv_room (Nat.le_of_ble_eq_true rfl)) dX6_rest_17 ⟨Nat.le_of_ble_eq_true rfl, Nat.le_of_ble_eq_true rfl⟩) hS (fun q h => dd_A_mono hS.1 h) (fun q h => dd_A_mono hS.1 h) (fun H locs hP hS => ?_)
    refine lv_if_ne (tgt := 29) hx hb dX6_rest_20 (by decide) (fun c7 => ?_) (fun c7 => ?_)
    · have hf := if_f c7 hf
      refine lv_aload_n hx hb dX6_rest_29 rfl (lv_at hl 0 rfl) ?_
      refine lv_iload_n hx hb dX6_rest_30 rfl (lv_at hl 1 rfl) ?_
      refine lv_iload_n hx hb dX6_rest_31 rfl (lv_at hl 2 rfl) ?_
      refine lv_iconst (v := (1 : Int32)) hx hb dX6_rest_32 (by decide) ?_
      refine lv_isub hx hb dX6_rest_33 ?_
      obtain ⟨r9, q8, hf⟩ := bd_so hf
      refine cl_i (va_runV (As := [.int a1, .int (a2 - (1 : Int32))]) (rest := []) ⟨hx, hb, hml, hown, hts⟩ (c_X6_at l g ad X _ sg1 a1 (a2 - (1 : Int32)) r9 q8) (cwV 2 hts gl_X6_160 rfl rfl rfl yd_X6_at ⟨Nat.le_of_ble_eq_true rfl, Nat.le_of_ble_eq_true rfl⟩) (preV_of hK hP (hD sg1) (dd_at (by decide) cm_0) rfl) rfl rfl hl.1 rfl (lv_room (Nat.le_of_ble_eq_true rfl)) dX6_rest_34 ⟨Nat.le_of_ble_eq_true rfl, Nat.le_of_ble_eq_true rfl⟩) hS (fun q h => dd_A_mono hS.1 h) (fun q h => dd_A_mono hS.1 h) (fun H locs hP hS => ?_)
      refine lv_iconst (v := (-1 : Int32)) hx hb dX6_rest_37 (by decide) ?_
      refine lv_icmp_eq (tgt := 51) hx hb dX6_rest_38 (by decide) (fun c10 => ?_) (fun c10 => ?_)
      · have hf := if_t c10 hf
        exact hL_51 sg1 _ _ _ hf hP hS (lv_sub hl [] rfl)
      · have hf := if_f c10 hf
        refine lv_aload_n hx hb dX6_rest_41 rfl (lv_at hl 0 rfl) ?_
        refine lv_iload_n hx hb dX6_rest_42 rfl (lv_at hl 1 rfl) ?_
        refine lv_iload_n hx hb dX6_rest_43 rfl (lv_at hl 2 rfl) ?_
        obtain ⟨r12, q11, hf⟩ := bd_so hf
        refine cl_i (va_runV (As := [.int a1, .int a2]) (rest := []) ⟨hx, hb, hml, hown, hts⟩ (c_X6_at l g ad X _ sg1 a1 a2 r12 q11) (cwV 2 hts gl_X6_160 rfl rfl rfl yd_X6_at ⟨Nat.le_of_ble_eq_true rfl, Nat.le_of_ble_eq_true rfl⟩) (preV_of hK hP (hD sg1) (dd_at (by decide) cm_0) rfl) rfl rfl hl.1 rfl (lv_room (Nat.le_of_ble_eq_true rfl)) dX6_rest_44 ⟨Nat.le_of_ble_eq_true rfl, Nat.le_of_ble_eq_true rfl⟩) hS (fun q h => dd_A_mono hS.1 h) (fun q h => dd_A_mono hS.1 h) (fun H locs hP hS => ?_)
        refine lv_iconst (v := (-1 : Int32)) hx hb dX6_rest_47 (by decide) ?_
        refine lv_icmp_ne (tgt := 55) hx hb dX6_rest_48 (by decide) (fun c13 => ?_) (fun c13 => ?_)
        · have hf := if_f c13 hf
          refine lv_aload_n hx hb dX6_rest_55 rfl (lv_at hl 0 rfl) ?_
          refine lv_aload_n hx hb dX6_rest_56 rfl (lv_at hl 0 rfl) ?_
          refine lv_iload_n hx hb dX6_rest_57 rfl (lv_at hl 1 rfl) ?_
          refine lv_iload_n hx hb dX6_rest_58 rfl (lv_at hl 2 rfl) ?_
          refine lv_iconst (v := (1 : Int32)) hx hb dX6_rest_59 (by decide) ?_
          refine lv_isub hx hb dX6_rest_60 ?_
          obtain ⟨r15, q14, hf⟩ := bd_so hf
          refine cl_i (va_runV (As := [.int a1, .int (a2 - (1 : Int32))]) (rest := [.ref (ad 0)]) ⟨hx, hb, hml, hown, hts⟩ (c_X6_at l g ad X _ sg1 a1 (a2 - (1 : Int32)) r15 q14) (cwV 2 hts gl_X6_160 rfl rfl rfl yd_X6_at ⟨Nat.le_of_ble_eq_true rfl, Nat.le_of_ble_eq_true rfl⟩) (preV_of hK hP (hD sg1) (dd_at (by decide) cm_0) rfl) rfl rfl hl.1 rfl (lv_room (Nat.le_of_ble_eq_true rfl)) dX6_rest_61 ⟨Nat.le_of_ble_eq_true rfl, Nat.le_of_ble_eq_true rfl⟩) hS (fun q h => dd_A_mono hS.1 h) (fun q h => dd_A_mono hS.1 h) (fun H locs hP hS => ?_)
          refine lv_aload_n hx hb dX6_rest_64 rfl (lv_at hl 0 rfl) ?_
          refine lv_iload_n hx hb dX6_rest_65 rfl (lv_at hl 1 rfl) ?_
          refine lv_iload_n hx hb dX6_rest_66 rfl (lv_at hl 2 rfl) ?_
          obtain ⟨r17, q16, hf⟩ := bd_so hf
          refine cl_i (va_runV (As := [.int a1, .int a2]) (rest := [.int r15, .ref (ad 0)]) ⟨hx, hb, hml, hown, hts⟩ (c_X6_at l g ad X _ sg1 a1 a2 r17 q16) (cwV 2 hts gl_X6_160 rfl rfl rfl yd_X6_at ⟨Nat.le_of_ble_eq_true rfl, Nat.le_of_ble_eq_true rfl⟩) (preV_of hK hP (hD sg1) (dd_at (by decide) cm_0) rfl) rfl rfl hl.1 rfl (lv_room (Nat.le_of_ble_eq_true rfl)) dX6_rest_67 ⟨Nat.le_of_ble_eq_true rfl, Nat.le_of_ble_eq_true rfl⟩) hS (fun q h => dd_A_mono hS.1 h) (fun q h => dd_A_mono hS.1 h) (fun H locs hP hS => ?_)
          obtain ⟨r20, sg19, q18, hf⟩ := bd2_so hf
          refine cl_i (va_runV (As := [.int r15, .int r17]) (rest := []) ⟨hx, hb, hml, hown, hts⟩ (c_X6_between l g ad X _ sg1 r15 r17 r20 sg19 q18) (cwV 2 hts gl_X6_163 rfl rfl rfl yd_X6_between ⟨Nat.le_of_ble_eq_true rfl, Nat.le_of_ble_eq_true rfl⟩) (preV_of hK hP (hD sg1) (dd_at (by decide) cm_0) rfl) rfl rfl hl.1 rfl (lv_room (Nat.le_of_ble_eq_true rfl)) dX6_rest_70 ⟨Nat.le_of_ble_eq_true rfl, Nat.le_of_ble_eq_true rfl⟩) hS (fun q h => dd_A_mono hS.1 h) (fun q h => dd_A_mono hS.1 h) (fun H locs hP hS => ?_)
          exact hL_73 sg19 r20 _ _ _ hf hP hS (lv_sub hl [] rfl)
        · have hf := if_t c13 hf
          exact hL_51 sg1 _ _ _ hf hP hS (lv_sub hl [] rfl)
    · have hf := if_t c7 hf
      exact hL_23 sg1 _ _ _ hf hP hS (lv_sub hl [0] rfl)
set_option maxHeartbeats 4000000 in
set_option maxRecDepth 100000 in
theorem c_X6_thrown (l : Launch) (g : dd_G) (ad : Nat → Nat) (X : va_W) (sz : Nat) (sg : dd_S) (r0 : Int32) (hf : f_X6_thrown sg = some (r0)) : Met l yX6_thrown (lw_ws yX6_thrown cX6_thrown 1 (some .int)) ({ frames := 0, cells := 0, slots := 0, locals := 0 } : Room) (va_Pc [.ref (ad 0)] (PreW g (WM g ad sg ++ X) sz)) (QI g (WM g ad sg ++ X) (dd_A 9 ad X sz) r0) 0 0 (dd_A 9 ad X sz) := by
  refine Met.ofW (cc := cX6_thrown) (maxL := 1) (ret := some .int) (by decide) rfl ?_
  intro p e s m args below meth c s₁ B hml hv
  obtain ⟨rfl, rfl, hP, hK, hD0⟩ := hv
  have hx := B.exec
  have hb := B.bytes
  have hr := B.returns
  have hts := atoms_spec (ws := (lw_ws yX6_thrown cX6_thrown 1 (some .int))) B.pre
  have hts : ∀ w ∈ lw_all, w.before _ s = true := fun w h => hts w (List.mem_cons_of_mem _ h)
  have hown : s.vm.findClass RX6 = some m.cls := findClass_of_methodNamed B.named
  have hlocks := B.notSynchronized
  have hD : ∀ s2 : dd_S, va_D (dd_A 9 ad X s.heap.size) (WM g ad s2 ++ X) := fun s2 => dd_D (dd_A_D hD0)
  have hS : va_S (dd_A 9 ad X s.heap.size) s.heap s.heap [] := va_S.rf
  unfold f_X6_thrown at hf
  have hl := lv_entry ([.ref (ad 0)]) (n := 1) (Nat.le_of_ble_eq_true rfl)
  rw [lg_entry_eq]
  generalize (lg_sl ([.ref (ad 0)]) ++ List.replicate (1 - (lg_sl ([.ref (ad 0)])).length) Slot.unset).toArray = ls at hl ⊢
  have hl : lv_has ls 1 [(0, .ref (ad 0))] := hl
  refine lv_aload_n hx hb dX6_thrown_0 rfl (lv_at hl 0 rfl) ?_
  refine gf_X6_47 hx hb hts hown hK hP dX6_thrown_1 ?_
  exact W.iret (v := (sg 0 0)) hx hb hr (fun t ht hW => ⟨⟨(sg 0 0), (), rfl, so1 hf, P_at ht hP⟩, hS.F ht⟩) hS.2.2 dX6_thrown_4
