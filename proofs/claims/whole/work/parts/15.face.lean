set_option maxHeartbeats 4000000 in
set_option maxRecDepth 100000 in
theorem c_X5_setWay (l : Launch) (hst : l.stackTraces = false) (g : dd_G) (ad : Nat → Nat) (X : va_W) (sz : Nat) (sg : dd_S) (a1 : Int32) (a2 : Int32) (a3 : Int32) (k0 : Nat) (r0 : Int32) (s0 : dd_S) (hf : f_X5_setWay sg a1 a2 a3 = some (k0, r0, s0)) : vx_Met l yX5_setWay (lw_ws yX5_setWay cX5_setWay 5 (some .int)) ({ frames := 6, cells := 1, slots := 6, locals := 93 } : Room) (va_Pc [.ref (ad 30), .int a1, .int a2, .int a3] (PreX g 59 ad X (WC g ad sg ++ X) sz)) (QXI g (WC g ad s0 ++ X) (dd_A 59 ad X sz) k0 r0) (XCx g (WC g ad s0 ++ X) (dd_A 59 ad X sz) k0) 1 6 (dd_A 59 ad X sz) := by
  refine vx_ofW (cc := cX5_setWay) (maxL := 5) (ret := some .int) (by decide) rfl ?_
  intro p e s m args below meth c s₁ B hml hnone hv
  obtain ⟨rfl, ⟨rfl, hP, hK, hD0⟩, hXF⟩ := hv
  have hx := B.exec
  have hb := B.bytes
  have hr := B.returns
  have hts := atoms_spec (ws := (lw_ws yX5_setWay cX5_setWay 5 (some .int))) B.pre
  have hts : ∀ w ∈ lw_all, w.before _ s = true := fun w h => hts w (List.mem_cons_of_mem _ h)
  have hown : s.vm.findClass RX5 = some m.cls := findClass_of_methodNamed B.named
  have hlocks := B.notSynchronized
  have hD : ∀ s2 : dd_S, va_D (dd_A 59 ad X s.heap.size) (WC g ad s2 ++ X) := fun s2 => dd_D (dd_A_D hD0)
  have hS : va_S (dd_A 59 ad X s.heap.size) s.heap s.heap [] := va_S.rf
  have hL_14 : ∀ (sg : dd_S) (H : Heap) (locs : List Loc) (ls : Array Slot), f_X5_setWay_14 a1 a2 a3 sg = some (k0, r0, s0) → va_P g.1 vwCl (WC g ad sg ++ X) H → va_S (dd_A 59 ad X s.heap.size) s.heap H locs → lv_has ls 5 [] → W p l e (headSpec (lw_ws yX5_setWay cX5_setWay 5 (some .int)) ({ frames := 6, cells := 1, slots := 6, locals := 93 } : Room)).room s m ([.ref (ad 30), .int a1, .int a2, .int a3] : List Value).toArray below meth c H locs 0 0 (vx_MQ below (QXI g (WC g ad s0 ++ X) (dd_A 59 ad X s.heap.size) k0 r0) (XCx g (WC g ad s0 ++ X) (dd_A 59 ad X s.heap.size) k0) ([.ref (ad 30), .int a1, .int a2, .int a3] : List Value).toArray s 1 6 (dd_A 59 ad X s.heap.size)) (F0 m 14 ls []) := by
    intro sg H locs ls hf hP hS hl
    unfold f_X5_setWay_14 at hf
    obtain ⟨rfl, rfl, rfl⟩ := so3 hf
    exact T_throw1 (is := 69) (text := "no such point") hx hb hst hown hts hK hXF (dd_str 0) hP hS (hl.1.trans hml.symm) dX5_setWay_14 dX5_setWay_17 dX5_setWay_18 dX5_setWay_20 dX5_setWay_23 hnone (Nat.le_of_ble_eq_true rfl) (Nat.le_of_ble_eq_true rfl) (Nat.le_of_ble_eq_true rfl) (Nat.le_of_ble_eq_true rfl) hlocks
  have hL_40 : ∀ (sg : dd_S) (H : Heap) (locs : List Loc) (ls : Array Slot), f_X5_setWay_40 a1 a2 a3 sg = some (k0, r0, s0) → va_P g.1 vwCl (WC g ad sg ++ X) H → va_S (dd_A 59 ad X s.heap.size) s.heap H locs → lv_has ls 5 [] → W p l e (headSpec (lw_ws yX5_setWay cX5_setWay 5 (some .int)) ({ frames := 6, cells := 1, slots := 6, locals := 93 } : Room)).room s m ([.ref (ad 30), .int a1, .int a2, .int a3] : List Value).toArray below meth c H locs 0 0 (vx_MQ below (QXI g (WC g ad s0 ++ X) (dd_A 59 ad X s.heap.size) k0 r0) (XCx g (WC g ad s0 ++ X) (dd_A 59 ad X s.heap.size) k0) ([.ref (ad 30), .int a1, .int a2, .int a3] : List Value).toArray s 1 6 (dd_A 59 ad X s.heap.size)) (F0 m 40 ls []) := by
    intro sg H locs ls hf hP hS hl
    unfold f_X5_setWay_40 at hf
    obtain ⟨rfl, rfl, rfl⟩ := so3 hf
    exact T_throw2 (is := 76) (text := "the same point twice, or minutes not 1 to 90") hx hb hst hown hts hK hXF (dd_str 1) hP hS (hl.1.trans hml.symm) dX5_setWay_40 dX5_setWay_43 dX5_setWay_44 dX5_setWay_46 dX5_setWay_49 hnone (Nat.le_of_ble_eq_true rfl) (Nat.le_of_ble_eq_true rfl) (Nat.le_of_ble_eq_true rfl) (Nat.le_of_ble_eq_true rfl) hlocks
  unfold f_X5_setWay at hf
  have hl := lv_entry ([.ref (ad 30), .int a1, .int a2, .int a3]) (n := 5) (Nat.le_of_ble_eq_true rfl)
  rw [lg_entry_eq]
  generalize (lg_sl ([.ref (ad 30), .int a1, .int a2, .int a3]) ++ List.replicate (5 - (lg_sl ([.ref (ad 30), .int a1, .int a2, .int a3])).length) Slot.unset).toArray = ls at hl ⊢
  have hl : lv_has ls 5 [(0, .ref (ad 30)), (1, .int a1), (2, .int a2), (3, .int a3)] := hl
  refine lv_iload_n hx hb dX5_setWay_0 rfl (lv_at hl 1 rfl) ?_
  obtain ⟨r2, q1, hf⟩ := bd_so hf
  refine cl_i (va_runS (As := [.int a1]) (rest := []) ⟨hx, hb, hml, hown, hts⟩ (c_X5_isPoint l g ad X _ sg a1 r2 q1) (cwS 1 hts gl_X5_63 rfl rfl rfl yd_X5_isPoint ⟨Nat.le_of_ble_eq_true rfl, Nat.le_of_ble_eq_true rfl⟩) (preS_of hK hP (hD sg)) rfl rfl hl.1 rfl (lv_room (Nat.le_of_ble_eq_true rfl)) dX5_setWay_1 ⟨Nat.le_of_ble_eq_true rfl, Nat.le_of_ble_eq_true rfl⟩) hS (fun q h => dd_A_mono hS.1 h) (fun q h => dd_A_mono hS.1 h) (fun H locs hP hS => ?_)
  refine lv_if_eq (tgt := 14) hx hb dX5_setWay_4 (by decide) (fun c3 => ?_) (fun c3 => ?_)
  · have hf := if_t c3 hf
    exact hL_14 sg _ _ _ hf hP hS (lv_sub hl [] rfl)
  · have hf := if_f c3 hf
    refine lv_iload_n hx hb dX5_setWay_7 rfl (lv_at hl 2 rfl) ?_
    obtain ⟨r5, q4, hf⟩ := bd_so hf
    refine cl_i (va_runS (As := [.int a2]) (rest := []) ⟨hx, hb, hml, hown, hts⟩ (c_X5_isPoint l g ad X _ sg a2 r5 q4) (cwS 1 hts gl_X5_63 rfl rfl rfl yd_X5_isPoint ⟨Nat.le_of_ble_eq_true rfl, Nat.le_of_ble_eq_true rfl⟩) (preS_of hK hP (hD sg)) rfl rfl hl.1 rfl (lv_room (Nat.le_of_ble_eq_true rfl)) dX5_setWay_8 ⟨Nat.le_of_ble_eq_true rfl, Nat.le_of_ble_eq_true rfl⟩) hS (fun q h => dd_A_mono hS.1 h) (fun q h => dd_A_mono hS.1 h) (fun H locs hP hS => ?_)
    refine lv_if_ne (tgt := 24) hx hb dX5_setWay_11 (by decide) (fun c6 => ?_) (fun c6 => ?_)
    · have hf := if_f c6 hf
      refine lv_iload_n hx hb dX5_setWay_24 rfl (lv_at hl 1 rfl) ?_
      refine lv_iload_n hx hb dX5_setWay_25 rfl (lv_at hl 2 rfl) ?_
      refine lv_icmp_eq (tgt := 40) hx hb dX5_setWay_26 (by decide) (fun c7 => ?_) (fun c7 => ?_)
      · have hf := if_t c7 hf
        exact hL_40 sg _ _ _ hf hP hS (lv_sub hl [] rfl)
      · have hf := if_f c7 hf
        refine lv_iload_n hx hb dX5_setWay_29 rfl (lv_at hl 3 rfl) ?_
        refine lv_iconst (v := (1 : Int32)) hx hb dX5_setWay_30 (by decide) ?_
        refine lv_icmp_lt (tgt := 40) hx hb dX5_setWay_31 (by decide) (fun c8 => ?_) (fun c8 => ?_)
        · have hf := if_t c8 hf
          exact hL_40 sg _ _ _ hf hP hS (lv_sub hl [] rfl)
        · have hf := if_f c8 hf
          refine lv_iload_n hx hb dX5_setWay_34 rfl (lv_at hl 3 rfl) ?_
          refine lv_bipush (v := (90 : Int32)) hx hb dX5_setWay_35 (by decide) ?_
          refine lv_icmp_le (tgt := 50) hx hb dX5_setWay_37 (by decide) (fun c9 => ?_) (fun c9 => ?_)
          · have hf := if_t c9 hf
            refine lv_aload_n hx hb dX5_setWay_50 rfl (lv_at hl 0 rfl) ?_
            refine gf_X5_10 hx hb hts hown hK hP dX5_setWay_51 ?_
            refine lv_iload_n hx hb dX5_setWay_54 rfl (lv_at hl 1 rfl) ?_
            refine lv_iload_n hx hb dX5_setWay_55 rfl (lv_at hl 2 rfl) ?_
            obtain ⟨r11, q10, hf⟩ := bd_so hf
            refine cl_i (va_runV (As := [.int a1, .int a2]) (rest := []) ⟨hx, hb, hml, hown, hts⟩ (c_X4_wayFrom l g ad X _ sg a1 a2 r11 q10) (cwV 2 hts gl_X5_79 rfl rfl rfl yd_X4_wayFrom ⟨Nat.le_of_ble_eq_true rfl, Nat.le_of_ble_eq_true rfl⟩) (preV_of hK hP (hD sg) (dd_at (by decide) cc_31) rfl) rfl rfl hl.1 rfl (lv_room (Nat.le_of_ble_eq_true rfl)) dX5_setWay_56 ⟨Nat.le_of_ble_eq_true rfl, Nat.le_of_ble_eq_true rfl⟩) hS (fun q h => dd_A_mono hS.1 h) (fun q h => dd_A_mono hS.1 h) (fun H locs hP hS => ?_)
            refine lv_istore (lv' := [(4, .int r11), (0, .ref (ad 30)), (1, .int a1), (2, .int a2), (3, .int a3)]) hx hb dX5_setWay_59 hl (by decide) rfl (fun ls hl => ?_)
            refine lv_aload_n hx hb dX5_setWay_61 rfl (lv_at hl 1 rfl) ?_
            refine gf_X5_10 hx hb hts hown hK hP dX5_setWay_62 ?_
            refine lv_iload_n hx hb dX5_setWay_65 rfl (lv_at hl 2 rfl) ?_
            refine lv_iload_n hx hb dX5_setWay_66 rfl (lv_at hl 3 rfl) ?_
            refine lv_iload_n hx hb dX5_setWay_67 rfl (lv_at hl 4 rfl) ?_
            obtain ⟨sg13, q12, hf⟩ := bd_so hf
            refine cl_v (va_runV (As := [.int a1, .int a2, .int a3]) (rest := []) ⟨hx, hb, hml, hown, hts⟩ (c_X4_changeWay l g ad X _ sg a1 a2 a3 sg13 q12) (cwV 3 hts gl_X5_83 rfl rfl rfl yd_X4_changeWay ⟨Nat.le_of_ble_eq_true rfl, Nat.le_of_ble_eq_true rfl⟩) (preV_of hK hP (hD sg) (dd_at (by decide) cc_31) rfl) rfl rfl hl.1 rfl (lv_room (Nat.le_of_ble_eq_true rfl)) dX5_setWay_68 ⟨Nat.le_of_ble_eq_true rfl, Nat.le_of_ble_eq_true rfl⟩) hS (fun q h => dd_A_mono hS.1 h) (fun q h => dd_A_mono hS.1 h) (fun H locs hP hS => ?_)
            refine lv_aload_n hx hb dX5_setWay_71 rfl (lv_at hl 1 rfl) ?_
            obtain ⟨sg15, q14, hf⟩ := bd_so hf
            refine cl_v (va_runV (As := []) (rest := []) ⟨hx, hb, hml, hown, hts⟩ (c_X5_measureDuties l g ad X _ sg13 sg15 q14) (cwV 0 hts gl_X5_87 rfl rfl rfl yd_X5_measureDuties ⟨Nat.le_of_ble_eq_true rfl, Nat.le_of_ble_eq_true rfl⟩) (preV_of hK hP (hD sg13) (dd_at (by decide) cc_30) rfl) rfl rfl hl.1 rfl (lv_room (Nat.le_of_ble_eq_true rfl)) dX5_setWay_72 ⟨Nat.le_of_ble_eq_true rfl, Nat.le_of_ble_eq_true rfl⟩) hS (fun q h => dd_A_mono hS.1 h) (fun q h => dd_A_mono hS.1 h) (fun H locs hP hS => ?_)
            refine lv_iload hx hb dX5_setWay_75 (lv_at hl 0 rfl) ?_
            refine W.widen (k := 1) (n := 6) (by decide) (by decide) ?_
            refine vx_ret ?_
            exact W.iret (v := r11) hx hb hr (fun t ht hW => ⟨⟨r11, (), rfl, ⟨(so3 hf).1.symm, (so3 hf).2.1⟩, P_at2 (so3 hf).2.2 ht hP⟩, hS.F ht⟩) hS.2.2 dX5_setWay_77
          · have hf := if_f c9 hf
            exact hL_40 sg _ _ _ hf hP hS (lv_sub hl [] rfl)
    · have hf := if_t c6 hf
      exact hL_14 sg _ _ _ hf hP hS (lv_sub hl [] rfl)
set_option maxHeartbeats 4000000 in
set_option maxRecDepth 100000 in
theorem c_X5_addTrip (l : Launch) (hst : l.stackTraces = false) (g : dd_G) (ad : Nat → Nat) (X : va_W) (sz : Nat) (sg : dd_S) (a1 : Int32) (a2 : Int32) (a3 : Int32) (a4 : Int32) (k0 : Nat) (r0 : Int32) (s0 : dd_S) (hf : f_X5_addTrip sg a1 a2 a3 a4 = some (k0, r0, s0)) : vx_Met l yX5_addTrip (lw_ws yX5_addTrip cX5_addTrip 5 (some .int)) ({ frames := 6, cells := 1, slots := 6, locals := 82 } : Room) (va_Pc [.ref (ad 30), .int a1, .int a2, .int a3, .int a4] (PreX g 59 ad X (WC g ad sg ++ X) sz)) (QXI g (WC g ad s0 ++ X) (dd_A 59 ad X sz) k0 r0) (XCx g (WC g ad s0 ++ X) (dd_A 59 ad X sz) k0) 1 6 (dd_A 59 ad X sz) := by
  refine vx_ofW (cc := cX5_addTrip) (maxL := 5) (ret := some .int) (by decide) rfl ?_
  intro p e s m args below meth c s₁ B hml hnone hv
  obtain ⟨rfl, ⟨rfl, hP, hK, hD0⟩, hXF⟩ := hv
  have hx := B.exec
  have hb := B.bytes
  have hr := B.returns
  have hts := atoms_spec (ws := (lw_ws yX5_addTrip cX5_addTrip 5 (some .int))) B.pre
  have hts : ∀ w ∈ lw_all, w.before _ s = true := fun w h => hts w (List.mem_cons_of_mem _ h)
  have hown : s.vm.findClass RX5 = some m.cls := findClass_of_methodNamed B.named
  have hlocks := B.notSynchronized
  have hD : ∀ s2 : dd_S, va_D (dd_A 59 ad X s.heap.size) (WC g ad s2 ++ X) := fun s2 => dd_D (dd_A_D hD0)
  have hS : va_S (dd_A 59 ad X s.heap.size) s.heap s.heap [] := va_S.rf
  have hL_14 : ∀ (sg : dd_S) (H : Heap) (locs : List Loc) (ls : Array Slot), f_X5_addTrip_14 a1 a2 a3 a4 sg = some (k0, r0, s0) → va_P g.1 vwCl (WC g ad sg ++ X) H → va_S (dd_A 59 ad X s.heap.size) s.heap H locs → lv_has ls 5 [] → W p l e (headSpec (lw_ws yX5_addTrip cX5_addTrip 5 (some .int)) ({ frames := 6, cells := 1, slots := 6, locals := 82 } : Room)).room s m ([.ref (ad 30), .int a1, .int a2, .int a3, .int a4] : List Value).toArray below meth c H locs 0 0 (vx_MQ below (QXI g (WC g ad s0 ++ X) (dd_A 59 ad X s.heap.size) k0 r0) (XCx g (WC g ad s0 ++ X) (dd_A 59 ad X s.heap.size) k0) ([.ref (ad 30), .int a1, .int a2, .int a3, .int a4] : List Value).toArray s 1 6 (dd_A 59 ad X s.heap.size)) (F0 m 14 ls []) := by
    intro sg H locs ls hf hP hS hl
    unfold f_X5_addTrip_14 at hf
    obtain ⟨rfl, rfl, rfl⟩ := so3 hf
    exact T_throw1 (is := 69) (text := "no such point") hx hb hst hown hts hK hXF (dd_str 0) hP hS (hl.1.trans hml.symm) dX5_addTrip_14 dX5_addTrip_17 dX5_addTrip_18 dX5_addTrip_20 dX5_addTrip_23 hnone (Nat.le_of_ble_eq_true rfl) (Nat.le_of_ble_eq_true rfl) (Nat.le_of_ble_eq_true rfl) (Nat.le_of_ble_eq_true rfl) hlocks
  unfold f_X5_addTrip at hf
  have hl := lv_entry ([.ref (ad 30), .int a1, .int a2, .int a3, .int a4]) (n := 5) (Nat.le_of_ble_eq_true rfl)
  rw [lg_entry_eq]
  generalize (lg_sl ([.ref (ad 30), .int a1, .int a2, .int a3, .int a4]) ++ List.replicate (5 - (lg_sl ([.ref (ad 30), .int a1, .int a2, .int a3, .int a4])).length) Slot.unset).toArray = ls at hl ⊢
  have hl : lv_has ls 5 [(0, .ref (ad 30)), (1, .int a1), (2, .int a2), (3, .int a3), (4, .int a4)] := hl
  refine lv_iload_n hx hb dX5_addTrip_0 rfl (lv_at hl 1 rfl) ?_
  obtain ⟨r2, q1, hf⟩ := bd_so hf
  refine cl_i (va_runS (As := [.int a1]) (rest := []) ⟨hx, hb, hml, hown, hts⟩ (c_X5_isPoint l g ad X _ sg a1 r2 q1) (cwS 1 hts gl_X5_63 rfl rfl rfl yd_X5_isPoint ⟨Nat.le_of_ble_eq_true rfl, Nat.le_of_ble_eq_true rfl⟩) (preS_of hK hP (hD sg)) rfl rfl hl.1 rfl (lv_room (Nat.le_of_ble_eq_true rfl)) dX5_addTrip_1 ⟨Nat.le_of_ble_eq_true rfl, Nat.le_of_ble_eq_true rfl⟩) hS (fun q h => dd_A_mono hS.1 h) (fun q h => dd_A_mono hS.1 h) (fun H locs hP hS => ?_)
  refine lv_if_eq (tgt := 14) hx hb dX5_addTrip_4 (by decide) (fun c3 => ?_) (fun c3 => ?_)
  · have hf := if_t c3 hf
    exact hL_14 sg _ _ _ hf hP hS (lv_sub hl [] rfl)
  · have hf := if_f c3 hf
    refine lv_iload_n hx hb dX5_addTrip_7 rfl (lv_at hl 2 rfl) ?_
    obtain ⟨r5, q4, hf⟩ := bd_so hf
    refine cl_i (va_runS (As := [.int a2]) (rest := []) ⟨hx, hb, hml, hown, hts⟩ (c_X5_isPoint l g ad X _ sg a2 r5 q4) (cwS 1 hts gl_X5_63 rfl rfl rfl yd_X5_isPoint ⟨Nat.le_of_ble_eq_true rfl, Nat.le_of_ble_eq_true rfl⟩) (preS_of hK hP (hD sg)) rfl rfl hl.1 rfl (lv_room (Nat.le_of_ble_eq_true rfl)) dX5_addTrip_8 ⟨Nat.le_of_ble_eq_true rfl, Nat.le_of_ble_eq_true rfl⟩) hS (fun q h => dd_A_mono hS.1 h) (fun q h => dd_A_mono hS.1 h) (fun H locs hP hS => ?_)
    refine lv_if_ne (tgt := 24) hx hb dX5_addTrip_11 (by decide) (fun c6 => ?_) (fun c6 => ?_)
    · have hf := if_f c6 hf
      refine lv_iload_n hx hb dX5_addTrip_24 rfl (lv_at hl 3 rfl) ?_
      refine lv_iload hx hb dX5_addTrip_25 (lv_at hl 4 rfl) ?_
      obtain ⟨r8, q7, hf⟩ := bd_so hf
      refine cl_i (va_runS (As := [.int a3, .int a4]) (rest := []) ⟨hx, hb, hml, hown, hts⟩ (c_X5_areTimesOfTrip l g ad X _ sg a3 a4 r8 q7) (cwS 2 hts gl_X5_90 rfl rfl rfl yd_X5_areTimesOfTrip ⟨Nat.le_of_ble_eq_true rfl, Nat.le_of_ble_eq_true rfl⟩) (preS_of hK hP (hD sg)) rfl rfl hl.1 rfl (lv_room (Nat.le_of_ble_eq_true rfl)) dX5_addTrip_27 ⟨Nat.le_of_ble_eq_true rfl, Nat.le_of_ble_eq_true rfl⟩) hS (fun q h => dd_A_mono hS.1 h) (fun q h => dd_A_mono hS.1 h) (fun H locs hP hS => ?_)
      refine lv_if_ne (tgt := 43) hx hb dX5_addTrip_30 (by decide) (fun c9 => ?_) (fun c9 => ?_)
      · have hf := if_f c9 hf
        refine lv_aload_n hx hb dX5_addTrip_43 rfl (lv_at hl 0 rfl) ?_
        refine gf_X5_10 hx hb hts hown hK hP dX5_addTrip_44 ?_
        refine gf_X5_96 hx hb hts hown hK hP dX5_addTrip_47 ?_
        refine lv_bipush (v := (40 : Int32)) hx hb dX5_addTrip_50 (by decide) ?_
        refine lv_icmp_lt (tgt := 65) hx hb dX5_addTrip_52 (by decide) (fun c10 => ?_) (fun c10 => ?_)
        · have hf := if_t c10 hf
          refine lv_aload_n hx hb dX5_addTrip_65 rfl (lv_at hl 0 rfl) ?_
          refine gf_X5_10 hx hb hts hown hK hP dX5_addTrip_66 ?_
          refine lv_iload_n hx hb dX5_addTrip_69 rfl (lv_at hl 1 rfl) ?_
          refine lv_iload_n hx hb dX5_addTrip_70 rfl (lv_at hl 2 rfl) ?_
          refine lv_iload_n hx hb dX5_addTrip_71 rfl (lv_at hl 3 rfl) ?_
          refine lv_iload hx hb dX5_addTrip_72 (lv_at hl 4 rfl) ?_
          obtain ⟨r13, sg12, q11, hf⟩ := bd2_so hf
          refine cl_i (va_runV (As := [.int a1, .int a2, .int a3, .int a4]) (rest := []) ⟨hx, hb, hml, hown, hts⟩ (c_X4_append l g ad X _ sg a1 a2 a3 a4 r13 sg12 q11) (cwV 4 hts gl_X5_105 rfl rfl rfl yd_X4_append ⟨Nat.le_of_ble_eq_true rfl, Nat.le_of_ble_eq_true rfl⟩) (preV_of hK hP (hD sg) (dd_at (by decide) cc_31) rfl) rfl rfl hl.1 rfl (lv_room (Nat.le_of_ble_eq_true rfl)) dX5_addTrip_74 ⟨Nat.le_of_ble_eq_true rfl, Nat.le_of_ble_eq_true rfl⟩) hS (fun q h => dd_A_mono hS.1 h) (fun q h => dd_A_mono hS.1 h) (fun H locs hP hS => ?_)
          refine W.widen (k := 1) (n := 6) (by decide) (by decide) ?_
          refine vx_ret ?_
          exact W.iret (v := r13) hx hb hr (fun t ht hW => ⟨⟨r13, (), rfl, ⟨(so3 hf).1.symm, (so3 hf).2.1⟩, P_at2 (so3 hf).2.2 ht hP⟩, hS.F ht⟩) hS.2.2 dX5_addTrip_77
        · have hf := if_f c10 hf
          obtain ⟨rfl, rfl, rfl⟩ := so3 hf
          exact T_throw3 (is := 102) (text := "there are 40 trips") hx hb hst hown hts hK hXF (dd_str 2) hP hS (hl.1.trans hml.symm) dX5_addTrip_55 dX5_addTrip_58 dX5_addTrip_59 dX5_addTrip_61 dX5_addTrip_64 hnone (Nat.le_of_ble_eq_true rfl) (Nat.le_of_ble_eq_true rfl) (Nat.le_of_ble_eq_true rfl) (Nat.le_of_ble_eq_true rfl) hlocks
      · have hf := if_t c9 hf
        obtain ⟨rfl, rfl, rfl⟩ := so3 hf
        exact T_throw2 (is := 94) (text := "no such times of a trip") hx hb hst hown hts hK hXF (dd_str 3) hP hS (hl.1.trans hml.symm) dX5_addTrip_33 dX5_addTrip_36 dX5_addTrip_37 dX5_addTrip_39 dX5_addTrip_42 hnone (Nat.le_of_ble_eq_true rfl) (Nat.le_of_ble_eq_true rfl) (Nat.le_of_ble_eq_true rfl) (Nat.le_of_ble_eq_true rfl) hlocks
    · have hf := if_t c6 hf
      exact hL_14 sg _ _ _ hf hP hS (lv_sub hl [] rfl)
set_option maxHeartbeats 4000000 in
set_option maxRecDepth 100000 in
theorem c_X5_trip (l : Launch) (hst : l.stackTraces = false) (g : dd_G) (ad : Nat → Nat) (X : va_W) (sz : Nat) (sg : dd_S) (a1 : Int32) (a2 : Int32) (k0 : Nat) (r0 : Int32) (s0 : dd_S) (hf : f_X5_trip sg a1 a2 = some (k0, r0, s0)) : vx_Met l yX5_trip (lw_ws yX5_trip cX5_trip 3 (some .int)) ({ frames := 6, cells := 1, slots := 6, locals := 82 } : Room) (va_Pc [.ref (ad 30), .int a1, .int a2] (PreX g 59 ad X (WC g ad sg ++ X) sz)) (QXI g (WC g ad s0 ++ X) (dd_A 59 ad X sz) k0 r0) (XCx g (WC g ad s0 ++ X) (dd_A 59 ad X sz) k0) 1 6 (dd_A 59 ad X sz) := by
  refine vx_ofW (cc := cX5_trip) (maxL := 3) (ret := some .int) (by decide) rfl ?_
  intro p e s m args below meth c s₁ B hml hnone hv
  obtain ⟨rfl, ⟨rfl, hP, hK, hD0⟩, hXF⟩ := hv
  have hx := B.exec
  have hb := B.bytes
  have hr := B.returns
  have hts := atoms_spec (ws := (lw_ws yX5_trip cX5_trip 3 (some .int))) B.pre
  have hts : ∀ w ∈ lw_all, w.before _ s = true := fun w h => hts w (List.mem_cons_of_mem _ h)
  have hown : s.vm.findClass RX5 = some m.cls := findClass_of_methodNamed B.named
  have hlocks := B.notSynchronized
  have hD : ∀ s2 : dd_S, va_D (dd_A 59 ad X s.heap.size) (WC g ad s2 ++ X) := fun s2 => dd_D (dd_A_D hD0)
  have hS : va_S (dd_A 59 ad X s.heap.size) s.heap s.heap [] := va_S.rf
  have hL_17 : ∀ (sg : dd_S) (H : Heap) (locs : List Loc) (ls : Array Slot), f_X5_trip_17 a1 a2 sg = some (k0, r0, s0) → va_P g.1 vwCl (WC g ad sg ++ X) H → va_S (dd_A 59 ad X s.heap.size) s.heap H locs → lv_has ls 3 [] → W p l e (headSpec (lw_ws yX5_trip cX5_trip 3 (some .int)) ({ frames := 6, cells := 1, slots := 6, locals := 82 } : Room)).room s m ([.ref (ad 30), .int a1, .int a2] : List Value).toArray below meth c H locs 0 0 (vx_MQ below (QXI g (WC g ad s0 ++ X) (dd_A 59 ad X s.heap.size) k0 r0) (XCx g (WC g ad s0 ++ X) (dd_A 59 ad X s.heap.size) k0) ([.ref (ad 30), .int a1, .int a2] : List Value).toArray s 1 6 (dd_A 59 ad X s.heap.size)) (F0 m 17 ls []) := by
    intro sg H locs ls hf hP hS hl
    unfold f_X5_trip_17 at hf
    obtain ⟨rfl, rfl, rfl⟩ := so3 hf
    exact T_throw1 (is := 112) (text := "no such trip or what") hx hb hst hown hts hK hXF (dd_str 4) hP hS (hl.1.trans hml.symm) dX5_trip_17 dX5_trip_20 dX5_trip_21 dX5_trip_23 dX5_trip_26 hnone (Nat.le_of_ble_eq_true rfl) (Nat.le_of_ble_eq_true rfl) (Nat.le_of_ble_eq_true rfl) (Nat.le_of_ble_eq_true rfl) hlocks
  unfold f_X5_trip at hf
  have hl := lv_entry ([.ref (ad 30), .int a1, .int a2]) (n := 3) (Nat.le_of_ble_eq_true rfl)
  rw [lg_entry_eq]
  generalize (lg_sl ([.ref (ad 30), .int a1, .int a2]) ++ List.replicate (3 - (lg_sl ([.ref (ad 30), .int a1, .int a2])).length) Slot.unset).toArray = ls at hl ⊢
  have hl : lv_has ls 3 [(0, .ref (ad 30)), (1, .int a1), (2, .int a2)] := hl
  refine lv_aload_n hx hb dX5_trip_0 rfl (lv_at hl 0 rfl) ?_
  refine lv_iload_n hx hb dX5_trip_1 rfl (lv_at hl 1 rfl) ?_
  obtain ⟨r2, q1, hf⟩ := bd_so hf
  refine cl_i (va_runV (As := [.int a1]) (rest := []) ⟨hx, hb, hml, hown, hts⟩ (c_X5_isTrip l g ad X _ sg a1 r2 q1) (cwV 1 hts gl_X5_109 rfl rfl rfl yd_X5_isTrip ⟨Nat.le_of_ble_eq_true rfl, Nat.le_of_ble_eq_true rfl⟩) (preV_of hK hP (hD sg) (dd_at (by decide) cc_30) rfl) rfl rfl hl.1 rfl (lv_room (Nat.le_of_ble_eq_true rfl)) dX5_trip_2 ⟨Nat.le_of_ble_eq_true rfl, Nat.le_of_ble_eq_true rfl⟩) hS (fun q h => dd_A_mono hS.1 h) (fun q h => dd_A_mono hS.1 h) (fun H locs hP hS => ?_)
  refine lv_if_eq (tgt := 17) hx hb dX5_trip_5 (by decide) (fun c3 => ?_) (fun c3 => ?_)
  · have hf := if_t c3 hf
    exact hL_17 sg _ _ _ hf hP hS (lv_sub hl [] rfl)
  · have hf := if_f c3 hf
    refine lv_iload_n hx hb dX5_trip_8 rfl (lv_at hl 2 rfl) ?_
    refine lv_if_lt (tgt := 17) hx hb dX5_trip_9 (by decide) (fun c4 => ?_) (fun c4 => ?_)
    · have hf := if_t c4 hf
      exact hL_17 sg _ _ _ hf hP hS (lv_sub hl [] rfl)
    · have hf := if_f c4 hf
      refine lv_iload_n hx hb dX5_trip_12 rfl (lv_at hl 2 rfl) ?_
      refine lv_iconst (v := (5 : Int32)) hx hb dX5_trip_13 (by decide) ?_
      refine lv_icmp_lt (tgt := 27) hx hb dX5_trip_14 (by decide) (fun c5 => ?_) (fun c5 => ?_)
      · have hf := if_t c5 hf
        refine lv_aload_n hx hb dX5_trip_27 rfl (lv_at hl 0 rfl) ?_
        refine lv_iload_n hx hb dX5_trip_28 rfl (lv_at hl 1 rfl) ?_
        refine lv_iload_n hx hb dX5_trip_29 rfl (lv_at hl 2 rfl) ?_
        obtain ⟨r7, q6, hf⟩ := bd_so hf
        refine cl_i (va_runV (As := [.int a1, .int a2]) (rest := []) ⟨hx, hb, hml, hown, hts⟩ (c_X5_tripFact l g ad X _ sg a1 a2 r7 q6) (cwV 2 hts gl_X5_114 rfl rfl rfl yd_X5_tripFact ⟨Nat.le_of_ble_eq_true rfl, Nat.le_of_ble_eq_true rfl⟩) (preV_of hK hP (hD sg) (dd_at (by decide) cc_30) rfl) rfl rfl hl.1 rfl (lv_room (Nat.le_of_ble_eq_true rfl)) dX5_trip_30 ⟨Nat.le_of_ble_eq_true rfl, Nat.le_of_ble_eq_true rfl⟩) hS (fun q h => dd_A_mono hS.1 h) (fun q h => dd_A_mono hS.1 h) (fun H locs hP hS => ?_)
        refine W.widen (k := 1) (n := 6) (by decide) (by decide) ?_
        refine vx_ret ?_
        exact W.iret (v := r7) hx hb hr (fun t ht hW => ⟨⟨r7, (), rfl, ⟨(so3 hf).1.symm, (so3 hf).2.1⟩, P_at2 (so3 hf).2.2 ht hP⟩, hS.F ht⟩) hS.2.2 dX5_trip_33
      · have hf := if_f c5 hf
        exact hL_17 sg _ _ _ hf hP hS (lv_sub hl [] rfl)
set_option maxHeartbeats 4000000 in
set_option maxRecDepth 100000 in
theorem c_X5_setRules (l : Launch) (hst : l.stackTraces = false) (g : dd_G) (ad : Nat → Nat) (X : va_W) (sz : Nat) (sg : dd_S) (a1 : Int32) (a2 : Int32) (a3 : Int32) (a4 : Int32) (k0 : Nat) (r0 : Int32) (s0 : dd_S) (hf : f_X5_setRules sg a1 a2 a3 a4 = some (k0, r0, s0)) : vx_Met l yX5_setRules (lw_ws yX5_setRules cX5_setRules 5 (some .int)) ({ frames := 6, cells := 1, slots := 6, locals := 93 } : Room) (va_Pc [.ref (ad 30), .int a1, .int a2, .int a3, .int a4] (PreX g 59 ad X (WC g ad sg ++ X) sz)) (QXI g (WC g ad s0 ++ X) (dd_A 59 ad X sz) k0 r0) (XCx g (WC g ad s0 ++ X) (dd_A 59 ad X sz) k0) 1 6 (dd_A 59 ad X sz) := by
  refine vx_ofW (cc := cX5_setRules) (maxL := 5) (ret := some .int) (by decide) rfl ?_
  intro p e s m args below meth c s₁ B hml hnone hv
  obtain ⟨rfl, ⟨rfl, hP, hK, hD0⟩, hXF⟩ := hv
  have hx := B.exec
  have hb := B.bytes
  have hr := B.returns
  have hts := atoms_spec (ws := (lw_ws yX5_setRules cX5_setRules 5 (some .int))) B.pre
  have hts : ∀ w ∈ lw_all, w.before _ s = true := fun w h => hts w (List.mem_cons_of_mem _ h)
  have hown : s.vm.findClass RX5 = some m.cls := findClass_of_methodNamed B.named
  have hlocks := B.notSynchronized
  have hD : ∀ s2 : dd_S, va_D (dd_A 59 ad X s.heap.size) (WC g ad s2 ++ X) := fun s2 => dd_D (dd_A_D hD0)
  have hS : va_S (dd_A 59 ad X s.heap.size) s.heap s.heap [] := va_S.rf
  have hL_27 : ∀ (sg : dd_S) (H : Heap) (locs : List Loc) (ls : Array Slot), f_X5_setRules_27 a1 a2 a3 a4 sg = some (k0, r0, s0) → va_P g.1 vwCl (WC g ad sg ++ X) H → va_S (dd_A 59 ad X s.heap.size) s.heap H locs → lv_has ls 5 [] → W p l e (headSpec (lw_ws yX5_setRules cX5_setRules 5 (some .int)) ({ frames := 6, cells := 1, slots := 6, locals := 93 } : Room)).room s m ([.ref (ad 30), .int a1, .int a2, .int a3, .int a4] : List Value).toArray below meth c H locs 0 0 (vx_MQ below (QXI g (WC g ad s0 ++ X) (dd_A 59 ad X s.heap.size) k0 r0) (XCx g (WC g ad s0 ++ X) (dd_A 59 ad X s.heap.size) k0) ([.ref (ad 30), .int a1, .int a2, .int a3, .int a4] : List Value).toArray s 1 6 (dd_A 59 ad X s.heap.size)) (F0 m 27 ls []) := by
    intro sg H locs ls hf hP hS hl
    unfold f_X5_setRules_27 at hf
    obtain ⟨rfl, rfl, rfl⟩ := so3 hf
    exact T_throw2 (is := 117) (text := "driving not 60 to 600, or spread not 240 to 1000") hx hb hst hown hts hK hXF (dd_str 5) hP hS (hl.1.trans hml.symm) dX5_setRules_27 dX5_setRules_30 dX5_setRules_31 dX5_setRules_33 dX5_setRules_36 hnone (Nat.le_of_ble_eq_true rfl) (Nat.le_of_ble_eq_true rfl) (Nat.le_of_ble_eq_true rfl) (Nat.le_of_ble_eq_true rfl) hlocks
  have hL_62 : ∀ (sg : dd_S) (H : Heap) (locs : List Loc) (ls : Array Slot), f_X5_setRules_62 a1 a2 a3 a4 sg = some (k0, r0, s0) → va_P g.1 vwCl (WC g ad sg ++ X) H → va_S (dd_A 59 ad X s.heap.size) s.heap H locs → lv_has ls 5 [] → W p l e (headSpec (lw_ws yX5_setRules cX5_setRules 5 (some .int)) ({ frames := 6, cells := 1, slots := 6, locals := 93 } : Room)).room s m ([.ref (ad 30), .int a1, .int a2, .int a3, .int a4] : List Value).toArray below meth c H locs 0 0 (vx_MQ below (QXI g (WC g ad s0 ++ X) (dd_A 59 ad X s.heap.size) k0 r0) (XCx g (WC g ad s0 ++ X) (dd_A 59 ad X s.heap.size) k0) ([.ref (ad 30), .int a1, .int a2, .int a3, .int a4] : List Value).toArray s 1 6 (dd_A 59 ad X s.heap.size)) (F0 m 62 ls []) := by
    intro sg H locs ls hf hP hS hl
    unfold f_X5_setRules_62 at hf
    obtain ⟨rfl, rfl, rfl⟩ := so3 hf
    exact T_throw2 (is := 119) (text := "pause not 10 to 90, or rest not 0 to 900") hx hb hst hown hts hK hXF (dd_str 6) hP hS (hl.1.trans hml.symm) dX5_setRules_62 dX5_setRules_65 dX5_setRules_66 dX5_setRules_68 dX5_setRules_71 hnone (Nat.le_of_ble_eq_true rfl) (Nat.le_of_ble_eq_true rfl) (Nat.le_of_ble_eq_true rfl) (Nat.le_of_ble_eq_true rfl) hlocks
  unfold f_X5_setRules at hf
  have hl := lv_entry ([.ref (ad 30), .int a1, .int a2, .int a3, .int a4]) (n := 5) (Nat.le_of_ble_eq_true rfl)
  rw [lg_entry_eq]
  generalize (lg_sl ([.ref (ad 30), .int a1, .int a2, .int a3, .int a4]) ++ List.replicate (5 - (lg_sl ([.ref (ad 30), .int a1, .int a2, .int a3, .int a4])).length) Slot.unset).toArray = ls at hl ⊢
  have hl : lv_has ls 5 [(0, .ref (ad 30)), (1, .int a1), (2, .int a2), (3, .int a3), (4, .int a4)] := hl
  refine lv_iload_n hx hb dX5_setRules_0 rfl (lv_at hl 1 rfl) ?_
  refine lv_bipush (v := (60 : Int32)) hx hb dX5_setRules_1 (by decide) ?_
  refine lv_icmp_lt (tgt := 27) hx hb dX5_setRules_3 (by decide) (fun c1 => ?_) (fun c1 => ?_)
  · have hf := if_t c1 hf
    exact hL_27 sg _ _ _ hf hP hS (lv_sub hl [] rfl)
  · have hf := if_f c1 hf
    refine lv_iload_n hx hb dX5_setRules_6 rfl (lv_at hl 1 rfl) ?_
    refine lv_sipush (v := (600 : Int32)) hx hb dX5_setRules_7 (by decide) ?_
    refine lv_icmp_gt (tgt := 27) hx hb dX5_setRules_10 (by decide) (fun c2 => ?_) (fun c2 => ?_)
    · have hf := if_t c2 hf
      exact hL_27 sg _ _ _ hf hP hS (lv_sub hl [] rfl)
    · have hf := if_f c2 hf
      refine lv_iload_n hx hb dX5_setRules_13 rfl (lv_at hl 2 rfl) ?_
      refine lv_sipush (v := (240 : Int32)) hx hb dX5_setRules_14 (by decide) ?_
      refine lv_icmp_lt (tgt := 27) hx hb dX5_setRules_17 (by decide) (fun c3 => ?_) (fun c3 => ?_)
      · have hf := if_t c3 hf
        exact hL_27 sg _ _ _ hf hP hS (lv_sub hl [] rfl)
      · have hf := if_f c3 hf
        refine lv_iload_n hx hb dX5_setRules_20 rfl (lv_at hl 2 rfl) ?_
        refine lv_sipush (v := (1000 : Int32)) hx hb dX5_setRules_21 (by decide) ?_
        refine lv_icmp_le (tgt := 37) hx hb dX5_setRules_24 (by decide) (fun c4 => ?_) (fun c4 => ?_)
        · have hf := if_t c4 hf
          refine lv_iload_n hx hb dX5_setRules_37 rfl (lv_at hl 3 rfl) ?_
          refine lv_bipush (v := (10 : Int32)) hx hb dX5_setRules_38 (by decide) ?_
          refine lv_icmp_lt (tgt := 62) hx hb dX5_setRules_40 (by decide) (fun c5 => ?_) (fun c5 => ?_)
          · have hf := if_t c5 hf
            exact hL_62 sg _ _ _ hf hP hS (lv_sub hl [] rfl)
          · have hf := if_f c5 hf
            refine lv_iload_n hx hb dX5_setRules_43 rfl (lv_at hl 3 rfl) ?_
            refine lv_bipush (v := (90 : Int32)) hx hb dX5_setRules_44 (by decide) ?_
            refine lv_icmp_gt (tgt := 62) hx hb dX5_setRules_46 (by decide) (fun c6 => ?_) (fun c6 => ?_)
            · have hf := if_t c6 hf
              exact hL_62 sg _ _ _ hf hP hS (lv_sub hl [] rfl)
            · have hf := if_f c6 hf
              refine lv_iload hx hb dX5_setRules_49 (lv_at hl 4 rfl) ?_
              refine lv_if_lt (tgt := 62) hx hb dX5_setRules_51 (by decide) (fun c7 => ?_) (fun c7 => ?_)
              · have hf := if_t c7 hf
                exact hL_62 sg _ _ _ hf hP hS (lv_sub hl [] rfl)
              · have hf := if_f c7 hf
                refine lv_iload hx hb dX5_setRules_54 (lv_at hl 4 rfl) ?_
                refine lv_sipush (v := (900 : Int32)) hx hb dX5_setRules_56 (by decide) ?_
                refine lv_icmp_le (tgt := 72) hx hb dX5_setRules_59 (by decide) (fun c8 => ?_) (fun c8 => ?_)
                · have hf := if_t c8 hf
                  refine lv_aload_n hx hb dX5_setRules_72 rfl (lv_at hl 0 rfl) ?_
                  refine gf_X5_19 hx hb hts hown hK hP dX5_setRules_73 ?_
                  refine lv_iload_n hx hb dX5_setRules_76 rfl (lv_at hl 1 rfl) ?_
                  obtain ⟨sg9, esg9, hf⟩ := lt_ex hf
                  refine pf_X5_121 hx hb hts hown hK hP hD hS dX5_setRules_77 (fun H locs hP hS => ?_)
                  rw [← esg9] at hP
                  refine lv_aload_n hx hb dX5_setRules_80 rfl (lv_at hl 0 rfl) ?_
                  refine gf_X5_19 hx hb hts hown hK hP dX5_setRules_81 ?_
                  refine lv_iload_n hx hb dX5_setRules_84 rfl (lv_at hl 2 rfl) ?_
                  obtain ⟨sg10, esg10, hf⟩ := lt_ex hf
                  refine pf_X5_124 hx hb hts hown hK hP hD hS dX5_setRules_85 (fun H locs hP hS => ?_)
                  rw [← esg10] at hP
                  refine lv_aload_n hx hb dX5_setRules_88 rfl (lv_at hl 0 rfl) ?_
                  refine gf_X5_19 hx hb hts hown hK hP dX5_setRules_89 ?_
                  refine lv_iload_n hx hb dX5_setRules_92 rfl (lv_at hl 3 rfl) ?_
                  obtain ⟨sg11, esg11, hf⟩ := lt_ex hf
                  refine pf_X5_127 hx hb hts hown hK hP hD hS dX5_setRules_93 (fun H locs hP hS => ?_)
                  rw [← esg11] at hP
                  refine lv_aload_n hx hb dX5_setRules_96 rfl (lv_at hl 0 rfl) ?_
                  refine gf_X5_19 hx hb hts hown hK hP dX5_setRules_97 ?_
                  refine lv_iload hx hb dX5_setRules_100 (lv_at hl 4 rfl) ?_
                  obtain ⟨sg12, esg12, hf⟩ := lt_ex hf
                  refine pf_X5_130 hx hb hts hown hK hP hD hS dX5_setRules_102 (fun H locs hP hS => ?_)
                  rw [← esg12] at hP
                  refine lv_aload_n hx hb dX5_setRules_105 rfl (lv_at hl 0 rfl) ?_
                  obtain ⟨sg14, q13, hf⟩ := bd_so hf
                  refine cl_v (va_runV (As := []) (rest := []) ⟨hx, hb, hml, hown, hts⟩ (c_X5_measureDuties l g ad X _ sg12 sg14 q13) (cwV 0 hts gl_X5_87 rfl rfl rfl yd_X5_measureDuties ⟨Nat.le_of_ble_eq_true rfl, Nat.le_of_ble_eq_true rfl⟩) (preV_of hK hP (hD sg12) (dd_at (by decide) cc_30) rfl) rfl rfl hl.1 rfl (lv_room (Nat.le_of_ble_eq_true rfl)) dX5_setRules_106 ⟨Nat.le_of_ble_eq_true rfl, Nat.le_of_ble_eq_true rfl⟩) hS (fun q h => dd_A_mono hS.1 h) (fun q h => dd_A_mono hS.1 h) (fun H locs hP hS => ?_)
                  refine lv_aload_n hx hb dX5_setRules_109 rfl (lv_at hl 0 rfl) ?_
                  obtain ⟨r16, q15, hf⟩ := bd_so hf
                  refine cl_i (va_runV (As := []) (rest := []) ⟨hx, hb, hml, hown, hts⟩ (c_X5_wrongDuties l g ad X _ sg14 r16 q15) (cwV 0 hts gl_X5_133 rfl rfl rfl yd_X5_wrongDuties ⟨Nat.le_of_ble_eq_true rfl, Nat.le_of_ble_eq_true rfl⟩) (preV_of hK hP (hD sg14) (dd_at (by decide) cc_30) rfl) rfl rfl hl.1 rfl (lv_room (Nat.le_of_ble_eq_true rfl)) dX5_setRules_110 ⟨Nat.le_of_ble_eq_true rfl, Nat.le_of_ble_eq_true rfl⟩) hS (fun q h => dd_A_mono hS.1 h) (fun q h => dd_A_mono hS.1 h) (fun H locs hP hS => ?_)
                  refine W.widen (k := 1) (n := 6) (by decide) (by decide) ?_
                  refine vx_ret ?_
                  exact W.iret (v := r16) hx hb hr (fun t ht hW => ⟨⟨r16, (), rfl, ⟨(so3 hf).1.symm, (so3 hf).2.1⟩, P_at2 (so3 hf).2.2 ht hP⟩, hS.F ht⟩) hS.2.2 dX5_setRules_113
                · have hf := if_f c8 hf
                  exact hL_62 sg _ _ _ hf hP hS (lv_sub hl [] rfl)
        · have hf := if_f c4 hf
          exact hL_27 sg _ _ _ hf hP hS (lv_sub hl [] rfl)
set_option maxHeartbeats 4000000 in
set_option maxRecDepth 100000 in
theorem c_X5_count (l : Launch) (hst : l.stackTraces = false) (g : dd_G) (ad : Nat → Nat) (X : va_W) (sz : Nat) (sg : dd_S) (a1 : Int32) (k0 : Nat) (r0 : Int32) (s0 : dd_S) (hf : f_X5_count sg a1 = some (k0, r0, s0)) : vx_Met l yX5_count (lw_ws yX5_count cX5_count 2 (some .int)) ({ frames := 6, cells := 1, slots := 6, locals := 82 } : Room) (va_Pc [.ref (ad 30), .int a1] (PreX g 59 ad X (WC g ad sg ++ X) sz)) (QXI g (WC g ad s0 ++ X) (dd_A 59 ad X sz) k0 r0) (XCx g (WC g ad s0 ++ X) (dd_A 59 ad X sz) k0) 1 6 (dd_A 59 ad X sz) := by
  refine vx_ofW (cc := cX5_count) (maxL := 2) (ret := some .int) (by decide) rfl ?_
  intro p e s m args below meth c s₁ B hml hnone hv
  obtain ⟨rfl, ⟨rfl, hP, hK, hD0⟩, hXF⟩ := hv
  have hx := B.exec
  have hb := B.bytes
  have hr := B.returns
  have hts := atoms_spec (ws := (lw_ws yX5_count cX5_count 2 (some .int))) B.pre
  have hts : ∀ w ∈ lw_all, w.before _ s = true := fun w h => hts w (List.mem_cons_of_mem _ h)
  have hown : s.vm.findClass RX5 = some m.cls := findClass_of_methodNamed B.named
  have hlocks := B.notSynchronized
  have hD : ∀ s2 : dd_S, va_D (dd_A 59 ad X s.heap.size) (WC g ad s2 ++ X) := fun s2 => dd_D (dd_A_D hD0)
  have hS : va_S (dd_A 59 ad X s.heap.size) s.heap s.heap [] := va_S.rf
  unfold f_X5_count at hf
  have hl := lv_entry ([.ref (ad 30), .int a1]) (n := 2) (Nat.le_of_ble_eq_true rfl)
  rw [lg_entry_eq]
  generalize (lg_sl ([.ref (ad 30), .int a1]) ++ List.replicate (2 - (lg_sl ([.ref (ad 30), .int a1])).length) Slot.unset).toArray = ls at hl ⊢
  have hl : lv_has ls 2 [(0, .ref (ad 30)), (1, .int a1)] := hl
  refine lv_iload_n hx hb dX5_count_0 rfl (lv_at hl 1 rfl) ?_
  by_cases c1 : a1 = (0 : Int32)
  · have hf := if_t c1 hf
    refine lv_tableIn (tgt := 32) (off := 31) hx hb dX5_count_1 (by rw [c1]; decide) (by rw [c1]; decide) (by rw [c1]; rfl) (by decide) ?_
    refine lv_aload_n hx hb dX5_count_32 rfl (lv_at hl 0 rfl) ?_
    refine gf_X5_10 hx hb hts hown hK hP dX5_count_33 ?_
    refine gf_X5_96 hx hb hts hown hK hP dX5_count_36 ?_
    refine W.widen (k := 1) (n := 6) (by decide) (by decide) ?_
    refine vx_ret ?_
    exact W.iret (v := (sg 31 5)) hx hb hr (fun t ht hW => ⟨⟨(sg 31 5), (), rfl, ⟨(so3 hf).1.symm, (so3 hf).2.1⟩, P_at2 (so3 hf).2.2 ht hP⟩, hS.F ht⟩) hS.2.2 dX5_count_39
  have hf := if_f c1 hf
  by_cases c2 : a1 = (1 : Int32)
  · have hf := if_t c2 hf
    refine lv_tableIn (tgt := 40) (off := 39) hx hb dX5_count_1 (by rw [c2]; decide) (by rw [c2]; decide) (by rw [c2]; rfl) (by decide) ?_
    refine lv_aload_n hx hb dX5_count_40 rfl (lv_at hl 0 rfl) ?_
    refine gf_X5_137 hx hb hts hown hK hP dX5_count_41 ?_
    refine W.widen (k := 1) (n := 6) (by decide) (by decide) ?_
    refine vx_ret ?_
    exact W.iret (v := (sg 30 5)) hx hb hr (fun t ht hW => ⟨⟨(sg 30 5), (), rfl, ⟨(so3 hf).1.symm, (so3 hf).2.1⟩, P_at2 (so3 hf).2.2 ht hP⟩, hS.F ht⟩) hS.2.2 dX5_count_44
  have hf := if_f c2 hf
  by_cases c3 : a1 = (2 : Int32)
  · have hf := if_t c3 hf
    refine lv_tableIn (tgt := 45) (off := 44) hx hb dX5_count_1 (by rw [c3]; decide) (by rw [c3]; decide) (by rw [c3]; rfl) (by decide) ?_
    refine lv_aload_n hx hb dX5_count_45 rfl (lv_at hl 0 rfl) ?_
    refine gf_X5_140 hx hb hts hown hK hP dX5_count_46 ?_
    refine W.widen (k := 1) (n := 6) (by decide) (by decide) ?_
    refine vx_ret ?_
    exact W.iret (v := (sg 30 6)) hx hb hr (fun t ht hW => ⟨⟨(sg 30 6), (), rfl, ⟨(so3 hf).1.symm, (so3 hf).2.1⟩, P_at2 (so3 hf).2.2 ht hP⟩, hS.F ht⟩) hS.2.2 dX5_count_49
  have hf := if_f c3 hf
  by_cases c4 : a1 = (3 : Int32)
  · have hf := if_t c4 hf
    refine lv_tableIn (tgt := 50) (off := 49) hx hb dX5_count_1 (by rw [c4]; decide) (by rw [c4]; decide) (by rw [c4]; rfl) (by decide) ?_
    refine lv_aload_n hx hb dX5_count_50 rfl (lv_at hl 0 rfl) ?_
    obtain ⟨r6, q5, hf⟩ := bd_so hf
    refine cl_i (va_runV (As := []) (rest := []) ⟨hx, hb, hml, hown, hts⟩ (c_X5_freeTrips l g ad X _ sg r6 q5) (cwV 0 hts gl_X5_143 rfl rfl rfl yd_X5_freeTrips ⟨Nat.le_of_ble_eq_true rfl, Nat.le_of_ble_eq_true rfl⟩) (preV_of hK hP (hD sg) (dd_at (by decide) cc_30) rfl) rfl rfl hl.1 rfl (lv_room (Nat.le_of_ble_eq_true rfl)) dX5_count_51 ⟨Nat.le_of_ble_eq_true rfl, Nat.le_of_ble_eq_true rfl⟩) hS (fun q h => dd_A_mono hS.1 h) (fun q h => dd_A_mono hS.1 h) (fun H locs hP hS => ?_)
    refine W.widen (k := 1) (n := 6) (by decide) (by decide) ?_
    refine vx_ret ?_
    exact W.iret (v := r6) hx hb hr (fun t ht hW => ⟨⟨r6, (), rfl, ⟨(so3 hf).1.symm, (so3 hf).2.1⟩, P_at2 (so3 hf).2.2 ht hP⟩, hS.F ht⟩) hS.2.2 dX5_count_54
  have hf := if_f c4 hf
  refine lv_tableOut (tgt := 55) hx hb dX5_count_1 (dd_out (lo := 0) (hi := 3) (fun k h1 h2 => by rcases (show k = 0 ∨ k = 1 ∨ k = 2 ∨ k = 3 by omega) with h9 | h9 | h9 | h9 <;> subst h9 <;> first | exact lv_neT c1 (by decide) | exact lv_neT c2 (by decide) | exact lv_neT c3 (by decide) | exact lv_neT c4 (by decide))) (by decide) ?_
  obtain ⟨rfl, rfl, rfl⟩ := so3 hf
  exact T_throw1 (is := 146) (text := "what is not 0 to 3") hx hb hst hown hts hK hXF (dd_str 7) hP hS (hl.1.trans hml.symm) dX5_count_55 dX5_count_58 dX5_count_59 dX5_count_61 dX5_count_64 hnone (Nat.le_of_ble_eq_true rfl) (Nat.le_of_ble_eq_true rfl) (Nat.le_of_ble_eq_true rfl) (Nat.le_of_ble_eq_true rfl) hlocks
set_option maxHeartbeats 4000000 in
set_option maxRecDepth 100000 in
theorem c_X5_addDuty (l : Launch) (hst : l.stackTraces = false) (g : dd_G) (ad : Nat → Nat) (X : va_W) (sz : Nat) (sg : dd_S) (k0 : Nat) (r0 : Int32) (s0 : dd_S) (hf : f_X5_addDuty sg = some (k0, r0, s0)) : vx_Met l yX5_addDuty (lw_ws yX5_addDuty cX5_addDuty 1 (some .int)) ({ frames := 6, cells := 1, slots := 6, locals := 82 } : Room) (va_Pc [.ref (ad 30)] (PreX g 59 ad X (WC g ad sg ++ X) sz)) (QXI g (WC g ad s0 ++ X) (dd_A 59 ad X sz) k0 r0) (XCx g (WC g ad s0 ++ X) (dd_A 59 ad X sz) k0) 1 6 (dd_A 59 ad X sz) := by
  refine vx_ofW (cc := cX5_addDuty) (maxL := 1) (ret := some .int) (by decide) rfl ?_
  intro p e s m args below meth c s₁ B hml hnone hv
  obtain ⟨rfl, ⟨rfl, hP, hK, hD0⟩, hXF⟩ := hv
  have hx := B.exec
  have hb := B.bytes
  have hr := B.returns
  have hts := atoms_spec (ws := (lw_ws yX5_addDuty cX5_addDuty 1 (some .int))) B.pre
  have hts : ∀ w ∈ lw_all, w.before _ s = true := fun w h => hts w (List.mem_cons_of_mem _ h)
  have hown : s.vm.findClass RX5 = some m.cls := findClass_of_methodNamed B.named
  have hlocks := B.notSynchronized
  have hD : ∀ s2 : dd_S, va_D (dd_A 59 ad X s.heap.size) (WC g ad s2 ++ X) := fun s2 => dd_D (dd_A_D hD0)
  have hS : va_S (dd_A 59 ad X s.heap.size) s.heap s.heap [] := va_S.rf
  unfold f_X5_addDuty at hf
  have hl := lv_entry ([.ref (ad 30)]) (n := 1) (Nat.le_of_ble_eq_true rfl)
  rw [lg_entry_eq]
  generalize (lg_sl ([.ref (ad 30)]) ++ List.replicate (1 - (lg_sl ([.ref (ad 30)])).length) Slot.unset).toArray = ls at hl ⊢
  have hl : lv_has ls 1 [(0, .ref (ad 30))] := hl
  refine lv_aload_n hx hb dX5_addDuty_0 rfl (lv_at hl 0 rfl) ?_
  refine gf_X5_137 hx hb hts hown hK hP dX5_addDuty_1 ?_
  refine lv_bipush (v := (12 : Int32)) hx hb dX5_addDuty_4 (by decide) ?_
  refine lv_icmp_lt (tgt := 19) hx hb dX5_addDuty_6 (by decide) (fun c1 => ?_) (fun c1 => ?_)
  · have hf := if_t c1 hf
    refine lv_aload_n hx hb dX5_addDuty_19 rfl (lv_at hl 0 rfl) ?_
    refine lv_dup hx hb dX5_addDuty_20 rfl ?_
    refine gf_X5_137 hx hb hts hown hK hP dX5_addDuty_21 ?_
    refine lv_dup_x1 hx hb dX5_addDuty_24 rfl rfl ?_
    refine lv_iconst (v := (1 : Int32)) hx hb dX5_addDuty_25 (by decide) ?_
    refine lv_iadd hx hb dX5_addDuty_26 ?_
    obtain ⟨sg2, esg2, hf⟩ := lt_ex hf
    refine pf_X5_137 hx hb hts hown hK hP hD hS dX5_addDuty_27 (fun H locs hP hS => ?_)
    rw [← esg2] at hP
    refine W.widen (k := 1) (n := 6) (by decide) (by decide) ?_
    refine vx_ret ?_
    exact W.iret (v := (sg 30 5)) hx hb hr (fun t ht hW => ⟨⟨(sg 30 5), (), rfl, ⟨(so3 hf).1.symm, (so3 hf).2.1⟩, P_at2 (so3 hf).2.2 ht hP⟩, hS.F ht⟩) hS.2.2 dX5_addDuty_30
  · have hf := if_f c1 hf
    obtain ⟨rfl, rfl, rfl⟩ := so3 hf
    exact T_throw3 (is := 148) (text := "there are 12 duties") hx hb hst hown hts hK hXF (dd_str 8) hP hS (hl.1.trans hml.symm) dX5_addDuty_9 dX5_addDuty_12 dX5_addDuty_13 dX5_addDuty_15 dX5_addDuty_18 hnone (Nat.le_of_ble_eq_true rfl) (Nat.le_of_ble_eq_true rfl) (Nat.le_of_ble_eq_true rfl) (Nat.le_of_ble_eq_true rfl) hlocks
set_option maxHeartbeats 4000000 in
set_option maxRecDepth 100000 in
theorem c_X5_put (l : Launch) (hst : l.stackTraces = false) (g : dd_G) (ad : Nat → Nat) (X : va_W) (sz : Nat) (sg : dd_S) (a1 : Int32) (a2 : Int32) (k0 : Nat) (r0 : Int32) (s0 : dd_S) (hf : f_X5_put sg a1 a2 = some (k0, r0, s0)) : vx_Met l yX5_put (lw_ws yX5_put cX5_put 3 (some .int)) ({ frames := 6, cells := 1, slots := 6, locals := 94 } : Room) (va_Pc [.ref (ad 30), .int a1, .int a2] (PreX g 59 ad X (WC g ad sg ++ X) sz)) (QXI g (WC g ad s0 ++ X) (dd_A 59 ad X sz) k0 r0) (XCx g (WC g ad s0 ++ X) (dd_A 59 ad X sz) k0) 1 6 (dd_A 59 ad X sz) := by
  refine vx_ofW (cc := cX5_put) (maxL := 3) (ret := some .int) (by decide) rfl ?_
  intro p e s m args below meth c s₁ B hml hnone hv
  obtain ⟨rfl, ⟨rfl, hP, hK, hD0⟩, hXF⟩ := hv
  have hx := B.exec
  have hb := B.bytes
  have hr := B.returns
  have hts := atoms_spec (ws := (lw_ws yX5_put cX5_put 3 (some .int))) B.pre
  have hts : ∀ w ∈ lw_all, w.before _ s = true := fun w h => hts w (List.mem_cons_of_mem _ h)
  have hown : s.vm.findClass RX5 = some m.cls := findClass_of_methodNamed B.named
  have hlocks := B.notSynchronized
  have hD : ∀ s2 : dd_S, va_D (dd_A 59 ad X s.heap.size) (WC g ad s2 ++ X) := fun s2 => dd_D (dd_A_D hD0)
  have hS : va_S (dd_A 59 ad X s.heap.size) s.heap s.heap [] := va_S.rf
  have hL_16 : ∀ (sg : dd_S) (H : Heap) (locs : List Loc) (ls : Array Slot), f_X5_put_16 a1 a2 sg = some (k0, r0, s0) → va_P g.1 vwCl (WC g ad sg ++ X) H → va_S (dd_A 59 ad X s.heap.size) s.heap H locs → lv_has ls 3 [] → W p l e (headSpec (lw_ws yX5_put cX5_put 3 (some .int)) ({ frames := 6, cells := 1, slots := 6, locals := 94 } : Room)).room s m ([.ref (ad 30), .int a1, .int a2] : List Value).toArray below meth c H locs 0 0 (vx_MQ below (QXI g (WC g ad s0 ++ X) (dd_A 59 ad X s.heap.size) k0 r0) (XCx g (WC g ad s0 ++ X) (dd_A 59 ad X s.heap.size) k0) ([.ref (ad 30), .int a1, .int a2] : List Value).toArray s 1 6 (dd_A 59 ad X s.heap.size)) (F0 m 16 ls []) := by
    intro sg H locs ls hf hP hS hl
    unfold f_X5_put_16 at hf
    obtain ⟨rfl, rfl, rfl⟩ := so3 hf
    exact T_throw1 (is := 153) (text := "no such duty or trip") hx hb hst hown hts hK hXF (dd_str 10) hP hS (hl.1.trans hml.symm) dX5_put_16 dX5_put_19 dX5_put_20 dX5_put_22 dX5_put_25 hnone (Nat.le_of_ble_eq_true rfl) (Nat.le_of_ble_eq_true rfl) (Nat.le_of_ble_eq_true rfl) (Nat.le_of_ble_eq_true rfl) hlocks
  unfold f_X5_put at hf
  have hl := lv_entry ([.ref (ad 30), .int a1, .int a2]) (n := 3) (Nat.le_of_ble_eq_true rfl)
  rw [lg_entry_eq]
  generalize (lg_sl ([.ref (ad 30), .int a1, .int a2]) ++ List.replicate (3 - (lg_sl ([.ref (ad 30), .int a1, .int a2])).length) Slot.unset).toArray = ls at hl ⊢
  have hl : lv_has ls 3 [(0, .ref (ad 30)), (1, .int a1), (2, .int a2)] := hl
  refine lv_aload_n hx hb dX5_put_0 rfl (lv_at hl 0 rfl) ?_
  refine lv_iload_n hx hb dX5_put_1 rfl (lv_at hl 1 rfl) ?_
  obtain ⟨r2, q1, hf⟩ := bd_so hf
  refine cl_i (va_runV (As := [.int a1]) (rest := []) ⟨hx, hb, hml, hown, hts⟩ (c_X5_isDuty l g ad X _ sg a1 r2 q1) (cwV 1 hts gl_X5_150 rfl rfl rfl yd_X5_isDuty ⟨Nat.le_of_ble_eq_true rfl, Nat.le_of_ble_eq_true rfl⟩) (preV_of hK hP (hD sg) (dd_at (by decide) cc_30) rfl) rfl rfl hl.1 rfl (lv_room (Nat.le_of_ble_eq_true rfl)) dX5_put_2 ⟨Nat.le_of_ble_eq_true rfl, Nat.le_of_ble_eq_true rfl⟩) hS (fun q h => dd_A_mono hS.1 h) (fun q h => dd_A_mono hS.1 h) (fun H locs hP hS => ?_)
  refine lv_if_eq (tgt := 16) hx hb dX5_put_5 (by decide) (fun c3 => ?_) (fun c3 => ?_)
  · have hf := if_t c3 hf
    exact hL_16 sg _ _ _ hf hP hS (lv_sub hl [] rfl)
  · have hf := if_f c3 hf
    refine lv_aload_n hx hb dX5_put_8 rfl (lv_at hl 0 rfl) ?_
    refine lv_iload_n hx hb dX5_put_9 rfl (lv_at hl 2 rfl) ?_
    obtain ⟨r5, q4, hf⟩ := bd_so hf
    refine cl_i (va_runV (As := [.int a2]) (rest := []) ⟨hx, hb, hml, hown, hts⟩ (c_X5_isTrip l g ad X _ sg a2 r5 q4) (cwV 1 hts gl_X5_109 rfl rfl rfl yd_X5_isTrip ⟨Nat.le_of_ble_eq_true rfl, Nat.le_of_ble_eq_true rfl⟩) (preV_of hK hP (hD sg) (dd_at (by decide) cc_30) rfl) rfl rfl hl.1 rfl (lv_room (Nat.le_of_ble_eq_true rfl)) dX5_put_10 ⟨Nat.le_of_ble_eq_true rfl, Nat.le_of_ble_eq_true rfl⟩) hS (fun q h => dd_A_mono hS.1 h) (fun q h => dd_A_mono hS.1 h) (fun H locs hP hS => ?_)
    refine lv_if_ne (tgt := 26) hx hb dX5_put_13 (by decide) (fun c6 => ?_) (fun c6 => ?_)
    · have hf := if_f c6 hf
      refine lv_aload_n hx hb dX5_put_26 rfl (lv_at hl 0 rfl) ?_
      refine lv_iload_n hx hb dX5_put_27 rfl (lv_at hl 1 rfl) ?_
      refine lv_iload_n hx hb dX5_put_28 rfl (lv_at hl 2 rfl) ?_
      obtain ⟨r9, sg8, q7, hf⟩ := bd2_so hf
      refine cl_i (va_runV (As := [.int a1, .int a2]) (rest := []) ⟨hx, hb, hml, hown, hts⟩ (c_X5_tryPut l g ad X _ sg a1 a2 r9 sg8 q7) (cwV 2 hts gl_X5_155 rfl rfl rfl yd_X5_tryPut ⟨Nat.le_of_ble_eq_true rfl, Nat.le_of_ble_eq_true rfl⟩) (preV_of hK hP (hD sg) (dd_at (by decide) cc_30) rfl) rfl rfl hl.1 rfl (lv_room (Nat.le_of_ble_eq_true rfl)) dX5_put_29 ⟨Nat.le_of_ble_eq_true rfl, Nat.le_of_ble_eq_true rfl⟩) hS (fun q h => dd_A_mono hS.1 h) (fun q h => dd_A_mono hS.1 h) (fun H locs hP hS => ?_)
      refine lv_if_ne (tgt := 45) hx hb dX5_put_32 (by decide) (fun c10 => ?_) (fun c10 => ?_)
      · have hf := if_f c10 hf
        refine lv_aload_n hx hb dX5_put_45 rfl (lv_at hl 0 rfl) ?_
        refine lv_iload_n hx hb dX5_put_46 rfl (lv_at hl 1 rfl) ?_
        refine lv_iload_n hx hb dX5_put_47 rfl (lv_at hl 2 rfl) ?_
        obtain ⟨sg12, q11, hf⟩ := bd_so hf
        refine cl_v (va_runV (As := [.int a1, .int a2]) (rest := []) ⟨hx, hb, hml, hown, hts⟩ (c_X5_keepPut l g ad X _ sg8 a1 a2 sg12 q11) (cwV 2 hts gl_X5_160 rfl rfl rfl yd_X5_keepPut ⟨Nat.le_of_ble_eq_true rfl, Nat.le_of_ble_eq_true rfl⟩) (preV_of hK hP (hD sg8) (dd_at (by decide) cc_30) rfl) rfl rfl hl.1 rfl (lv_room (Nat.le_of_ble_eq_true rfl)) dX5_put_48 ⟨Nat.le_of_ble_eq_true rfl, Nat.le_of_ble_eq_true rfl⟩) hS (fun q h => dd_A_mono hS.1 h) (fun q h => dd_A_mono hS.1 h) (fun H locs hP hS => ?_)
        refine lv_aload_n hx hb dX5_put_51 rfl (lv_at hl 0 rfl) ?_
        refine lv_iload_n hx hb dX5_put_52 rfl (lv_at hl 1 rfl) ?_
        obtain ⟨r14, q13, hf⟩ := bd_so hf
        refine cl_r (va_runV (As := [.int a1]) (rest := []) ⟨hx, hb, hml, hown, hts⟩ (c_X5_dutyAt l g ad X _ sg12 a1 r14 q13) (cwV 1 hts gl_X5_164 rfl rfl rfl yd_X5_dutyAt ⟨Nat.le_of_ble_eq_true rfl, Nat.le_of_ble_eq_true rfl⟩) (preV_of hK hP (hD sg12) (dd_at (by decide) cc_30) rfl) rfl rfl hl.1 rfl (lv_room (Nat.le_of_ble_eq_true rfl)) dX5_put_53 ⟨Nat.le_of_ble_eq_true rfl, Nat.le_of_ble_eq_true rfl⟩) hS (fun q h => dd_A_mono hS.1 h) (fun q h => dd_A_mono hS.1 h) (fun H locs hP hS => ?_)
        have hr14 := lt_X5_dutyAt q13
        refine lv_iload_n hx hb dX5_put_56 rfl (lv_at hl 2 rfl) ?_
        obtain ⟨r16, q15, hf⟩ := bd_so hf
        refine cl_i (va_runV (As := [.int a2]) (rest := []) ⟨hx, hb, hml, hown, hts⟩ (c_X0_placeOf l g ad X _ sg12 r14 a2 hr14 r16 q15) (cwV 1 hts gl_X5_168 rfl rfl rfl yd_X0_placeOf ⟨Nat.le_of_ble_eq_true rfl, Nat.le_of_ble_eq_true rfl⟩) (preV_of hK hP (hD sg12) (dd_at (Nat.lt_trans hr14 (by decide)) (cc_duty hr14)) rfl) rfl rfl hl.1 rfl (lv_room (Nat.le_of_ble_eq_true rfl)) dX5_put_57 ⟨Nat.le_of_ble_eq_true rfl, Nat.le_of_ble_eq_true rfl⟩) hS (fun q h => dd_A_mono hS.1 h) (fun q h => dd_A_mono hS.1 h) (fun H locs hP hS => ?_)
        refine W.widen (k := 1) (n := 6) (by decide) (by decide) ?_
        refine vx_ret ?_
        exact W.iret (v := r16) hx hb hr (fun t ht hW => ⟨⟨r16, (), rfl, ⟨(so3 hf).1.symm, (so3 hf).2.1⟩, P_at2 (so3 hf).2.2 ht hP⟩, hS.F ht⟩) hS.2.2 dX5_put_60
      · have hf := if_t c10 hf
        obtain ⟨rfl, rfl, rfl⟩ := so3 hf
        exact T_throw3 (is := 158) (text := "the trip cannot be put into the duty") hx hb hst hown hts hK hXF (dd_str 9) hP hS (hl.1.trans hml.symm) dX5_put_35 dX5_put_38 dX5_put_39 dX5_put_41 dX5_put_44 hnone (Nat.le_of_ble_eq_true rfl) (Nat.le_of_ble_eq_true rfl) (Nat.le_of_ble_eq_true rfl) (Nat.le_of_ble_eq_true rfl) hlocks
    · have hf := if_t c6 hf
      exact hL_16 sg _ _ _ hf hP hS (lv_sub hl [] rfl)
set_option maxHeartbeats 4000000 in
set_option maxRecDepth 100000 in
theorem c_X5_takeOut (l : Launch) (hst : l.stackTraces = false) (g : dd_G) (ad : Nat → Nat) (X : va_W) (sz : Nat) (sg : dd_S) (a1 : Int32) (k0 : Nat) (r0 : Int32) (s0 : dd_S) (hf : f_X5_takeOut sg a1 = some (k0, r0, s0)) : vx_Met l yX5_takeOut (lw_ws yX5_takeOut cX5_takeOut 3 (some .int)) ({ frames := 6, cells := 1, slots := 6, locals := 94 } : Room) (va_Pc [.ref (ad 30), .int a1] (PreX g 59 ad X (WC g ad sg ++ X) sz)) (QXI g (WC g ad s0 ++ X) (dd_A 59 ad X sz) k0 r0) (XCx g (WC g ad s0 ++ X) (dd_A 59 ad X sz) k0) 1 6 (dd_A 59 ad X sz) := by
  refine vx_ofW (cc := cX5_takeOut) (maxL := 3) (ret := some .int) (by decide) rfl ?_
  intro p e s m args below meth c s₁ B hml hnone hv
  obtain ⟨rfl, ⟨rfl, hP, hK, hD0⟩, hXF⟩ := hv
  have hx := B.exec
  have hb := B.bytes
  have hr := B.returns
  have hts := atoms_spec (ws := (lw_ws yX5_takeOut cX5_takeOut 3 (some .int))) B.pre
  have hts : ∀ w ∈ lw_all, w.before _ s = true := fun w h => hts w (List.mem_cons_of_mem _ h)
  have hown : s.vm.findClass RX5 = some m.cls := findClass_of_methodNamed B.named
  have hlocks := B.notSynchronized
  have hD : ∀ s2 : dd_S, va_D (dd_A 59 ad X s.heap.size) (WC g ad s2 ++ X) := fun s2 => dd_D (dd_A_D hD0)
  have hS : va_S (dd_A 59 ad X s.heap.size) s.heap s.heap [] := va_S.rf
  have hL_46 : ∀ (sg : dd_S) (H : Heap) (locs : List Loc) (ls : Array Slot), f_X5_takeOut_46 a1 sg = some (k0, r0, s0) → va_P g.1 vwCl (WC g ad sg ++ X) H → va_S (dd_A 59 ad X s.heap.size) s.heap H locs → lv_has ls 3 [] → W p l e (headSpec (lw_ws yX5_takeOut cX5_takeOut 3 (some .int)) ({ frames := 6, cells := 1, slots := 6, locals := 94 } : Room)).room s m ([.ref (ad 30), .int a1] : List Value).toArray below meth c H locs 0 0 (vx_MQ below (QXI g (WC g ad s0 ++ X) (dd_A 59 ad X s.heap.size) k0 r0) (XCx g (WC g ad s0 ++ X) (dd_A 59 ad X s.heap.size) k0) ([.ref (ad 30), .int a1] : List Value).toArray s 1 6 (dd_A 59 ad X s.heap.size)) (F0 m 46 ls []) := by
    intro sg H locs ls hf hP hS hl
    unfold f_X5_takeOut_46 at hf
    obtain ⟨rfl, rfl, rfl⟩ := so3 hf
    exact T_throw3 (is := 183) (text := "the trip cannot be taken out") hx hb hst hown hts hK hXF (dd_str 12) hP hS (hl.1.trans hml.symm) dX5_takeOut_46 dX5_takeOut_49 dX5_takeOut_50 dX5_takeOut_52 dX5_takeOut_55 hnone (Nat.le_of_ble_eq_true rfl) (Nat.le_of_ble_eq_true rfl) (Nat.le_of_ble_eq_true rfl) (Nat.le_of_ble_eq_true rfl) hlocks
  unfold f_X5_takeOut at hf
  have hl := lv_entry ([.ref (ad 30), .int a1]) (n := 3) (Nat.le_of_ble_eq_true rfl)
  rw [lg_entry_eq]
  generalize (lg_sl ([.ref (ad 30), .int a1]) ++ List.replicate (3 - (lg_sl ([.ref (ad 30), .int a1])).length) Slot.unset).toArray = ls at hl ⊢
  have hl : lv_has ls 3 [(0, .ref (ad 30)), (1, .int a1)] := hl
  refine lv_aload_n hx hb dX5_takeOut_0 rfl (lv_at hl 0 rfl) ?_
  refine lv_iload_n hx hb dX5_takeOut_1 rfl (lv_at hl 1 rfl) ?_
  obtain ⟨r2, q1, hf⟩ := bd_so hf
  refine cl_i (va_runV (As := [.int a1]) (rest := []) ⟨hx, hb, hml, hown, hts⟩ (c_X5_isTrip l g ad X _ sg a1 r2 q1) (cwV 1 hts gl_X5_109 rfl rfl rfl yd_X5_isTrip ⟨Nat.le_of_ble_eq_true rfl, Nat.le_of_ble_eq_true rfl⟩) (preV_of hK hP (hD sg) (dd_at (by decide) cc_30) rfl) rfl rfl hl.1 rfl (lv_room (Nat.le_of_ble_eq_true rfl)) dX5_takeOut_2 ⟨Nat.le_of_ble_eq_true rfl, Nat.le_of_ble_eq_true rfl⟩) hS (fun q h => dd_A_mono hS.1 h) (fun q h => dd_A_mono hS.1 h) (fun H locs hP hS => ?_)
  refine lv_if_ne (tgt := 18) hx hb dX5_takeOut_5 (by decide) (fun c3 => ?_) (fun c3 => ?_)
  · have hf := if_f c3 hf
    refine lv_aload_n hx hb dX5_takeOut_18 rfl (lv_at hl 0 rfl) ?_
    refine lv_iload_n hx hb dX5_takeOut_19 rfl (lv_at hl 1 rfl) ?_
    obtain ⟨r5, q4, hf⟩ := bd_so hf
    refine cl_i (va_runV (As := [.int a1]) (rest := []) ⟨hx, hb, hml, hown, hts⟩ (c_X5_dutyOf l g ad X _ sg a1 r5 q4) (cwV 1 hts gl_X5_174 rfl rfl rfl yd_X5_dutyOf ⟨Nat.le_of_ble_eq_true rfl, Nat.le_of_ble_eq_true rfl⟩) (preV_of hK hP (hD sg) (dd_at (by decide) cc_30) rfl) rfl rfl hl.1 rfl (lv_room (Nat.le_of_ble_eq_true rfl)) dX5_takeOut_20 ⟨Nat.le_of_ble_eq_true rfl, Nat.le_of_ble_eq_true rfl⟩) hS (fun q h => dd_A_mono hS.1 h) (fun q h => dd_A_mono hS.1 h) (fun H locs hP hS => ?_)
    refine lv_istore_n (lv' := [(2, .int r5), (0, .ref (ad 30)), (1, .int a1)]) hx hb dX5_takeOut_23 rfl hl (by decide) rfl (fun ls hl => ?_)
    refine lv_iload_n hx hb dX5_takeOut_24 rfl (lv_at hl 0 rfl) ?_
    refine lv_iconst (v := (-1 : Int32)) hx hb dX5_takeOut_25 (by decide) ?_
    refine lv_icmp_eq (tgt := 46) hx hb dX5_takeOut_26 (by decide) (fun c6 => ?_) (fun c6 => ?_)
    · have hf := if_t c6 hf
      exact hL_46 sg _ _ _ hf hP hS (lv_sub hl [] rfl)
    · have hf := if_f c6 hf
      refine lv_aload_n hx hb dX5_takeOut_29 rfl (lv_at hl 1 rfl) ?_
      refine lv_iload_n hx hb dX5_takeOut_30 rfl (lv_at hl 0 rfl) ?_
      obtain ⟨r8, q7, hf⟩ := bd_so hf
      refine cl_i (va_runV (As := [.int r5]) (rest := []) ⟨hx, hb, hml, hown, hts⟩ (c_X5_isFixed l g ad X _ sg r5 r8 q7) (cwV 1 hts gl_X5_177 rfl rfl rfl yd_X5_isFixed ⟨Nat.le_of_ble_eq_true rfl, Nat.le_of_ble_eq_true rfl⟩) (preV_of hK hP (hD sg) (dd_at (by decide) cc_30) rfl) rfl rfl hl.1 rfl (lv_room (Nat.le_of_ble_eq_true rfl)) dX5_takeOut_31 ⟨Nat.le_of_ble_eq_true rfl, Nat.le_of_ble_eq_true rfl⟩) hS (fun q h => dd_A_mono hS.1 h) (fun q h => dd_A_mono hS.1 h) (fun H locs hP hS => ?_)
      refine lv_if_ne (tgt := 46) hx hb dX5_takeOut_34 (by decide) (fun c9 => ?_) (fun c9 => ?_)
      · have hf := if_f c9 hf
        exact hL_46 sg _ _ _ hf hP hS (lv_sub hl [] rfl)
      · have hf := if_t c9 hf
        refine lv_aload_n hx hb dX5_takeOut_37 rfl (lv_at hl 1 rfl) ?_
        refine lv_iload_n hx hb dX5_takeOut_38 rfl (lv_at hl 0 rfl) ?_
        refine lv_iload_n hx hb dX5_takeOut_39 rfl (lv_at hl 2 rfl) ?_
        obtain ⟨r12, sg11, q10, hf⟩ := bd2_so hf
        refine cl_i (va_runV (As := [.int r5, .int a1]) (rest := []) ⟨hx, hb, hml, hown, hts⟩ (c_X5_tryWithout l g ad X _ sg r5 a1 r12 sg11 q10) (cwV 2 hts gl_X5_180 rfl rfl rfl yd_X5_tryWithout ⟨Nat.le_of_ble_eq_true rfl, Nat.le_of_ble_eq_true rfl⟩) (preV_of hK hP (hD sg) (dd_at (by decide) cc_30) rfl) rfl rfl hl.1 rfl (lv_room (Nat.le_of_ble_eq_true rfl)) dX5_takeOut_40 ⟨Nat.le_of_ble_eq_true rfl, Nat.le_of_ble_eq_true rfl⟩) hS (fun q h => dd_A_mono hS.1 h) (fun q h => dd_A_mono hS.1 h) (fun H locs hP hS => ?_)
        refine lv_if_ne (tgt := 56) hx hb dX5_takeOut_43 (by decide) (fun c13 => ?_) (fun c13 => ?_)
        · have hf := if_f c13 hf
          refine lv_aload_n hx hb dX5_takeOut_56 rfl (lv_at hl 1 rfl) ?_
          refine lv_iload_n hx hb dX5_takeOut_57 rfl (lv_at hl 0 rfl) ?_
          obtain ⟨r15, q14, hf⟩ := bd_so hf
          refine cl_r (va_runV (As := [.int r5]) (rest := []) ⟨hx, hb, hml, hown, hts⟩ (c_X5_dutyAt l g ad X _ sg11 r5 r15 q14) (cwV 1 hts gl_X5_164 rfl rfl rfl yd_X5_dutyAt ⟨Nat.le_of_ble_eq_true rfl, Nat.le_of_ble_eq_true rfl⟩) (preV_of hK hP (hD sg11) (dd_at (by decide) cc_30) rfl) rfl rfl hl.1 rfl (lv_room (Nat.le_of_ble_eq_true rfl)) dX5_takeOut_58 ⟨Nat.le_of_ble_eq_true rfl, Nat.le_of_ble_eq_true rfl⟩) hS (fun q h => dd_A_mono hS.1 h) (fun q h => dd_A_mono hS.1 h) (fun H locs hP hS => ?_)
          have hr15 := lt_X5_dutyAt q14
          refine lv_aload_n hx hb dX5_takeOut_61 rfl (lv_at hl 1 rfl) ?_
          refine gf_X5_39 hx hb hts hown hK hP dX5_takeOut_62 ?_
          obtain ⟨sg17, q16, hf⟩ := bd_so hf
          refine cl_v (va_runV (As := [.ref (ad 12)]) (rest := []) ⟨hx, hb, hml, hown, hts⟩ (c_X0_copy l g ad X _ sg11 r15 12 hr15 (by decide) sg17 q16) (cwV 1 hts gl_X5_185 rfl rfl rfl yd_X0_copy ⟨Nat.le_of_ble_eq_true rfl, Nat.le_of_ble_eq_true rfl⟩) (preV_of hK hP (hD sg11) (dd_at (Nat.lt_trans hr15 (by decide)) (cc_duty hr15)) rfl) rfl rfl hl.1 rfl (lv_room (Nat.le_of_ble_eq_true rfl)) dX5_takeOut_65 ⟨Nat.le_of_ble_eq_true rfl, Nat.le_of_ble_eq_true rfl⟩) hS (fun q h => dd_A_mono hS.1 h) (fun q h => dd_A_mono hS.1 h) (fun H locs hP hS => ?_)
          refine lv_aload_n hx hb dX5_takeOut_68 rfl (lv_at hl 1 rfl) ?_
          refine lv_iload_n hx hb dX5_takeOut_69 rfl (lv_at hl 2 rfl) ?_
          refine lv_iconst (v := (-1 : Int32)) hx hb dX5_takeOut_70 (by decide) ?_
          obtain ⟨sg19, q18, hf⟩ := bd_so hf
          refine cl_v (va_runV (As := [.int a1, .int (-1 : Int32)]) (rest := []) ⟨hx, hb, hml, hown, hts⟩ (c_X5_assign l g ad X _ sg17 a1 (-1 : Int32) sg19 q18) (cwV 2 hts gl_X5_189 rfl rfl rfl yd_X5_assign ⟨Nat.le_of_ble_eq_true rfl, Nat.le_of_ble_eq_true rfl⟩) (preV_of hK hP (hD sg17) (dd_at (by decide) cc_30) rfl) rfl rfl hl.1 rfl (lv_room (Nat.le_of_ble_eq_true rfl)) dX5_takeOut_71 ⟨Nat.le_of_ble_eq_true rfl, Nat.le_of_ble_eq_true rfl⟩) hS (fun q h => dd_A_mono hS.1 h) (fun q h => dd_A_mono hS.1 h) (fun H locs hP hS => ?_)
          refine lv_iload_n hx hb dX5_takeOut_74 rfl (lv_at hl 0 rfl) ?_
          refine W.widen (k := 1) (n := 6) (by decide) (by decide) ?_
          refine vx_ret ?_
          exact W.iret (v := r5) hx hb hr (fun t ht hW => ⟨⟨r5, (), rfl, ⟨(so3 hf).1.symm, (so3 hf).2.1⟩, P_at2 (so3 hf).2.2 ht hP⟩, hS.F ht⟩) hS.2.2 dX5_takeOut_75
        · have hf := if_t c13 hf
          exact hL_46 sg11 _ _ _ hf hP hS (lv_sub hl [] rfl)
  · have hf := if_t c3 hf
    obtain ⟨rfl, rfl, rfl⟩ := so3 hf
    exact T_throw1 (is := 172) (text := "no such trip") hx hb hst hown hts hK hXF (dd_str 11) hP hS (hl.1.trans hml.symm) dX5_takeOut_8 dX5_takeOut_11 dX5_takeOut_12 dX5_takeOut_14 dX5_takeOut_17 hnone (Nat.le_of_ble_eq_true rfl) (Nat.le_of_ble_eq_true rfl) (Nat.le_of_ble_eq_true rfl) (Nat.le_of_ble_eq_true rfl) hlocks
set_option maxHeartbeats 4000000 in
set_option maxRecDepth 100000 in
theorem c_X5_duty (l : Launch) (hst : l.stackTraces = false) (g : dd_G) (ad : Nat → Nat) (X : va_W) (sz : Nat) (sg : dd_S) (a1 : Int32) (a2 : Int32) (k0 : Nat) (r0 : Int32) (s0 : dd_S) (hf : f_X5_duty sg a1 a2 = some (k0, r0, s0)) : vx_Met l yX5_duty (lw_ws yX5_duty cX5_duty 3 (some .int)) ({ frames := 6, cells := 1, slots := 6, locals := 90 } : Room) (va_Pc [.ref (ad 30), .int a1, .int a2] (PreX g 59 ad X (WC g ad sg ++ X) sz)) (QXI g (WC g ad s0 ++ X) (dd_A 59 ad X sz) k0 r0) (XCx g (WC g ad s0 ++ X) (dd_A 59 ad X sz) k0) 1 6 (dd_A 59 ad X sz) := by
  refine vx_ofW (cc := cX5_duty) (maxL := 3) (ret := some .int) (by decide) rfl ?_
  intro p e s m args below meth c s₁ B hml hnone hv
  obtain ⟨rfl, ⟨rfl, hP, hK, hD0⟩, hXF⟩ := hv
  have hx := B.exec
  have hb := B.bytes
  have hr := B.returns
  have hts := atoms_spec (ws := (lw_ws yX5_duty cX5_duty 3 (some .int))) B.pre
  have hts : ∀ w ∈ lw_all, w.before _ s = true := fun w h => hts w (List.mem_cons_of_mem _ h)
  have hown : s.vm.findClass RX5 = some m.cls := findClass_of_methodNamed B.named
  have hlocks := B.notSynchronized
  have hD : ∀ s2 : dd_S, va_D (dd_A 59 ad X s.heap.size) (WC g ad s2 ++ X) := fun s2 => dd_D (dd_A_D hD0)
  have hS : va_S (dd_A 59 ad X s.heap.size) s.heap s.heap [] := va_S.rf
  have hL_18 : ∀ (sg : dd_S) (H : Heap) (locs : List Loc) (ls : Array Slot), f_X5_duty_18 a1 a2 sg = some (k0, r0, s0) → va_P g.1 vwCl (WC g ad sg ++ X) H → va_S (dd_A 59 ad X s.heap.size) s.heap H locs → lv_has ls 3 [] → W p l e (headSpec (lw_ws yX5_duty cX5_duty 3 (some .int)) ({ frames := 6, cells := 1, slots := 6, locals := 90 } : Room)).room s m ([.ref (ad 30), .int a1, .int a2] : List Value).toArray below meth c H locs 0 0 (vx_MQ below (QXI g (WC g ad s0 ++ X) (dd_A 59 ad X s.heap.size) k0 r0) (XCx g (WC g ad s0 ++ X) (dd_A 59 ad X s.heap.size) k0) ([.ref (ad 30), .int a1, .int a2] : List Value).toArray s 1 6 (dd_A 59 ad X s.heap.size)) (F0 m 18 ls []) := by
    intro sg H locs ls hf hP hS hl
    unfold f_X5_duty_18 at hf
    obtain ⟨rfl, rfl, rfl⟩ := so3 hf
    exact T_throw1 (is := 192) (text := "no such duty or what") hx hb hst hown hts hK hXF (dd_str 13) hP hS (hl.1.trans hml.symm) dX5_duty_18 dX5_duty_21 dX5_duty_22 dX5_duty_24 dX5_duty_27 hnone (Nat.le_of_ble_eq_true rfl) (Nat.le_of_ble_eq_true rfl) (Nat.le_of_ble_eq_true rfl) (Nat.le_of_ble_eq_true rfl) hlocks
  unfold f_X5_duty at hf
  have hl := lv_entry ([.ref (ad 30), .int a1, .int a2]) (n := 3) (Nat.le_of_ble_eq_true rfl)
  rw [lg_entry_eq]
  generalize (lg_sl ([.ref (ad 30), .int a1, .int a2]) ++ List.replicate (3 - (lg_sl ([.ref (ad 30), .int a1, .int a2])).length) Slot.unset).toArray = ls at hl ⊢
  have hl : lv_has ls 3 [(0, .ref (ad 30)), (1, .int a1), (2, .int a2)] := hl
  refine lv_aload_n hx hb dX5_duty_0 rfl (lv_at hl 0 rfl) ?_
  refine lv_iload_n hx hb dX5_duty_1 rfl (lv_at hl 1 rfl) ?_
  obtain ⟨r2, q1, hf⟩ := bd_so hf
  refine cl_i (va_runV (As := [.int a1]) (rest := []) ⟨hx, hb, hml, hown, hts⟩ (c_X5_isDuty l g ad X _ sg a1 r2 q1) (cwV 1 hts gl_X5_150 rfl rfl rfl yd_X5_isDuty ⟨Nat.le_of_ble_eq_true rfl, Nat.le_of_ble_eq_true rfl⟩) (preV_of hK hP (hD sg) (dd_at (by decide) cc_30) rfl) rfl rfl hl.1 rfl (lv_room (Nat.le_of_ble_eq_true rfl)) dX5_duty_2 ⟨Nat.le_of_ble_eq_true rfl, Nat.le_of_ble_eq_true rfl⟩) hS (fun q h => dd_A_mono hS.1 h) (fun q h => dd_A_mono hS.1 h) (fun H locs hP hS => ?_)
  refine lv_if_eq (tgt := 18) hx hb dX5_duty_5 (by decide) (fun c3 => ?_) (fun c3 => ?_)
  · have hf := if_t c3 hf
    exact hL_18 sg _ _ _ hf hP hS (lv_sub hl [] rfl)
  · have hf := if_f c3 hf
    refine lv_iload_n hx hb dX5_duty_8 rfl (lv_at hl 2 rfl) ?_
    refine lv_if_lt (tgt := 18) hx hb dX5_duty_9 (by decide) (fun c4 => ?_) (fun c4 => ?_)
    · have hf := if_t c4 hf
      exact hL_18 sg _ _ _ hf hP hS (lv_sub hl [] rfl)
    · have hf := if_f c4 hf
      refine lv_iload_n hx hb dX5_duty_12 rfl (lv_at hl 2 rfl) ?_
      refine lv_bipush (v := (9 : Int32)) hx hb dX5_duty_13 (by decide) ?_
      refine lv_icmp_lt (tgt := 28) hx hb dX5_duty_15 (by decide) (fun c5 => ?_) (fun c5 => ?_)
      · have hf := if_t c5 hf
        refine lv_aload_n hx hb dX5_duty_28 rfl (lv_at hl 0 rfl) ?_
        refine lv_iload_n hx hb dX5_duty_29 rfl (lv_at hl 1 rfl) ?_
        refine lv_iload_n hx hb dX5_duty_30 rfl (lv_at hl 2 rfl) ?_
        obtain ⟨r7, q6, hf⟩ := bd_so hf
        refine cl_i (va_runV (As := [.int a1, .int a2]) (rest := []) ⟨hx, hb, hml, hown, hts⟩ (c_X5_dutyFact l g ad X _ sg a1 a2 r7 q6) (cwV 2 hts gl_X5_194 rfl rfl rfl yd_X5_dutyFact ⟨Nat.le_of_ble_eq_true rfl, Nat.le_of_ble_eq_true rfl⟩) (preV_of hK hP (hD sg) (dd_at (by decide) cc_30) rfl) rfl rfl hl.1 rfl (lv_room (Nat.le_of_ble_eq_true rfl)) dX5_duty_31 ⟨Nat.le_of_ble_eq_true rfl, Nat.le_of_ble_eq_true rfl⟩) hS (fun q h => dd_A_mono hS.1 h) (fun q h => dd_A_mono hS.1 h) (fun H locs hP hS => ?_)
        refine W.widen (k := 1) (n := 6) (by decide) (by decide) ?_
        refine vx_ret ?_
        exact W.iret (v := r7) hx hb hr (fun t ht hW => ⟨⟨r7, (), rfl, ⟨(so3 hf).1.symm, (so3 hf).2.1⟩, P_at2 (so3 hf).2.2 ht hP⟩, hS.F ht⟩) hS.2.2 dX5_duty_34
      · have hf := if_f c5 hf
        exact hL_18 sg _ _ _ hf hP hS (lv_sub hl [] rfl)
set_option maxHeartbeats 4000000 in
set_option maxRecDepth 100000 in
theorem c_X5_tripAt (l : Launch) (hst : l.stackTraces = false) (g : dd_G) (ad : Nat → Nat) (X : va_W) (sz : Nat) (sg : dd_S) (a1 : Int32) (a2 : Int32) (k0 : Nat) (r0 : Int32) (s0 : dd_S) (hf : f_X5_tripAt sg a1 a2 = some (k0, r0, s0)) : vx_Met l yX5_tripAt (lw_ws yX5_tripAt cX5_tripAt 3 (some .int)) ({ frames := 6, cells := 1, slots := 6, locals := 82 } : Room) (va_Pc [.ref (ad 30), .int a1, .int a2] (PreX g 59 ad X (WC g ad sg ++ X) sz)) (QXI g (WC g ad s0 ++ X) (dd_A 59 ad X sz) k0 r0) (XCx g (WC g ad s0 ++ X) (dd_A 59 ad X sz) k0) 1 6 (dd_A 59 ad X sz) := by
  refine vx_ofW (cc := cX5_tripAt) (maxL := 3) (ret := some .int) (by decide) rfl ?_
  intro p e s m args below meth c s₁ B hml hnone hv
  obtain ⟨rfl, ⟨rfl, hP, hK, hD0⟩, hXF⟩ := hv
  have hx := B.exec
  have hb := B.bytes
  have hr := B.returns
  have hts := atoms_spec (ws := (lw_ws yX5_tripAt cX5_tripAt 3 (some .int))) B.pre
  have hts : ∀ w ∈ lw_all, w.before _ s = true := fun w h => hts w (List.mem_cons_of_mem _ h)
  have hown : s.vm.findClass RX5 = some m.cls := findClass_of_methodNamed B.named
  have hlocks := B.notSynchronized
  have hD : ∀ s2 : dd_S, va_D (dd_A 59 ad X s.heap.size) (WC g ad s2 ++ X) := fun s2 => dd_D (dd_A_D hD0)
  have hS : va_S (dd_A 59 ad X s.heap.size) s.heap s.heap [] := va_S.rf
  have hL_24 : ∀ (sg : dd_S) (H : Heap) (locs : List Loc) (ls : Array Slot), f_X5_tripAt_24 a1 a2 sg = some (k0, r0, s0) → va_P g.1 vwCl (WC g ad sg ++ X) H → va_S (dd_A 59 ad X s.heap.size) s.heap H locs → lv_has ls 3 [] → W p l e (headSpec (lw_ws yX5_tripAt cX5_tripAt 3 (some .int)) ({ frames := 6, cells := 1, slots := 6, locals := 82 } : Room)).room s m ([.ref (ad 30), .int a1, .int a2] : List Value).toArray below meth c H locs 0 0 (vx_MQ below (QXI g (WC g ad s0 ++ X) (dd_A 59 ad X s.heap.size) k0 r0) (XCx g (WC g ad s0 ++ X) (dd_A 59 ad X s.heap.size) k0) ([.ref (ad 30), .int a1, .int a2] : List Value).toArray s 1 6 (dd_A 59 ad X s.heap.size)) (F0 m 24 ls []) := by
    intro sg H locs ls hf hP hS hl
    unfold f_X5_tripAt_24 at hf
    obtain ⟨rfl, rfl, rfl⟩ := so3 hf
    exact T_throw1 (is := 198) (text := "no such duty or place") hx hb hst hown hts hK hXF (dd_str 14) hP hS (hl.1.trans hml.symm) dX5_tripAt_24 dX5_tripAt_27 dX5_tripAt_28 dX5_tripAt_30 dX5_tripAt_33 hnone (Nat.le_of_ble_eq_true rfl) (Nat.le_of_ble_eq_true rfl) (Nat.le_of_ble_eq_true rfl) (Nat.le_of_ble_eq_true rfl) hlocks
  unfold f_X5_tripAt at hf
  have hl := lv_entry ([.ref (ad 30), .int a1, .int a2]) (n := 3) (Nat.le_of_ble_eq_true rfl)
  rw [lg_entry_eq]
  generalize (lg_sl ([.ref (ad 30), .int a1, .int a2]) ++ List.replicate (3 - (lg_sl ([.ref (ad 30), .int a1, .int a2])).length) Slot.unset).toArray = ls at hl ⊢
  have hl : lv_has ls 3 [(0, .ref (ad 30)), (1, .int a1), (2, .int a2)] := hl
  refine lv_aload_n hx hb dX5_tripAt_0 rfl (lv_at hl 0 rfl) ?_
  refine lv_iload_n hx hb dX5_tripAt_1 rfl (lv_at hl 1 rfl) ?_
  obtain ⟨r2, q1, hf⟩ := bd_so hf
  refine cl_i (va_runV (As := [.int a1]) (rest := []) ⟨hx, hb, hml, hown, hts⟩ (c_X5_isDuty l g ad X _ sg a1 r2 q1) (cwV 1 hts gl_X5_150 rfl rfl rfl yd_X5_isDuty ⟨Nat.le_of_ble_eq_true rfl, Nat.le_of_ble_eq_true rfl⟩) (preV_of hK hP (hD sg) (dd_at (by decide) cc_30) rfl) rfl rfl hl.1 rfl (lv_room (Nat.le_of_ble_eq_true rfl)) dX5_tripAt_2 ⟨Nat.le_of_ble_eq_true rfl, Nat.le_of_ble_eq_true rfl⟩) hS (fun q h => dd_A_mono hS.1 h) (fun q h => dd_A_mono hS.1 h) (fun H locs hP hS => ?_)
  refine lv_if_eq (tgt := 24) hx hb dX5_tripAt_5 (by decide) (fun c3 => ?_) (fun c3 => ?_)
  · have hf := if_t c3 hf
    exact hL_24 sg _ _ _ hf hP hS (lv_sub hl [] rfl)
  · have hf := if_f c3 hf
    refine lv_iload_n hx hb dX5_tripAt_8 rfl (lv_at hl 2 rfl) ?_
    refine lv_if_lt (tgt := 24) hx hb dX5_tripAt_9 (by decide) (fun c4 => ?_) (fun c4 => ?_)
    · have hf := if_t c4 hf
      exact hL_24 sg _ _ _ hf hP hS (lv_sub hl [] rfl)
    · have hf := if_f c4 hf
      refine lv_iload_n hx hb dX5_tripAt_12 rfl (lv_at hl 2 rfl) ?_
      refine lv_aload_n hx hb dX5_tripAt_13 rfl (lv_at hl 0 rfl) ?_
      refine lv_iload_n hx hb dX5_tripAt_14 rfl (lv_at hl 1 rfl) ?_
      obtain ⟨r6, q5, hf⟩ := bd_so hf
      refine cl_r (va_runV (As := [.int a1]) (rest := [.int a2]) ⟨hx, hb, hml, hown, hts⟩ (c_X5_dutyAt l g ad X _ sg a1 r6 q5) (cwV 1 hts gl_X5_164 rfl rfl rfl yd_X5_dutyAt ⟨Nat.le_of_ble_eq_true rfl, Nat.le_of_ble_eq_true rfl⟩) (preV_of hK hP (hD sg) (dd_at (by decide) cc_30) rfl) rfl rfl hl.1 rfl (lv_room (Nat.le_of_ble_eq_true rfl)) dX5_tripAt_15 ⟨Nat.le_of_ble_eq_true rfl, Nat.le_of_ble_eq_true rfl⟩) hS (fun q h => dd_A_mono hS.1 h) (fun q h => dd_A_mono hS.1 h) (fun H locs hP hS => ?_)
      have hr6 := lt_X5_dutyAt q5
      refine gf_X5_197 hx hb hts hown hK hP hr6 dX5_tripAt_18 ?_
      refine lv_icmp_lt (tgt := 34) hx hb dX5_tripAt_21 (by decide) (fun c7 => ?_) (fun c7 => ?_)
      · have hf := if_t c7 hf
        refine lv_aload_n hx hb dX5_tripAt_34 rfl (lv_at hl 0 rfl) ?_
        refine lv_iload_n hx hb dX5_tripAt_35 rfl (lv_at hl 1 rfl) ?_
        obtain ⟨r9, q8, hf⟩ := bd_so hf
        refine cl_r (va_runV (As := [.int a1]) (rest := []) ⟨hx, hb, hml, hown, hts⟩ (c_X5_dutyAt l g ad X _ sg a1 r9 q8) (cwV 1 hts gl_X5_164 rfl rfl rfl yd_X5_dutyAt ⟨Nat.le_of_ble_eq_true rfl, Nat.le_of_ble_eq_true rfl⟩) (preV_of hK hP (hD sg) (dd_at (by decide) cc_30) rfl) rfl rfl hl.1 rfl (lv_room (Nat.le_of_ble_eq_true rfl)) dX5_tripAt_36 ⟨Nat.le_of_ble_eq_true rfl, Nat.le_of_ble_eq_true rfl⟩) hS (fun q h => dd_A_mono hS.1 h) (fun q h => dd_A_mono hS.1 h) (fun H locs hP hS => ?_)
        have hr9 := lt_X5_dutyAt q8
        refine lv_iload_n hx hb dX5_tripAt_39 rfl (lv_at hl 2 rfl) ?_
        obtain ⟨r11, q10, hf⟩ := bd_so hf
        refine cl_i (va_runV (As := [.int a2]) (rest := []) ⟨hx, hb, hml, hown, hts⟩ (c_X0_tripIn l g ad X _ sg r9 a2 hr9 r11 q10) (cwV 1 hts gl_X5_200 rfl rfl rfl yd_X0_tripIn ⟨Nat.le_of_ble_eq_true rfl, Nat.le_of_ble_eq_true rfl⟩) (preV_of hK hP (hD sg) (dd_at (Nat.lt_trans hr9 (by decide)) (cc_duty hr9)) rfl) rfl rfl hl.1 rfl (lv_room (Nat.le_of_ble_eq_true rfl)) dX5_tripAt_40 ⟨Nat.le_of_ble_eq_true rfl, Nat.le_of_ble_eq_true rfl⟩) hS (fun q h => dd_A_mono hS.1 h) (fun q h => dd_A_mono hS.1 h) (fun H locs hP hS => ?_)
        refine W.widen (k := 1) (n := 6) (by decide) (by decide) ?_
        refine vx_ret ?_
        exact W.iret (v := r11) hx hb hr (fun t ht hW => ⟨⟨r11, (), rfl, ⟨(so3 hf).1.symm, (so3 hf).2.1⟩, P_at2 (so3 hf).2.2 ht hP⟩, hS.F ht⟩) hS.2.2 dX5_tripAt_43
      · have hf := if_f c7 hf
        exact hL_24 sg _ _ _ hf hP hS (lv_sub hl [] rfl)
set_option maxHeartbeats 4000000 in
set_option maxRecDepth 100000 in
theorem c_X5_bestFor (l : Launch) (hst : l.stackTraces = false) (g : dd_G) (ad : Nat → Nat) (X : va_W) (sz : Nat) (sg : dd_S) (a1 : Int32) (k0 : Nat) (r0 : Int32) (s0 : dd_S) (hf : f_X5_bestFor sg a1 = some (k0, r0, s0)) : vx_Met l yX5_bestFor (lw_ws yX5_bestFor cX5_bestFor 2 (some .int)) ({ frames := 6, cells := 1, slots := 6, locals := 119 } : Room) (va_Pc [.ref (ad 30), .int a1] (PreX g 59 ad X (WC g ad sg ++ X) sz)) (QXI g (WC g ad s0 ++ X) (dd_A 59 ad X sz) k0 r0) (XCx g (WC g ad s0 ++ X) (dd_A 59 ad X sz) k0) 1 6 (dd_A 59 ad X sz) := by
  refine vx_ofW (cc := cX5_bestFor) (maxL := 2) (ret := some .int) (by decide) rfl ?_
  intro p e s m args below meth c s₁ B hml hnone hv
  obtain ⟨rfl, ⟨rfl, hP, hK, hD0⟩, hXF⟩ := hv
  have hx := B.exec
  have hb := B.bytes
  have hr := B.returns
  have hts := atoms_spec (ws := (lw_ws yX5_bestFor cX5_bestFor 2 (some .int))) B.pre
  have hts : ∀ w ∈ lw_all, w.before _ s = true := fun w h => hts w (List.mem_cons_of_mem _ h)
  have hown : s.vm.findClass RX5 = some m.cls := findClass_of_methodNamed B.named
  have hlocks := B.notSynchronized
  have hD : ∀ s2 : dd_S, va_D (dd_A 59 ad X s.heap.size) (WC g ad s2 ++ X) := fun s2 => dd_D (dd_A_D hD0)
  have hS : va_S (dd_A 59 ad X s.heap.size) s.heap s.heap [] := va_S.rf
  unfold f_X5_bestFor at hf
  have hl := lv_entry ([.ref (ad 30), .int a1]) (n := 2) (Nat.le_of_ble_eq_true rfl)
  rw [lg_entry_eq]
  generalize (lg_sl ([.ref (ad 30), .int a1]) ++ List.replicate (2 - (lg_sl ([.ref (ad 30), .int a1])).length) Slot.unset).toArray = ls at hl ⊢
  have hl : lv_has ls 2 [(0, .ref (ad 30)), (1, .int a1)] := hl
  refine lv_aload_n hx hb dX5_bestFor_0 rfl (lv_at hl 0 rfl) ?_
  refine lv_iload_n hx hb dX5_bestFor_1 rfl (lv_at hl 1 rfl) ?_
  obtain ⟨r2, q1, hf⟩ := bd_so hf
  refine cl_i (va_runV (As := [.int a1]) (rest := []) ⟨hx, hb, hml, hown, hts⟩ (c_X5_isTrip l g ad X _ sg a1 r2 q1) (cwV 1 hts gl_X5_109 rfl rfl rfl yd_X5_isTrip ⟨Nat.le_of_ble_eq_true rfl, Nat.le_of_ble_eq_true rfl⟩) (preV_of hK hP (hD sg) (dd_at (by decide) cc_30) rfl) rfl rfl hl.1 rfl (lv_room (Nat.le_of_ble_eq_true rfl)) dX5_bestFor_2 ⟨Nat.le_of_ble_eq_true rfl, Nat.le_of_ble_eq_true rfl⟩) hS (fun q h => dd_A_mono hS.1 h) (fun q h => dd_A_mono hS.1 h) (fun H locs hP hS => ?_)
  refine lv_if_ne (tgt := 18) hx hb dX5_bestFor_5 (by decide) (fun c3 => ?_) (fun c3 => ?_)
  · have hf := if_f c3 hf
    refine lv_aload_n hx hb dX5_bestFor_18 rfl (lv_at hl 0 rfl) ?_
    refine lv_iload_n hx hb dX5_bestFor_19 rfl (lv_at hl 1 rfl) ?_
    obtain ⟨r6, sg5, q4, hf⟩ := bd2_so hf
    refine cl_i (va_runV (As := [.int a1]) (rest := []) ⟨hx, hb, hml, hown, hts⟩ (c_X5_cheapestDuty l g ad X _ sg a1 r6 sg5 q4) (cwV 1 hts gl_X5_203 rfl rfl rfl yd_X5_cheapestDuty ⟨Nat.le_of_ble_eq_true rfl, Nat.le_of_ble_eq_true rfl⟩) (preV_of hK hP (hD sg) (dd_at (by decide) cc_30) rfl) rfl rfl hl.1 rfl (lv_room (Nat.le_of_ble_eq_true rfl)) dX5_bestFor_20 ⟨Nat.le_of_ble_eq_true rfl, Nat.le_of_ble_eq_true rfl⟩) hS (fun q h => dd_A_mono hS.1 h) (fun q h => dd_A_mono hS.1 h) (fun H locs hP hS => ?_)
    refine W.widen (k := 1) (n := 6) (by decide) (by decide) ?_
    refine vx_ret ?_
    exact W.iret (v := r6) hx hb hr (fun t ht hW => ⟨⟨r6, (), rfl, ⟨(so3 hf).1.symm, (so3 hf).2.1⟩, P_at2 (so3 hf).2.2 ht hP⟩, hS.F ht⟩) hS.2.2 dX5_bestFor_23
  · have hf := if_t c3 hf
    obtain ⟨rfl, rfl, rfl⟩ := so3 hf
    exact T_throw1 (is := 172) (text := "no such trip") hx hb hst hown hts hK hXF (dd_str 11) hP hS (hl.1.trans hml.symm) dX5_bestFor_8 dX5_bestFor_11 dX5_bestFor_12 dX5_bestFor_14 dX5_bestFor_17 hnone (Nat.le_of_ble_eq_true rfl) (Nat.le_of_ble_eq_true rfl) (Nat.le_of_ble_eq_true rfl) (Nat.le_of_ble_eq_true rfl) hlocks
set_option maxHeartbeats 4000000 in
set_option maxRecDepth 100000 in
theorem c_X5_swap (l : Launch) (hst : l.stackTraces = false) (g : dd_G) (ad : Nat → Nat) (X : va_W) (sz : Nat) (sg : dd_S) (a1 : Int32) (a2 : Int32) (a3 : Int32) (k0 : Nat) (r0 : Int32) (s0 : dd_S) (hf : f_X5_swap sg a1 a2 a3 = some (k0, r0, s0)) : vx_Met l yX5_swap (lw_ws yX5_swap cX5_swap 5 (some .int)) ({ frames := 6, cells := 1, slots := 6, locals := 95 } : Room) (va_Pc [.ref (ad 30), .int a1, .int a2, .int a3] (PreX g 59 ad X (WC g ad sg ++ X) sz)) (QXI g (WC g ad s0 ++ X) (dd_A 59 ad X sz) k0 r0) (XCx g (WC g ad s0 ++ X) (dd_A 59 ad X sz) k0) 1 6 (dd_A 59 ad X sz) := by
  refine vx_ofW (cc := cX5_swap) (maxL := 5) (ret := some .int) (by decide) rfl ?_
  intro p e s m args below meth c s₁ B hml hnone hv
  obtain ⟨rfl, ⟨rfl, hP, hK, hD0⟩, hXF⟩ := hv
  have hx := B.exec
  have hb := B.bytes
  have hr := B.returns
  have hts := atoms_spec (ws := (lw_ws yX5_swap cX5_swap 5 (some .int))) B.pre
  have hts : ∀ w ∈ lw_all, w.before _ s = true := fun w h => hts w (List.mem_cons_of_mem _ h)
  have hown : s.vm.findClass RX5 = some m.cls := findClass_of_methodNamed B.named
  have hlocks := B.notSynchronized
  have hD : ∀ s2 : dd_S, va_D (dd_A 59 ad X s.heap.size) (WC g ad s2 ++ X) := fun s2 => dd_D (dd_A_D hD0)
  have hS : va_S (dd_A 59 ad X s.heap.size) s.heap s.heap [] := va_S.rf
  have hL_16 : ∀ (sg : dd_S) (H : Heap) (locs : List Loc) (ls : Array Slot), f_X5_swap_16 a1 a2 a3 sg = some (k0, r0, s0) → va_P g.1 vwCl (WC g ad sg ++ X) H → va_S (dd_A 59 ad X s.heap.size) s.heap H locs → lv_has ls 5 [] → W p l e (headSpec (lw_ws yX5_swap cX5_swap 5 (some .int)) ({ frames := 6, cells := 1, slots := 6, locals := 95 } : Room)).room s m ([.ref (ad 30), .int a1, .int a2, .int a3] : List Value).toArray below meth c H locs 0 0 (vx_MQ below (QXI g (WC g ad s0 ++ X) (dd_A 59 ad X s.heap.size) k0 r0) (XCx g (WC g ad s0 ++ X) (dd_A 59 ad X s.heap.size) k0) ([.ref (ad 30), .int a1, .int a2, .int a3] : List Value).toArray s 1 6 (dd_A 59 ad X s.heap.size)) (F0 m 16 ls []) := by
    intro sg H locs ls hf hP hS hl
    unfold f_X5_swap_16 at hf
    obtain ⟨rfl, rfl, rfl⟩ := so3 hf
    exact T_throw1 (is := 223) (text := "no such duty") hx hb hst hown hts hK hXF (dd_str 16) hP hS (hl.1.trans hml.symm) dX5_swap_16 dX5_swap_19 dX5_swap_20 dX5_swap_22 dX5_swap_25 hnone (Nat.le_of_ble_eq_true rfl) (Nat.le_of_ble_eq_true rfl) (Nat.le_of_ble_eq_true rfl) (Nat.le_of_ble_eq_true rfl) hlocks
  have hL_67 : ∀ (sg : dd_S) (H : Heap) (locs : List Loc) (ls : Array Slot), f_X5_swap_67 a1 a2 a3 sg = some (k0, r0, s0) → va_P g.1 vwCl (WC g ad sg ++ X) H → va_S (dd_A 59 ad X s.heap.size) s.heap H locs → lv_has ls 5 [] → W p l e (headSpec (lw_ws yX5_swap cX5_swap 5 (some .int)) ({ frames := 6, cells := 1, slots := 6, locals := 95 } : Room)).room s m ([.ref (ad 30), .int a1, .int a2, .int a3] : List Value).toArray below meth c H locs 0 0 (vx_MQ below (QXI g (WC g ad s0 ++ X) (dd_A 59 ad X s.heap.size) k0 r0) (XCx g (WC g ad s0 ++ X) (dd_A 59 ad X s.heap.size) k0) ([.ref (ad 30), .int a1, .int a2, .int a3] : List Value).toArray s 1 6 (dd_A 59 ad X s.heap.size)) (F0 m 67 ls []) := by
    intro sg H locs ls hf hP hS hl
    unfold f_X5_swap_67 at hf
    obtain ⟨rfl, rfl, rfl⟩ := so3 hf
    exact T_throw3 (is := 231) (text := "the tails cannot be exchanged") hx hb hst hown hts hK hXF (dd_str 17) hP hS (hl.1.trans hml.symm) dX5_swap_67 dX5_swap_70 dX5_swap_71 dX5_swap_73 dX5_swap_76 hnone (Nat.le_of_ble_eq_true rfl) (Nat.le_of_ble_eq_true rfl) (Nat.le_of_ble_eq_true rfl) (Nat.le_of_ble_eq_true rfl) hlocks
  unfold f_X5_swap at hf
  have hl := lv_entry ([.ref (ad 30), .int a1, .int a2, .int a3]) (n := 5) (Nat.le_of_ble_eq_true rfl)
  rw [lg_entry_eq]
  generalize (lg_sl ([.ref (ad 30), .int a1, .int a2, .int a3]) ++ List.replicate (5 - (lg_sl ([.ref (ad 30), .int a1, .int a2, .int a3])).length) Slot.unset).toArray = ls at hl ⊢
  have hl : lv_has ls 5 [(0, .ref (ad 30)), (1, .int a1), (2, .int a2), (3, .int a3)] := hl
  refine lv_aload_n hx hb dX5_swap_0 rfl (lv_at hl 0 rfl) ?_
  refine lv_iload_n hx hb dX5_swap_1 rfl (lv_at hl 1 rfl) ?_
  obtain ⟨r2, q1, hf⟩ := bd_so hf
  refine cl_i (va_runV (As := [.int a1]) (rest := []) ⟨hx, hb, hml, hown, hts⟩ (c_X5_isDuty l g ad X _ sg a1 r2 q1) (cwV 1 hts gl_X5_150 rfl rfl rfl yd_X5_isDuty ⟨Nat.le_of_ble_eq_true rfl, Nat.le_of_ble_eq_true rfl⟩) (preV_of hK hP (hD sg) (dd_at (by decide) cc_30) rfl) rfl rfl hl.1 rfl (lv_room (Nat.le_of_ble_eq_true rfl)) dX5_swap_2 ⟨Nat.le_of_ble_eq_true rfl, Nat.le_of_ble_eq_true rfl⟩) hS (fun q h => dd_A_mono hS.1 h) (fun q h => dd_A_mono hS.1 h) (fun H locs hP hS => ?_)
  refine lv_if_eq (tgt := 16) hx hb dX5_swap_5 (by decide) (fun c3 => ?_) (fun c3 => ?_)
  · have hf := if_t c3 hf
    exact hL_16 sg _ _ _ hf hP hS (lv_sub hl [] rfl)
  · have hf := if_f c3 hf
    refine lv_aload_n hx hb dX5_swap_8 rfl (lv_at hl 0 rfl) ?_
    refine lv_iload_n hx hb dX5_swap_9 rfl (lv_at hl 2 rfl) ?_
    obtain ⟨r5, q4, hf⟩ := bd_so hf
    refine cl_i (va_runV (As := [.int a2]) (rest := []) ⟨hx, hb, hml, hown, hts⟩ (c_X5_isDuty l g ad X _ sg a2 r5 q4) (cwV 1 hts gl_X5_150 rfl rfl rfl yd_X5_isDuty ⟨Nat.le_of_ble_eq_true rfl, Nat.le_of_ble_eq_true rfl⟩) (preV_of hK hP (hD sg) (dd_at (by decide) cc_30) rfl) rfl rfl hl.1 rfl (lv_room (Nat.le_of_ble_eq_true rfl)) dX5_swap_10 ⟨Nat.le_of_ble_eq_true rfl, Nat.le_of_ble_eq_true rfl⟩) hS (fun q h => dd_A_mono hS.1 h) (fun q h => dd_A_mono hS.1 h) (fun H locs hP hS => ?_)
    refine lv_if_ne (tgt := 26) hx hb dX5_swap_13 (by decide) (fun c6 => ?_) (fun c6 => ?_)
    · have hf := if_f c6 hf
      refine lv_iload_n hx hb dX5_swap_26 rfl (lv_at hl 1 rfl) ?_
      refine lv_iload_n hx hb dX5_swap_27 rfl (lv_at hl 2 rfl) ?_
      refine lv_icmp_ne (tgt := 41) hx hb dX5_swap_28 (by decide) (fun c7 => ?_) (fun c7 => ?_)
      · have hf := if_f c7 hf
        refine lv_aload_n hx hb dX5_swap_41 rfl (lv_at hl 0 rfl) ?_
        refine lv_iload_n hx hb dX5_swap_42 rfl (lv_at hl 1 rfl) ?_
        obtain ⟨r9, q8, hf⟩ := bd_so hf
        refine cl_i (va_runV (As := [.int a1]) (rest := []) ⟨hx, hb, hml, hown, hts⟩ (c_X5_isFixed l g ad X _ sg a1 r9 q8) (cwV 1 hts gl_X5_177 rfl rfl rfl yd_X5_isFixed ⟨Nat.le_of_ble_eq_true rfl, Nat.le_of_ble_eq_true rfl⟩) (preV_of hK hP (hD sg) (dd_at (by decide) cc_30) rfl) rfl rfl hl.1 rfl (lv_room (Nat.le_of_ble_eq_true rfl)) dX5_swap_43 ⟨Nat.le_of_ble_eq_true rfl, Nat.le_of_ble_eq_true rfl⟩) hS (fun q h => dd_A_mono hS.1 h) (fun q h => dd_A_mono hS.1 h) (fun H locs hP hS => ?_)
        refine lv_if_ne (tgt := 67) hx hb dX5_swap_46 (by decide) (fun c10 => ?_) (fun c10 => ?_)
        · have hf := if_f c10 hf
          exact hL_67 sg _ _ _ hf hP hS (lv_sub hl [] rfl)
        · have hf := if_t c10 hf
          refine lv_aload_n hx hb dX5_swap_49 rfl (lv_at hl 0 rfl) ?_
          refine lv_iload_n hx hb dX5_swap_50 rfl (lv_at hl 2 rfl) ?_
          obtain ⟨r12, q11, hf⟩ := bd_so hf
          refine cl_i (va_runV (As := [.int a2]) (rest := []) ⟨hx, hb, hml, hown, hts⟩ (c_X5_isFixed l g ad X _ sg a2 r12 q11) (cwV 1 hts gl_X5_177 rfl rfl rfl yd_X5_isFixed ⟨Nat.le_of_ble_eq_true rfl, Nat.le_of_ble_eq_true rfl⟩) (preV_of hK hP (hD sg) (dd_at (by decide) cc_30) rfl) rfl rfl hl.1 rfl (lv_room (Nat.le_of_ble_eq_true rfl)) dX5_swap_51 ⟨Nat.le_of_ble_eq_true rfl, Nat.le_of_ble_eq_true rfl⟩) hS (fun q h => dd_A_mono hS.1 h) (fun q h => dd_A_mono hS.1 h) (fun H locs hP hS => ?_)
          refine lv_if_ne (tgt := 67) hx hb dX5_swap_54 (by decide) (fun c13 => ?_) (fun c13 => ?_)
          · have hf := if_f c13 hf
            exact hL_67 sg _ _ _ hf hP hS (lv_sub hl [] rfl)
          · have hf := if_t c13 hf
            refine lv_aload_n hx hb dX5_swap_57 rfl (lv_at hl 0 rfl) ?_
            refine lv_iload_n hx hb dX5_swap_58 rfl (lv_at hl 1 rfl) ?_
            refine lv_iload_n hx hb dX5_swap_59 rfl (lv_at hl 2 rfl) ?_
            refine lv_iload_n hx hb dX5_swap_60 rfl (lv_at hl 3 rfl) ?_
            obtain ⟨r16, sg15, q14, hf⟩ := bd2_so hf
            refine cl_i (va_runV (As := [.int a1, .int a2, .int a3]) (rest := []) ⟨hx, hb, hml, hown, hts⟩ (c_X5_tryExchange l g ad X _ sg a1 a2 a3 r16 sg15 q14) (cwV 3 hts gl_X5_227 rfl rfl rfl yd_X5_tryExchange ⟨Nat.le_of_ble_eq_true rfl, Nat.le_of_ble_eq_true rfl⟩) (preV_of hK hP (hD sg) (dd_at (by decide) cc_30) rfl) rfl rfl hl.1 rfl (lv_room (Nat.le_of_ble_eq_true rfl)) dX5_swap_61 ⟨Nat.le_of_ble_eq_true rfl, Nat.le_of_ble_eq_true rfl⟩) hS (fun q h => dd_A_mono hS.1 h) (fun q h => dd_A_mono hS.1 h) (fun H locs hP hS => ?_)
            refine lv_if_ne (tgt := 77) hx hb dX5_swap_64 (by decide) (fun c17 => ?_) (fun c17 => ?_)
            · have hf := if_f c17 hf
              refine lv_aload_n hx hb dX5_swap_77 rfl (lv_at hl 0 rfl) ?_
              refine lv_iload_n hx hb dX5_swap_78 rfl (lv_at hl 1 rfl) ?_
              refine lv_iload_n hx hb dX5_swap_79 rfl (lv_at hl 2 rfl) ?_
              obtain ⟨r19, q18, hf⟩ := bd_so hf
              refine cl_i (va_runV (As := [.int a1, .int a2]) (rest := []) ⟨hx, hb, hml, hown, hts⟩ (c_X5_changeOfPay l g ad X _ sg15 a1 a2 r19 q18) (cwV 2 hts gl_X5_233 rfl rfl rfl yd_X5_changeOfPay ⟨Nat.le_of_ble_eq_true rfl, Nat.le_of_ble_eq_true rfl⟩) (preV_of hK hP (hD sg15) (dd_at (by decide) cc_30) rfl) rfl rfl hl.1 rfl (lv_room (Nat.le_of_ble_eq_true rfl)) dX5_swap_80 ⟨Nat.le_of_ble_eq_true rfl, Nat.le_of_ble_eq_true rfl⟩) hS (fun q h => dd_A_mono hS.1 h) (fun q h => dd_A_mono hS.1 h) (fun H locs hP hS => ?_)
              refine lv_istore (lv' := [(4, .int r19), (0, .ref (ad 30)), (1, .int a1), (2, .int a2), (3, .int a3)]) hx hb dX5_swap_83 hl (by decide) rfl (fun ls hl => ?_)
              refine lv_aload_n hx hb dX5_swap_85 rfl (lv_at hl 1 rfl) ?_
              refine lv_iload_n hx hb dX5_swap_86 rfl (lv_at hl 2 rfl) ?_
              refine lv_iload_n hx hb dX5_swap_87 rfl (lv_at hl 3 rfl) ?_
              obtain ⟨sg21, q20, hf⟩ := bd_so hf
              refine cl_v (va_runV (As := [.int a1, .int a2]) (rest := []) ⟨hx, hb, hml, hown, hts⟩ (c_X5_keepExchange l g ad X _ sg15 a1 a2 sg21 q20) (cwV 2 hts gl_X5_236 rfl rfl rfl yd_X5_keepExchange ⟨Nat.le_of_ble_eq_true rfl, Nat.le_of_ble_eq_true rfl⟩) (preV_of hK hP (hD sg15) (dd_at (by decide) cc_30) rfl) rfl rfl hl.1 rfl (lv_room (Nat.le_of_ble_eq_true rfl)) dX5_swap_88 ⟨Nat.le_of_ble_eq_true rfl, Nat.le_of_ble_eq_true rfl⟩) hS (fun q h => dd_A_mono hS.1 h) (fun q h => dd_A_mono hS.1 h) (fun H locs hP hS => ?_)
              refine lv_iload hx hb dX5_swap_91 (lv_at hl 0 rfl) ?_
              refine W.widen (k := 1) (n := 6) (by decide) (by decide) ?_
              refine vx_ret ?_
              exact W.iret (v := r19) hx hb hr (fun t ht hW => ⟨⟨r19, (), rfl, ⟨(so3 hf).1.symm, (so3 hf).2.1⟩, P_at2 (so3 hf).2.2 ht hP⟩, hS.F ht⟩) hS.2.2 dX5_swap_93
            · have hf := if_t c17 hf
              exact hL_67 sg15 _ _ _ hf hP hS (lv_sub hl [] rfl)
      · have hf := if_t c7 hf
        obtain ⟨rfl, rfl, rfl⟩ := so3 hf
        exact T_throw2 (is := 225) (text := "the same duty twice") hx hb hst hown hts hK hXF (dd_str 15) hP hS (hl.1.trans hml.symm) dX5_swap_31 dX5_swap_34 dX5_swap_35 dX5_swap_37 dX5_swap_40 hnone (Nat.le_of_ble_eq_true rfl) (Nat.le_of_ble_eq_true rfl) (Nat.le_of_ble_eq_true rfl) (Nat.le_of_ble_eq_true rfl) hlocks
    · have hf := if_t c6 hf
      exact hL_16 sg _ _ _ hf hP hS (lv_sub hl [] rfl)
set_option maxHeartbeats 4000000 in
set_option maxRecDepth 100000 in
theorem c_X5_addDriver (l : Launch) (hst : l.stackTraces = false) (g : dd_G) (ad : Nat → Nat) (X : va_W) (sz : Nat) (sg : dd_S) (k0 : Nat) (r0 : Int32) (s0 : dd_S) (hf : f_X5_addDriver sg = some (k0, r0, s0)) : vx_Met l yX5_addDriver (lw_ws yX5_addDriver cX5_addDriver 1 (some .int)) ({ frames := 6, cells := 1, slots := 6, locals := 82 } : Room) (va_Pc [.ref (ad 30)] (PreX g 59 ad X (WC g ad sg ++ X) sz)) (QXI g (WC g ad s0 ++ X) (dd_A 59 ad X sz) k0 r0) (XCx g (WC g ad s0 ++ X) (dd_A 59 ad X sz) k0) 1 6 (dd_A 59 ad X sz) := by
  refine vx_ofW (cc := cX5_addDriver) (maxL := 1) (ret := some .int) (by decide) rfl ?_
  intro p e s m args below meth c s₁ B hml hnone hv
  obtain ⟨rfl, ⟨rfl, hP, hK, hD0⟩, hXF⟩ := hv
  have hx := B.exec
  have hb := B.bytes
  have hr := B.returns
  have hts := atoms_spec (ws := (lw_ws yX5_addDriver cX5_addDriver 1 (some .int))) B.pre
  have hts : ∀ w ∈ lw_all, w.before _ s = true := fun w h => hts w (List.mem_cons_of_mem _ h)
  have hown : s.vm.findClass RX5 = some m.cls := findClass_of_methodNamed B.named
  have hlocks := B.notSynchronized
  have hD : ∀ s2 : dd_S, va_D (dd_A 59 ad X s.heap.size) (WC g ad s2 ++ X) := fun s2 => dd_D (dd_A_D hD0)
  have hS : va_S (dd_A 59 ad X s.heap.size) s.heap s.heap [] := va_S.rf
  unfold f_X5_addDriver at hf
  have hl := lv_entry ([.ref (ad 30)]) (n := 1) (Nat.le_of_ble_eq_true rfl)
  rw [lg_entry_eq]
  generalize (lg_sl ([.ref (ad 30)]) ++ List.replicate (1 - (lg_sl ([.ref (ad 30)])).length) Slot.unset).toArray = ls at hl ⊢
  have hl : lv_has ls 1 [(0, .ref (ad 30))] := hl
  refine lv_aload_n hx hb dX5_addDriver_0 rfl (lv_at hl 0 rfl) ?_
  refine gf_X5_140 hx hb hts hown hK hP dX5_addDriver_1 ?_
  refine lv_bipush (v := (8 : Int32)) hx hb dX5_addDriver_4 (by decide) ?_
  refine lv_icmp_lt (tgt := 20) hx hb dX5_addDriver_6 (by decide) (fun c1 => ?_) (fun c1 => ?_)
  · have hf := if_t c1 hf
    refine lv_aload_n hx hb dX5_addDriver_20 rfl (lv_at hl 0 rfl) ?_
    refine lv_dup hx hb dX5_addDriver_21 rfl ?_
    refine gf_X5_140 hx hb hts hown hK hP dX5_addDriver_22 ?_
    refine lv_dup_x1 hx hb dX5_addDriver_25 rfl rfl ?_
    refine lv_iconst (v := (1 : Int32)) hx hb dX5_addDriver_26 (by decide) ?_
    refine lv_iadd hx hb dX5_addDriver_27 ?_
    obtain ⟨sg2, esg2, hf⟩ := lt_ex hf
    refine pf_X5_140 hx hb hts hown hK hP hD hS dX5_addDriver_28 (fun H locs hP hS => ?_)
    rw [← esg2] at hP
    refine W.widen (k := 1) (n := 6) (by decide) (by decide) ?_
    refine vx_ret ?_
    exact W.iret (v := (sg 30 6)) hx hb hr (fun t ht hW => ⟨⟨(sg 30 6), (), rfl, ⟨(so3 hf).1.symm, (so3 hf).2.1⟩, P_at2 (so3 hf).2.2 ht hP⟩, hS.F ht⟩) hS.2.2 dX5_addDriver_31
  · have hf := if_f c1 hf
    obtain ⟨rfl, rfl, rfl⟩ := so3 hf
    exact T_throw3W (is := 264) (text := "there are 8 drivers") hx hb hst hown hts hK hXF (dd_str 18) hP hS (hl.1.trans hml.symm) dX5_addDriver_9 dX5_addDriver_12 dX5_addDriver_13 dX5_addDriver_16 dX5_addDriver_19 hnone (Nat.le_of_ble_eq_true rfl) (Nat.le_of_ble_eq_true rfl) (Nat.le_of_ble_eq_true rfl) (Nat.le_of_ble_eq_true rfl) hlocks
set_option maxHeartbeats 4000000 in
set_option maxRecDepth 100000 in
theorem c_X5_reason (l : Launch) (hst : l.stackTraces = false) (g : dd_G) (ad : Nat → Nat) (X : va_W) (sz : Nat) (sg : dd_S) (a1 : Int32) (a2 : Int32) (a3 : Int32) (k0 : Nat) (r0 : Int32) (s0 : dd_S) (hf : f_X5_reason sg a1 a2 a3 = some (k0, r0, s0)) : vx_Met l yX5_reason (lw_ws yX5_reason cX5_reason 4 (some .int)) ({ frames := 6, cells := 1, slots := 6, locals := 93 } : Room) (va_Pc [.ref (ad 30), .int a1, .int a2, .int a3] (PreX g 59 ad X (WC g ad sg ++ X) sz)) (QXI g (WC g ad s0 ++ X) (dd_A 59 ad X sz) k0 r0) (XCx g (WC g ad s0 ++ X) (dd_A 59 ad X sz) k0) 1 6 (dd_A 59 ad X sz) := by
  refine vx_ofW (cc := cX5_reason) (maxL := 4) (ret := some .int) (by decide) rfl ?_
  intro p e s m args below meth c s₁ B hml hnone hv
  obtain ⟨rfl, ⟨rfl, hP, hK, hD0⟩, hXF⟩ := hv
  have hx := B.exec
  have hb := B.bytes
  have hr := B.returns
  have hts := atoms_spec (ws := (lw_ws yX5_reason cX5_reason 4 (some .int))) B.pre
  have hts : ∀ w ∈ lw_all, w.before _ s = true := fun w h => hts w (List.mem_cons_of_mem _ h)
  have hown : s.vm.findClass RX5 = some m.cls := findClass_of_methodNamed B.named
  have hlocks := B.notSynchronized
  have hD : ∀ s2 : dd_S, va_D (dd_A 59 ad X s.heap.size) (WC g ad s2 ++ X) := fun s2 => dd_D (dd_A_D hD0)
  have hS : va_S (dd_A 59 ad X s.heap.size) s.heap s.heap [] := va_S.rf
  have hL_23 : ∀ (sg : dd_S) (H : Heap) (locs : List Loc) (ls : Array Slot), f_X5_reason_23 a1 a2 a3 sg = some (k0, r0, s0) → va_P g.1 vwCl (WC g ad sg ++ X) H → va_S (dd_A 59 ad X s.heap.size) s.heap H locs → lv_has ls 4 [] → W p l e (headSpec (lw_ws yX5_reason cX5_reason 4 (some .int)) ({ frames := 6, cells := 1, slots := 6, locals := 93 } : Room)).room s m ([.ref (ad 30), .int a1, .int a2, .int a3] : List Value).toArray below meth c H locs 0 0 (vx_MQ below (QXI g (WC g ad s0 ++ X) (dd_A 59 ad X s.heap.size) k0 r0) (XCx g (WC g ad s0 ++ X) (dd_A 59 ad X s.heap.size) k0) ([.ref (ad 30), .int a1, .int a2, .int a3] : List Value).toArray s 1 6 (dd_A 59 ad X s.heap.size)) (F0 m 23 ls []) := by
    intro sg H locs ls hf hP hS hl
    unfold f_X5_reason_23 at hf
    obtain ⟨rfl, rfl, rfl⟩ := so3 hf
    exact T_throw1W (is := 272) (text := "no such driver, day or duty") hx hb hst hown hts hK hXF (dd_str 19) hP hS (hl.1.trans hml.symm) dX5_reason_23 dX5_reason_26 dX5_reason_27 dX5_reason_30 dX5_reason_33 hnone (Nat.le_of_ble_eq_true rfl) (Nat.le_of_ble_eq_true rfl) (Nat.le_of_ble_eq_true rfl) (Nat.le_of_ble_eq_true rfl) hlocks
  unfold f_X5_reason at hf
  have hl := lv_entry ([.ref (ad 30), .int a1, .int a2, .int a3]) (n := 4) (Nat.le_of_ble_eq_true rfl)
  rw [lg_entry_eq]
  generalize (lg_sl ([.ref (ad 30), .int a1, .int a2, .int a3]) ++ List.replicate (4 - (lg_sl ([.ref (ad 30), .int a1, .int a2, .int a3])).length) Slot.unset).toArray = ls at hl ⊢
  have hl : lv_has ls 4 [(0, .ref (ad 30)), (1, .int a1), (2, .int a2), (3, .int a3)] := hl
  refine lv_aload_n hx hb dX5_reason_0 rfl (lv_at hl 0 rfl) ?_
  refine lv_iload_n hx hb dX5_reason_1 rfl (lv_at hl 1 rfl) ?_
  obtain ⟨r2, q1, hf⟩ := bd_so hf
  refine cl_i (va_runV (As := [.int a1]) (rest := []) ⟨hx, hb, hml, hown, hts⟩ (c_X5_isDriver l g ad X _ sg a1 r2 q1) (cwV 1 hts gl_X5_266 rfl rfl rfl yd_X5_isDriver ⟨Nat.le_of_ble_eq_true rfl, Nat.le_of_ble_eq_true rfl⟩) (preV_of hK hP (hD sg) (dd_at (by decide) cc_30) rfl) rfl rfl hl.1 rfl (lv_room (Nat.le_of_ble_eq_true rfl)) dX5_reason_2 ⟨Nat.le_of_ble_eq_true rfl, Nat.le_of_ble_eq_true rfl⟩) hS (fun q h => dd_A_mono hS.1 h) (fun q h => dd_A_mono hS.1 h) (fun H locs hP hS => ?_)
  refine lv_if_eq (tgt := 23) hx hb dX5_reason_5 (by decide) (fun c3 => ?_) (fun c3 => ?_)
  · have hf := if_t c3 hf
    exact hL_23 sg _ _ _ hf hP hS (lv_sub hl [] rfl)
  · have hf := if_f c3 hf
    refine lv_iload_n hx hb dX5_reason_8 rfl (lv_at hl 2 rfl) ?_
    obtain ⟨r5, q4, hf⟩ := bd_so hf
    refine cl_i (va_runS (As := [.int a2]) (rest := []) ⟨hx, hb, hml, hown, hts⟩ (c_X5_isDay l g ad X _ sg a2 r5 q4) (cwS 1 hts gl_X5_269 rfl rfl rfl yd_X5_isDay ⟨Nat.le_of_ble_eq_true rfl, Nat.le_of_ble_eq_true rfl⟩) (preS_of hK hP (hD sg)) rfl rfl hl.1 rfl (lv_room (Nat.le_of_ble_eq_true rfl)) dX5_reason_9 ⟨Nat.le_of_ble_eq_true rfl, Nat.le_of_ble_eq_true rfl⟩) hS (fun q h => dd_A_mono hS.1 h) (fun q h => dd_A_mono hS.1 h) (fun H locs hP hS => ?_)
    refine lv_if_eq (tgt := 23) hx hb dX5_reason_12 (by decide) (fun c6 => ?_) (fun c6 => ?_)
    · have hf := if_t c6 hf
      exact hL_23 sg _ _ _ hf hP hS (lv_sub hl [] rfl)
    · have hf := if_f c6 hf
      refine lv_aload_n hx hb dX5_reason_15 rfl (lv_at hl 0 rfl) ?_
      refine lv_iload_n hx hb dX5_reason_16 rfl (lv_at hl 3 rfl) ?_
      obtain ⟨r8, q7, hf⟩ := bd_so hf
      refine cl_i (va_runV (As := [.int a3]) (rest := []) ⟨hx, hb, hml, hown, hts⟩ (c_X5_isDuty l g ad X _ sg a3 r8 q7) (cwV 1 hts gl_X5_150 rfl rfl rfl yd_X5_isDuty ⟨Nat.le_of_ble_eq_true rfl, Nat.le_of_ble_eq_true rfl⟩) (preV_of hK hP (hD sg) (dd_at (by decide) cc_30) rfl) rfl rfl hl.1 rfl (lv_room (Nat.le_of_ble_eq_true rfl)) dX5_reason_17 ⟨Nat.le_of_ble_eq_true rfl, Nat.le_of_ble_eq_true rfl⟩) hS (fun q h => dd_A_mono hS.1 h) (fun q h => dd_A_mono hS.1 h) (fun H locs hP hS => ?_)
      refine lv_if_ne (tgt := 34) hx hb dX5_reason_20 (by decide) (fun c9 => ?_) (fun c9 => ?_)
      · have hf := if_f c9 hf
        refine lv_aload_n hx hb dX5_reason_34 rfl (lv_at hl 0 rfl) ?_
        refine lv_iload_n hx hb dX5_reason_35 rfl (lv_at hl 1 rfl) ?_
        refine lv_iload_n hx hb dX5_reason_36 rfl (lv_at hl 2 rfl) ?_
        refine lv_iload_n hx hb dX5_reason_37 rfl (lv_at hl 3 rfl) ?_
        obtain ⟨r11, q10, hf⟩ := bd_so hf
        refine cl_i (va_runV (As := [.int a1, .int a2, .int a3]) (rest := []) ⟨hx, hb, hml, hown, hts⟩ (c_X5_reasonAgainst l g ad X _ sg a1 a2 a3 r11 q10) (cwV 3 hts gl_X5_274 rfl rfl rfl yd_X5_reasonAgainst ⟨Nat.le_of_ble_eq_true rfl, Nat.le_of_ble_eq_true rfl⟩) (preV_of hK hP (hD sg) (dd_at (by decide) cc_30) rfl) rfl rfl hl.1 rfl (lv_room (Nat.le_of_ble_eq_true rfl)) dX5_reason_38 ⟨Nat.le_of_ble_eq_true rfl, Nat.le_of_ble_eq_true rfl⟩) hS (fun q h => dd_A_mono hS.1 h) (fun q h => dd_A_mono hS.1 h) (fun H locs hP hS => ?_)
        refine W.widen (k := 1) (n := 6) (by decide) (by decide) ?_
        refine vx_ret ?_
        exact W.iret (v := r11) hx hb hr (fun t ht hW => ⟨⟨r11, (), rfl, ⟨(so3 hf).1.symm, (so3 hf).2.1⟩, P_at2 (so3 hf).2.2 ht hP⟩, hS.F ht⟩) hS.2.2 dX5_reason_41
      · have hf := if_t c9 hf
        exact hL_23 sg _ _ _ hf hP hS (lv_sub hl [] rfl)
set_option maxHeartbeats 4000000 in
set_option maxRecDepth 100000 in
theorem c_X5_give (l : Launch) (hst : l.stackTraces = false) (g : dd_G) (ad : Nat → Nat) (X : va_W) (sz : Nat) (sg : dd_S) (a1 : Int32) (a2 : Int32) (a3 : Int32) (k0 : Nat) (r0 : Int32) (s0 : dd_S) (hf : f_X5_give sg a1 a2 a3 = some (k0, r0, s0)) : vx_Met l yX5_give (lw_ws yX5_give cX5_give 4 (some .int)) ({ frames := 6, cells := 1, slots := 6, locals := 93 } : Room) (va_Pc [.ref (ad 30), .int a1, .int a2, .int a3] (PreX g 59 ad X (WC g ad sg ++ X) sz)) (QXI g (WC g ad s0 ++ X) (dd_A 59 ad X sz) k0 r0) (XCx g (WC g ad s0 ++ X) (dd_A 59 ad X sz) k0) 1 6 (dd_A 59 ad X sz) := by
  refine vx_ofW (cc := cX5_give) (maxL := 4) (ret := some .int) (by decide) rfl ?_
  intro p e s m args below meth c s₁ B hml hnone hv
  obtain ⟨rfl, ⟨rfl, hP, hK, hD0⟩, hXF⟩ := hv
  have hx := B.exec
  have hb := B.bytes
  have hr := B.returns
  have hts := atoms_spec (ws := (lw_ws yX5_give cX5_give 4 (some .int))) B.pre
  have hts : ∀ w ∈ lw_all, w.before _ s = true := fun w h => hts w (List.mem_cons_of_mem _ h)
  have hown : s.vm.findClass RX5 = some m.cls := findClass_of_methodNamed B.named
  have hlocks := B.notSynchronized
  have hD : ∀ s2 : dd_S, va_D (dd_A 59 ad X s.heap.size) (WC g ad s2 ++ X) := fun s2 => dd_D (dd_A_D hD0)
  have hS : va_S (dd_A 59 ad X s.heap.size) s.heap s.heap [] := va_S.rf
  have hL_23 : ∀ (sg : dd_S) (H : Heap) (locs : List Loc) (ls : Array Slot), f_X5_give_23 a1 a2 a3 sg = some (k0, r0, s0) → va_P g.1 vwCl (WC g ad sg ++ X) H → va_S (dd_A 59 ad X s.heap.size) s.heap H locs → lv_has ls 4 [] → W p l e (headSpec (lw_ws yX5_give cX5_give 4 (some .int)) ({ frames := 6, cells := 1, slots := 6, locals := 93 } : Room)).room s m ([.ref (ad 30), .int a1, .int a2, .int a3] : List Value).toArray below meth c H locs 0 0 (vx_MQ below (QXI g (WC g ad s0 ++ X) (dd_A 59 ad X s.heap.size) k0 r0) (XCx g (WC g ad s0 ++ X) (dd_A 59 ad X s.heap.size) k0) ([.ref (ad 30), .int a1, .int a2, .int a3] : List Value).toArray s 1 6 (dd_A 59 ad X s.heap.size)) (F0 m 23 ls []) := by
    intro sg H locs ls hf hP hS hl
    unfold f_X5_give_23 at hf
    obtain ⟨rfl, rfl, rfl⟩ := so3 hf
    exact T_throw1W (is := 272) (text := "no such driver, day or duty") hx hb hst hown hts hK hXF (dd_str 19) hP hS (hl.1.trans hml.symm) dX5_give_23 dX5_give_26 dX5_give_27 dX5_give_30 dX5_give_33 hnone (Nat.le_of_ble_eq_true rfl) (Nat.le_of_ble_eq_true rfl) (Nat.le_of_ble_eq_true rfl) (Nat.le_of_ble_eq_true rfl) hlocks
  unfold f_X5_give at hf
  have hl := lv_entry ([.ref (ad 30), .int a1, .int a2, .int a3]) (n := 4) (Nat.le_of_ble_eq_true rfl)
  rw [lg_entry_eq]
  generalize (lg_sl ([.ref (ad 30), .int a1, .int a2, .int a3]) ++ List.replicate (4 - (lg_sl ([.ref (ad 30), .int a1, .int a2, .int a3])).length) Slot.unset).toArray = ls at hl ⊢
  have hl : lv_has ls 4 [(0, .ref (ad 30)), (1, .int a1), (2, .int a2), (3, .int a3)] := hl
  refine lv_aload_n hx hb dX5_give_0 rfl (lv_at hl 0 rfl) ?_
  refine lv_iload_n hx hb dX5_give_1 rfl (lv_at hl 1 rfl) ?_
  obtain ⟨r2, q1, hf⟩ := bd_so hf
  refine cl_i (va_runV (As := [.int a1]) (rest := []) ⟨hx, hb, hml, hown, hts⟩ (c_X5_isDriver l g ad X _ sg a1 r2 q1) (cwV 1 hts gl_X5_266 rfl rfl rfl yd_X5_isDriver ⟨Nat.le_of_ble_eq_true rfl, Nat.le_of_ble_eq_true rfl⟩) (preV_of hK hP (hD sg) (dd_at (by decide) cc_30) rfl) rfl rfl hl.1 rfl (lv_room (Nat.le_of_ble_eq_true rfl)) dX5_give_2 ⟨Nat.le_of_ble_eq_true rfl, Nat.le_of_ble_eq_true rfl⟩) hS (fun q h => dd_A_mono hS.1 h) (fun q h => dd_A_mono hS.1 h) (fun H locs hP hS => ?_)
  refine lv_if_eq (tgt := 23) hx hb dX5_give_5 (by decide) (fun c3 => ?_) (fun c3 => ?_)
  · have hf := if_t c3 hf
    exact hL_23 sg _ _ _ hf hP hS (lv_sub hl [] rfl)
  · have hf := if_f c3 hf
    refine lv_iload_n hx hb dX5_give_8 rfl (lv_at hl 2 rfl) ?_
    obtain ⟨r5, q4, hf⟩ := bd_so hf
    refine cl_i (va_runS (As := [.int a2]) (rest := []) ⟨hx, hb, hml, hown, hts⟩ (c_X5_isDay l g ad X _ sg a2 r5 q4) (cwS 1 hts gl_X5_269 rfl rfl rfl yd_X5_isDay ⟨Nat.le_of_ble_eq_true rfl, Nat.le_of_ble_eq_true rfl⟩) (preS_of hK hP (hD sg)) rfl rfl hl.1 rfl (lv_room (Nat.le_of_ble_eq_true rfl)) dX5_give_9 ⟨Nat.le_of_ble_eq_true rfl, Nat.le_of_ble_eq_true rfl⟩) hS (fun q h => dd_A_mono hS.1 h) (fun q h => dd_A_mono hS.1 h) (fun H locs hP hS => ?_)
    refine lv_if_eq (tgt := 23) hx hb dX5_give_12 (by decide) (fun c6 => ?_) (fun c6 => ?_)
    · have hf := if_t c6 hf
      exact hL_23 sg _ _ _ hf hP hS (lv_sub hl [] rfl)
    · have hf := if_f c6 hf
      refine lv_aload_n hx hb dX5_give_15 rfl (lv_at hl 0 rfl) ?_
      refine lv_iload_n hx hb dX5_give_16 rfl (lv_at hl 3 rfl) ?_
      obtain ⟨r8, q7, hf⟩ := bd_so hf
      refine cl_i (va_runV (As := [.int a3]) (rest := []) ⟨hx, hb, hml, hown, hts⟩ (c_X5_isDuty l g ad X _ sg a3 r8 q7) (cwV 1 hts gl_X5_150 rfl rfl rfl yd_X5_isDuty ⟨Nat.le_of_ble_eq_true rfl, Nat.le_of_ble_eq_true rfl⟩) (preV_of hK hP (hD sg) (dd_at (by decide) cc_30) rfl) rfl rfl hl.1 rfl (lv_room (Nat.le_of_ble_eq_true rfl)) dX5_give_17 ⟨Nat.le_of_ble_eq_true rfl, Nat.le_of_ble_eq_true rfl⟩) hS (fun q h => dd_A_mono hS.1 h) (fun q h => dd_A_mono hS.1 h) (fun H locs hP hS => ?_)
      refine lv_if_ne (tgt := 34) hx hb dX5_give_20 (by decide) (fun c9 => ?_) (fun c9 => ?_)
      · have hf := if_f c9 hf
        refine lv_aload_n hx hb dX5_give_34 rfl (lv_at hl 0 rfl) ?_
        refine lv_iload_n hx hb dX5_give_35 rfl (lv_at hl 1 rfl) ?_
        refine lv_iload_n hx hb dX5_give_36 rfl (lv_at hl 2 rfl) ?_
        refine lv_iload_n hx hb dX5_give_37 rfl (lv_at hl 3 rfl) ?_
        obtain ⟨r11, q10, hf⟩ := bd_so hf
        refine cl_i (va_runV (As := [.int a1, .int a2, .int a3]) (rest := []) ⟨hx, hb, hml, hown, hts⟩ (c_X5_reasonAgainst l g ad X _ sg a1 a2 a3 r11 q10) (cwV 3 hts gl_X5_274 rfl rfl rfl yd_X5_reasonAgainst ⟨Nat.le_of_ble_eq_true rfl, Nat.le_of_ble_eq_true rfl⟩) (preV_of hK hP (hD sg) (dd_at (by decide) cc_30) rfl) rfl rfl hl.1 rfl (lv_room (Nat.le_of_ble_eq_true rfl)) dX5_give_38 ⟨Nat.le_of_ble_eq_true rfl, Nat.le_of_ble_eq_true rfl⟩) hS (fun q h => dd_A_mono hS.1 h) (fun q h => dd_A_mono hS.1 h) (fun H locs hP hS => ?_)
        refine lv_if_eq (tgt := 55) hx hb dX5_give_41 (by decide) (fun c12 => ?_) (fun c12 => ?_)
        · have hf := if_t c12 hf
          refine lv_aload_n hx hb dX5_give_55 rfl (lv_at hl 0 rfl) ?_
          refine lv_iload_n hx hb dX5_give_56 rfl (lv_at hl 1 rfl) ?_
          refine lv_iload_n hx hb dX5_give_57 rfl (lv_at hl 2 rfl) ?_
          refine lv_iload_n hx hb dX5_give_58 rfl (lv_at hl 3 rfl) ?_
          obtain ⟨sg14, q13, hf⟩ := bd_so hf
          refine cl_v (va_runV (As := [.int a1, .int a2, .int a3]) (rest := []) ⟨hx, hb, hml, hown, hts⟩ (c_X5_enter l g ad X _ sg a1 a2 a3 sg14 q13) (cwV 3 hts gl_X5_280 rfl rfl rfl yd_X5_enter ⟨Nat.le_of_ble_eq_true rfl, Nat.le_of_ble_eq_true rfl⟩) (preV_of hK hP (hD sg) (dd_at (by decide) cc_30) rfl) rfl rfl hl.1 rfl (lv_room (Nat.le_of_ble_eq_true rfl)) dX5_give_59 ⟨Nat.le_of_ble_eq_true rfl, Nat.le_of_ble_eq_true rfl⟩) hS (fun q h => dd_A_mono hS.1 h) (fun q h => dd_A_mono hS.1 h) (fun H locs hP hS => ?_)
          refine lv_aload_n hx hb dX5_give_62 rfl (lv_at hl 0 rfl) ?_
          refine lv_iload_n hx hb dX5_give_63 rfl (lv_at hl 1 rfl) ?_
          obtain ⟨r16, q15, hf⟩ := bd_so hf
          refine cl_i (va_runV (As := [.int a1]) (rest := []) ⟨hx, hb, hml, hown, hts⟩ (c_X5_weekPay l g ad X _ sg14 a1 r16 q15) (cwV 1 hts gl_X5_283 rfl rfl rfl yd_X5_weekPay ⟨Nat.le_of_ble_eq_true rfl, Nat.le_of_ble_eq_true rfl⟩) (preV_of hK hP (hD sg14) (dd_at (by decide) cc_30) rfl) rfl rfl hl.1 rfl (lv_room (Nat.le_of_ble_eq_true rfl)) dX5_give_64 ⟨Nat.le_of_ble_eq_true rfl, Nat.le_of_ble_eq_true rfl⟩) hS (fun q h => dd_A_mono hS.1 h) (fun q h => dd_A_mono hS.1 h) (fun H locs hP hS => ?_)
          refine W.widen (k := 1) (n := 6) (by decide) (by decide) ?_
          refine vx_ret ?_
          exact W.iret (v := r16) hx hb hr (fun t ht hW => ⟨⟨r16, (), rfl, ⟨(so3 hf).1.symm, (so3 hf).2.1⟩, P_at2 (so3 hf).2.2 ht hP⟩, hS.F ht⟩) hS.2.2 dX5_give_67
        · have hf := if_f c12 hf
          obtain ⟨rfl, rfl, rfl⟩ := so3 hf
          exact T_throw3W (is := 278) (text := "the duty cannot be given to the driver") hx hb hst hown hts hK hXF (dd_str 20) hP hS (hl.1.trans hml.symm) dX5_give_44 dX5_give_47 dX5_give_48 dX5_give_51 dX5_give_54 hnone (Nat.le_of_ble_eq_true rfl) (Nat.le_of_ble_eq_true rfl) (Nat.le_of_ble_eq_true rfl) (Nat.le_of_ble_eq_true rfl) hlocks
      · have hf := if_t c9 hf
        exact hL_23 sg _ _ _ hf hP hS (lv_sub hl [] rfl)
set_option maxHeartbeats 4000000 in
set_option maxRecDepth 100000 in
theorem c_X5_takeBack (l : Launch) (hst : l.stackTraces = false) (g : dd_G) (ad : Nat → Nat) (X : va_W) (sz : Nat) (sg : dd_S) (a1 : Int32) (a2 : Int32) (k0 : Nat) (r0 : Int32) (s0 : dd_S) (hf : f_X5_takeBack sg a1 a2 = some (k0, r0, s0)) : vx_Met l yX5_takeBack (lw_ws yX5_takeBack cX5_takeBack 4 (some .int)) ({ frames := 6, cells := 1, slots := 6, locals := 82 } : Room) (va_Pc [.ref (ad 30), .int a1, .int a2] (PreX g 59 ad X (WC g ad sg ++ X) sz)) (QXI g (WC g ad s0 ++ X) (dd_A 59 ad X sz) k0 r0) (XCx g (WC g ad s0 ++ X) (dd_A 59 ad X sz) k0) 1 6 (dd_A 59 ad X sz) := by
  refine vx_ofW (cc := cX5_takeBack) (maxL := 4) (ret := some .int) (by decide) rfl ?_
  intro p e s m args below meth c s₁ B hml hnone hv
  obtain ⟨rfl, ⟨rfl, hP, hK, hD0⟩, hXF⟩ := hv
  have hx := B.exec
  have hb := B.bytes
  have hr := B.returns
  have hts := atoms_spec (ws := (lw_ws yX5_takeBack cX5_takeBack 4 (some .int))) B.pre
  have hts : ∀ w ∈ lw_all, w.before _ s = true := fun w h => hts w (List.mem_cons_of_mem _ h)
  have hown : s.vm.findClass RX5 = some m.cls := findClass_of_methodNamed B.named
  have hlocks := B.notSynchronized
  have hD : ∀ s2 : dd_S, va_D (dd_A 59 ad X s.heap.size) (WC g ad s2 ++ X) := fun s2 => dd_D (dd_A_D hD0)
  have hS : va_S (dd_A 59 ad X s.heap.size) s.heap s.heap [] := va_S.rf
  have hL_15 : ∀ (sg : dd_S) (H : Heap) (locs : List Loc) (ls : Array Slot), f_X5_takeBack_15 a1 a2 sg = some (k0, r0, s0) → va_P g.1 vwCl (WC g ad sg ++ X) H → va_S (dd_A 59 ad X s.heap.size) s.heap H locs → lv_has ls 4 [] → W p l e (headSpec (lw_ws yX5_takeBack cX5_takeBack 4 (some .int)) ({ frames := 6, cells := 1, slots := 6, locals := 82 } : Room)).room s m ([.ref (ad 30), .int a1, .int a2] : List Value).toArray below meth c H locs 0 0 (vx_MQ below (QXI g (WC g ad s0 ++ X) (dd_A 59 ad X s.heap.size) k0 r0) (XCx g (WC g ad s0 ++ X) (dd_A 59 ad X s.heap.size) k0) ([.ref (ad 30), .int a1, .int a2] : List Value).toArray s 1 6 (dd_A 59 ad X s.heap.size)) (F0 m 15 ls []) := by
    intro sg H locs ls hf hP hS hl
    unfold f_X5_takeBack_15 at hf
    obtain ⟨rfl, rfl, rfl⟩ := so3 hf
    exact T_throw1W (is := 286) (text := "no such driver or day") hx hb hst hown hts hK hXF (dd_str 22) hP hS (hl.1.trans hml.symm) dX5_takeBack_15 dX5_takeBack_18 dX5_takeBack_19 dX5_takeBack_22 dX5_takeBack_25 hnone (Nat.le_of_ble_eq_true rfl) (Nat.le_of_ble_eq_true rfl) (Nat.le_of_ble_eq_true rfl) (Nat.le_of_ble_eq_true rfl) hlocks
  unfold f_X5_takeBack at hf
  have hl := lv_entry ([.ref (ad 30), .int a1, .int a2]) (n := 4) (Nat.le_of_ble_eq_true rfl)
  rw [lg_entry_eq]
  generalize (lg_sl ([.ref (ad 30), .int a1, .int a2]) ++ List.replicate (4 - (lg_sl ([.ref (ad 30), .int a1, .int a2])).length) Slot.unset).toArray = ls at hl ⊢
  have hl : lv_has ls 4 [(0, .ref (ad 30)), (1, .int a1), (2, .int a2)] := hl
  refine lv_aload_n hx hb dX5_takeBack_0 rfl (lv_at hl 0 rfl) ?_
  refine lv_iload_n hx hb dX5_takeBack_1 rfl (lv_at hl 1 rfl) ?_
  obtain ⟨r2, q1, hf⟩ := bd_so hf
  refine cl_i (va_runV (As := [.int a1]) (rest := []) ⟨hx, hb, hml, hown, hts⟩ (c_X5_isDriver l g ad X _ sg a1 r2 q1) (cwV 1 hts gl_X5_266 rfl rfl rfl yd_X5_isDriver ⟨Nat.le_of_ble_eq_true rfl, Nat.le_of_ble_eq_true rfl⟩) (preV_of hK hP (hD sg) (dd_at (by decide) cc_30) rfl) rfl rfl hl.1 rfl (lv_room (Nat.le_of_ble_eq_true rfl)) dX5_takeBack_2 ⟨Nat.le_of_ble_eq_true rfl, Nat.le_of_ble_eq_true rfl⟩) hS (fun q h => dd_A_mono hS.1 h) (fun q h => dd_A_mono hS.1 h) (fun H locs hP hS => ?_)
  refine lv_if_eq (tgt := 15) hx hb dX5_takeBack_5 (by decide) (fun c3 => ?_) (fun c3 => ?_)
  · have hf := if_t c3 hf
    exact hL_15 sg _ _ _ hf hP hS (lv_sub hl [] rfl)
  · have hf := if_f c3 hf
    refine lv_iload_n hx hb dX5_takeBack_8 rfl (lv_at hl 2 rfl) ?_
    obtain ⟨r5, q4, hf⟩ := bd_so hf
    refine cl_i (va_runS (As := [.int a2]) (rest := []) ⟨hx, hb, hml, hown, hts⟩ (c_X5_isDay l g ad X _ sg a2 r5 q4) (cwS 1 hts gl_X5_269 rfl rfl rfl yd_X5_isDay ⟨Nat.le_of_ble_eq_true rfl, Nat.le_of_ble_eq_true rfl⟩) (preS_of hK hP (hD sg)) rfl rfl hl.1 rfl (lv_room (Nat.le_of_ble_eq_true rfl)) dX5_takeBack_9 ⟨Nat.le_of_ble_eq_true rfl, Nat.le_of_ble_eq_true rfl⟩) hS (fun q h => dd_A_mono hS.1 h) (fun q h => dd_A_mono hS.1 h) (fun H locs hP hS => ?_)
    refine lv_if_ne (tgt := 26) hx hb dX5_takeBack_12 (by decide) (fun c6 => ?_) (fun c6 => ?_)
    · have hf := if_f c6 hf
      refine lv_aload_n hx hb dX5_takeBack_26 rfl (lv_at hl 0 rfl) ?_
      refine lv_iload_n hx hb dX5_takeBack_27 rfl (lv_at hl 1 rfl) ?_
      refine lv_iload_n hx hb dX5_takeBack_28 rfl (lv_at hl 2 rfl) ?_
      obtain ⟨r8, q7, hf⟩ := bd_so hf
      refine cl_i (va_runV (As := [.int a1, .int a2]) (rest := []) ⟨hx, hb, hml, hown, hts⟩ (c_X5_dutyOn l g ad X _ sg a1 a2 r8 q7) (cwV 2 hts gl_X5_288 rfl rfl rfl yd_X5_dutyOn ⟨Nat.le_of_ble_eq_true rfl, Nat.le_of_ble_eq_true rfl⟩) (preV_of hK hP (hD sg) (dd_at (by decide) cc_30) rfl) rfl rfl hl.1 rfl (lv_room (Nat.le_of_ble_eq_true rfl)) dX5_takeBack_29 ⟨Nat.le_of_ble_eq_true rfl, Nat.le_of_ble_eq_true rfl⟩) hS (fun q h => dd_A_mono hS.1 h) (fun q h => dd_A_mono hS.1 h) (fun H locs hP hS => ?_)
      refine lv_istore_n (lv' := [(3, .int r8), (0, .ref (ad 30)), (1, .int a1), (2, .int a2)]) hx hb dX5_takeBack_32 rfl hl (by decide) rfl (fun ls hl => ?_)
      refine lv_iload_n hx hb dX5_takeBack_33 rfl (lv_at hl 0 rfl) ?_
      refine lv_iconst (v := (-1 : Int32)) hx hb dX5_takeBack_34 (by decide) ?_
      refine lv_icmp_ne (tgt := 49) hx hb dX5_takeBack_35 (by decide) (fun c9 => ?_) (fun c9 => ?_)
      · have hf := if_f c9 hf
        refine lv_aload_n hx hb dX5_takeBack_49 rfl (lv_at hl 1 rfl) ?_
        refine lv_iload_n hx hb dX5_takeBack_50 rfl (lv_at hl 2 rfl) ?_
        refine lv_iload_n hx hb dX5_takeBack_51 rfl (lv_at hl 3 rfl) ?_
        refine lv_iconst (v := (-1 : Int32)) hx hb dX5_takeBack_52 (by decide) ?_
        obtain ⟨sg11, q10, hf⟩ := bd_so hf
        refine cl_v (va_runV (As := [.int a1, .int a2, .int (-1 : Int32)]) (rest := []) ⟨hx, hb, hml, hown, hts⟩ (c_X5_enter l g ad X _ sg a1 a2 (-1 : Int32) sg11 q10) (cwV 3 hts gl_X5_280 rfl rfl rfl yd_X5_enter ⟨Nat.le_of_ble_eq_true rfl, Nat.le_of_ble_eq_true rfl⟩) (preV_of hK hP (hD sg) (dd_at (by decide) cc_30) rfl) rfl rfl hl.1 rfl (lv_room (Nat.le_of_ble_eq_true rfl)) dX5_takeBack_53 ⟨Nat.le_of_ble_eq_true rfl, Nat.le_of_ble_eq_true rfl⟩) hS (fun q h => dd_A_mono hS.1 h) (fun q h => dd_A_mono hS.1 h) (fun H locs hP hS => ?_)
        refine lv_iload_n hx hb dX5_takeBack_56 rfl (lv_at hl 0 rfl) ?_
        refine W.widen (k := 1) (n := 6) (by decide) (by decide) ?_
        refine vx_ret ?_
        exact W.iret (v := r8) hx hb hr (fun t ht hW => ⟨⟨r8, (), rfl, ⟨(so3 hf).1.symm, (so3 hf).2.1⟩, P_at2 (so3 hf).2.2 ht hP⟩, hS.F ht⟩) hS.2.2 dX5_takeBack_57
      · have hf := if_t c9 hf
        obtain ⟨rfl, rfl, rfl⟩ := so3 hf
        exact T_throw3W (is := 291) (text := "the driver has no duty on this day") hx hb hst hown hts hK hXF (dd_str 21) hP hS (hl.1.trans hml.symm) dX5_takeBack_38 dX5_takeBack_41 dX5_takeBack_42 dX5_takeBack_45 dX5_takeBack_48 hnone (Nat.le_of_ble_eq_true rfl) (Nat.le_of_ble_eq_true rfl) (Nat.le_of_ble_eq_true rfl) (Nat.le_of_ble_eq_true rfl) hlocks
    · have hf := if_t c6 hf
      exact hL_15 sg _ _ _ hf hP hS (lv_sub hl [] rfl)
set_option maxHeartbeats 4000000 in
set_option maxRecDepth 100000 in
theorem c_X5_given (l : Launch) (hst : l.stackTraces = false) (g : dd_G) (ad : Nat → Nat) (X : va_W) (sz : Nat) (sg : dd_S) (a1 : Int32) (a2 : Int32) (k0 : Nat) (r0 : Int32) (s0 : dd_S) (hf : f_X5_given sg a1 a2 = some (k0, r0, s0)) : vx_Met l yX5_given (lw_ws yX5_given cX5_given 3 (some .int)) ({ frames := 6, cells := 1, slots := 6, locals := 82 } : Room) (va_Pc [.ref (ad 30), .int a1, .int a2] (PreX g 59 ad X (WC g ad sg ++ X) sz)) (QXI g (WC g ad s0 ++ X) (dd_A 59 ad X sz) k0 r0) (XCx g (WC g ad s0 ++ X) (dd_A 59 ad X sz) k0) 1 6 (dd_A 59 ad X sz) := by
  refine vx_ofW (cc := cX5_given) (maxL := 3) (ret := some .int) (by decide) rfl ?_
  intro p e s m args below meth c s₁ B hml hnone hv
  obtain ⟨rfl, ⟨rfl, hP, hK, hD0⟩, hXF⟩ := hv
  have hx := B.exec
  have hb := B.bytes
  have hr := B.returns
  have hts := atoms_spec (ws := (lw_ws yX5_given cX5_given 3 (some .int))) B.pre
  have hts : ∀ w ∈ lw_all, w.before _ s = true := fun w h => hts w (List.mem_cons_of_mem _ h)
  have hown : s.vm.findClass RX5 = some m.cls := findClass_of_methodNamed B.named
  have hlocks := B.notSynchronized
  have hD : ∀ s2 : dd_S, va_D (dd_A 59 ad X s.heap.size) (WC g ad s2 ++ X) := fun s2 => dd_D (dd_A_D hD0)
  have hS : va_S (dd_A 59 ad X s.heap.size) s.heap s.heap [] := va_S.rf
  have hL_15 : ∀ (sg : dd_S) (H : Heap) (locs : List Loc) (ls : Array Slot), f_X5_given_15 a1 a2 sg = some (k0, r0, s0) → va_P g.1 vwCl (WC g ad sg ++ X) H → va_S (dd_A 59 ad X s.heap.size) s.heap H locs → lv_has ls 3 [] → W p l e (headSpec (lw_ws yX5_given cX5_given 3 (some .int)) ({ frames := 6, cells := 1, slots := 6, locals := 82 } : Room)).room s m ([.ref (ad 30), .int a1, .int a2] : List Value).toArray below meth c H locs 0 0 (vx_MQ below (QXI g (WC g ad s0 ++ X) (dd_A 59 ad X s.heap.size) k0 r0) (XCx g (WC g ad s0 ++ X) (dd_A 59 ad X s.heap.size) k0) ([.ref (ad 30), .int a1, .int a2] : List Value).toArray s 1 6 (dd_A 59 ad X s.heap.size)) (F0 m 15 ls []) := by
    intro sg H locs ls hf hP hS hl
    unfold f_X5_given_15 at hf
    obtain ⟨rfl, rfl, rfl⟩ := so3 hf
    exact T_throw1W (is := 286) (text := "no such driver or day") hx hb hst hown hts hK hXF (dd_str 22) hP hS (hl.1.trans hml.symm) dX5_given_15 dX5_given_18 dX5_given_19 dX5_given_22 dX5_given_25 hnone (Nat.le_of_ble_eq_true rfl) (Nat.le_of_ble_eq_true rfl) (Nat.le_of_ble_eq_true rfl) (Nat.le_of_ble_eq_true rfl) hlocks
  unfold f_X5_given at hf
  have hl := lv_entry ([.ref (ad 30), .int a1, .int a2]) (n := 3) (Nat.le_of_ble_eq_true rfl)
  rw [lg_entry_eq]
  generalize (lg_sl ([.ref (ad 30), .int a1, .int a2]) ++ List.replicate (3 - (lg_sl ([.ref (ad 30), .int a1, .int a2])).length) Slot.unset).toArray = ls at hl ⊢
  have hl : lv_has ls 3 [(0, .ref (ad 30)), (1, .int a1), (2, .int a2)] := hl
  refine lv_aload_n hx hb dX5_given_0 rfl (lv_at hl 0 rfl) ?_
  refine lv_iload_n hx hb dX5_given_1 rfl (lv_at hl 1 rfl) ?_
  obtain ⟨r2, q1, hf⟩ := bd_so hf
  refine cl_i (va_runV (As := [.int a1]) (rest := []) ⟨hx, hb, hml, hown, hts⟩ (c_X5_isDriver l g ad X _ sg a1 r2 q1) (cwV 1 hts gl_X5_266 rfl rfl rfl yd_X5_isDriver ⟨Nat.le_of_ble_eq_true rfl, Nat.le_of_ble_eq_true rfl⟩) (preV_of hK hP (hD sg) (dd_at (by decide) cc_30) rfl) rfl rfl hl.1 rfl (lv_room (Nat.le_of_ble_eq_true rfl)) dX5_given_2 ⟨Nat.le_of_ble_eq_true rfl, Nat.le_of_ble_eq_true rfl⟩) hS (fun q h => dd_A_mono hS.1 h) (fun q h => dd_A_mono hS.1 h) (fun H locs hP hS => ?_)
  refine lv_if_eq (tgt := 15) hx hb dX5_given_5 (by decide) (fun c3 => ?_) (fun c3 => ?_)
  · have hf := if_t c3 hf
    exact hL_15 sg _ _ _ hf hP hS (lv_sub hl [] rfl)
  · have hf := if_f c3 hf
    refine lv_iload_n hx hb dX5_given_8 rfl (lv_at hl 2 rfl) ?_
    obtain ⟨r5, q4, hf⟩ := bd_so hf
    refine cl_i (va_runS (As := [.int a2]) (rest := []) ⟨hx, hb, hml, hown, hts⟩ (c_X5_isDay l g ad X _ sg a2 r5 q4) (cwS 1 hts gl_X5_269 rfl rfl rfl yd_X5_isDay ⟨Nat.le_of_ble_eq_true rfl, Nat.le_of_ble_eq_true rfl⟩) (preS_of hK hP (hD sg)) rfl rfl hl.1 rfl (lv_room (Nat.le_of_ble_eq_true rfl)) dX5_given_9 ⟨Nat.le_of_ble_eq_true rfl, Nat.le_of_ble_eq_true rfl⟩) hS (fun q h => dd_A_mono hS.1 h) (fun q h => dd_A_mono hS.1 h) (fun H locs hP hS => ?_)
    refine lv_if_ne (tgt := 26) hx hb dX5_given_12 (by decide) (fun c6 => ?_) (fun c6 => ?_)
    · have hf := if_f c6 hf
      refine lv_aload_n hx hb dX5_given_26 rfl (lv_at hl 0 rfl) ?_
      refine lv_iload_n hx hb dX5_given_27 rfl (lv_at hl 1 rfl) ?_
      refine lv_iload_n hx hb dX5_given_28 rfl (lv_at hl 2 rfl) ?_
      obtain ⟨r8, q7, hf⟩ := bd_so hf
      refine cl_i (va_runV (As := [.int a1, .int a2]) (rest := []) ⟨hx, hb, hml, hown, hts⟩ (c_X5_dutyOn l g ad X _ sg a1 a2 r8 q7) (cwV 2 hts gl_X5_288 rfl rfl rfl yd_X5_dutyOn ⟨Nat.le_of_ble_eq_true rfl, Nat.le_of_ble_eq_true rfl⟩) (preV_of hK hP (hD sg) (dd_at (by decide) cc_30) rfl) rfl rfl hl.1 rfl (lv_room (Nat.le_of_ble_eq_true rfl)) dX5_given_29 ⟨Nat.le_of_ble_eq_true rfl, Nat.le_of_ble_eq_true rfl⟩) hS (fun q h => dd_A_mono hS.1 h) (fun q h => dd_A_mono hS.1 h) (fun H locs hP hS => ?_)
      refine W.widen (k := 1) (n := 6) (by decide) (by decide) ?_
      refine vx_ret ?_
      exact W.iret (v := r8) hx hb hr (fun t ht hW => ⟨⟨r8, (), rfl, ⟨(so3 hf).1.symm, (so3 hf).2.1⟩, P_at2 (so3 hf).2.2 ht hP⟩, hS.F ht⟩) hS.2.2 dX5_given_32
    · have hf := if_t c6 hf
      exact hL_15 sg _ _ _ hf hP hS (lv_sub hl [] rfl)
set_option maxHeartbeats 4000000 in
set_option maxRecDepth 100000 in
theorem c_X5_fill (l : Launch) (hst : l.stackTraces = false) (g : dd_G) (ad : Nat → Nat) (X : va_W) (sz : Nat) (sg : dd_S) (a1 : Int32) (k0 : Nat) (r0 : Int32) (s0 : dd_S) (hf : f_X5_fill sg a1 = some (k0, r0, s0)) : vx_Met l yX5_fill (lw_ws yX5_fill cX5_fill 3 (some .int)) ({ frames := 6, cells := 1, slots := 6, locals := 142 } : Room) (va_Pc [.ref (ad 30), .int a1] (PreX g 59 ad X (WC g ad sg ++ X) sz)) (QXI g (WC g ad s0 ++ X) (dd_A 59 ad X sz) k0 r0) (XCx g (WC g ad s0 ++ X) (dd_A 59 ad X sz) k0) 1 6 (dd_A 59 ad X sz) := by
  refine vx_ofW (cc := cX5_fill) (maxL := 3) (ret := some .int) (by decide) rfl ?_
  intro p e s m args below meth c s₁ B hml hnone hv
  obtain ⟨rfl, ⟨rfl, hP, hK, hD0⟩, hXF⟩ := hv
  have hx := B.exec
  have hb := B.bytes
  have hr := B.returns
  have hts := atoms_spec (ws := (lw_ws yX5_fill cX5_fill 3 (some .int))) B.pre
  have hts : ∀ w ∈ lw_all, w.before _ s = true := fun w h => hts w (List.mem_cons_of_mem _ h)
  have hown : s.vm.findClass RX5 = some m.cls := findClass_of_methodNamed B.named
  have hlocks := B.notSynchronized
  have hD : ∀ s2 : dd_S, va_D (dd_A 59 ad X s.heap.size) (WC g ad s2 ++ X) := fun s2 => dd_D (dd_A_D hD0)
  have hS : va_S (dd_A 59 ad X s.heap.size) s.heap s.heap [] := va_S.rf
  have hL_60 : ∀ (k_27 : dd_S → Int32 → Option (Nat × Int32 × dd_S)) (hk_27 : ∀ (sg : dd_S) (v2 : Int32) (H : Heap) (locs : List Loc) (ls : Array Slot), k_27 sg v2 = some (k0, r0, s0) → va_P g.1 vwCl (WC g ad sg ++ X) H → va_S (dd_A 59 ad X s.heap.size) s.heap H locs → lv_has ls 3 [(0, .ref (ad 30)), (1, .int a1), (2, .int v2)] → W p l e (headSpec (lw_ws yX5_fill cX5_fill 3 (some .int)) ({ frames := 6, cells := 1, slots := 6, locals := 142 } : Room)).room s m ([.ref (ad 30), .int a1] : List Value).toArray below meth c H locs 0 0 (vx_MQ below (QXI g (WC g ad s0 ++ X) (dd_A 59 ad X s.heap.size) k0 r0) (XCx g (WC g ad s0 ++ X) (dd_A 59 ad X s.heap.size) k0) ([.ref (ad 30), .int a1] : List Value).toArray s 1 6 (dd_A 59 ad X s.heap.size)) (F0 m 27 ls [])), ∀ (sg : dd_S) (v2 : Int32) (H : Heap) (locs : List Loc) (ls : Array Slot), f_X5_fill_60 a1 k_27 sg v2 = some (k0, r0, s0) → va_P g.1 vwCl (WC g ad sg ++ X) H → va_S (dd_A 59 ad X s.heap.size) s.heap H locs → lv_has ls 3 [(0, .ref (ad 30)), (1, .int a1), (2, .int v2)] → W p l e (headSpec (lw_ws yX5_fill cX5_fill 3 (some .int)) ({ frames := 6, cells := 1, slots := 6, locals := 142 } : Room)).room s m ([.ref (ad 30), .int a1] : List Value).toArray below meth c H locs 0 0 (vx_MQ below (QXI g (WC g ad s0 ++ X) (dd_A 59 ad X s.heap.size) k0 r0) (XCx g (WC g ad s0 ++ X) (dd_A 59 ad X s.heap.size) k0) ([.ref (ad 30), .int a1] : List Value).toArray s 1 6 (dd_A 59 ad X s.heap.size)) (F0 m 60 ls []) := by
    intro k_27 hk_27 sg v2 H locs ls hf hP hS hl
    unfold f_X5_fill_60 at hf
    obtain ⟨x22, ex22, hf⟩ := lt_ex hf
    refine lv_iinc (v := x22) (lv' := [(2, .int x22), (0, .ref (ad 30)), (1, .int a1)]) hx hb dX5_fill_60 hl (k := 2) rfl (by rw [ex22]; rfl) (by decide) rfl (fun ls hl => ?_)
    refine lv_goto (tgt := 27) hx hb dX5_fill_63 (by decide) ?_
    exact hk_27 sg x22 _ _ _ hf hP hS (lv_sub hl [1, 2, 0] rfl)
  have hL_68 : ∀ (n : Nat), ∀ (sg : dd_S) (v2 : Int32) (H : Heap) (locs : List Loc) (ls : Array Slot), f_X5_fill_68 a1 n sg v2 = some (k0, r0, s0) → va_P g.1 vwCl (WC g ad sg ++ X) H → va_S (dd_A 59 ad X s.heap.size) s.heap H locs → lv_has ls 3 [(0, .ref (ad 30)), (1, .int a1), (2, .int v2)] → W p l e (headSpec (lw_ws yX5_fill cX5_fill 3 (some .int)) ({ frames := 6, cells := 1, slots := 6, locals := 142 } : Room)).room s m ([.ref (ad 30), .int a1] : List Value).toArray below meth c H locs 0 0 (vx_MQ below (QXI g (WC g ad s0 ++ X) (dd_A 59 ad X s.heap.size) k0 r0) (XCx g (WC g ad s0 ++ X) (dd_A 59 ad X s.heap.size) k0) ([.ref (ad 30), .int a1] : List Value).toArray s 1 6 (dd_A 59 ad X s.heap.size)) (F0 m 68 ls []) := by
    intro n
    induction n with
    | zero =>
      intro sg v2 H locs ls hf
      rw [f_X5_fill_68] at hf
      cases hf
    | succ n ih =>
      intro sg v2 H locs ls hf hP hS hl
      rw [f_X5_fill_68] at hf
      refine lv_iload_n hx hb dX5_fill_68 rfl (lv_at hl 2 rfl) ?_
      refine lv_aload_n hx hb dX5_fill_69 rfl (lv_at hl 0 rfl) ?_
      refine gf_X5_49 hx hb hts hown hK hP dX5_fill_70 ?_
      refine gf_X5_215 hx hb hts hown hK hP dX5_fill_73 ?_
      refine lv_icmp_ge (tgt := 98) hx hb dX5_fill_76 (by decide) (fun c14 => ?_) (fun c14 => ?_)
      · have hf := if_t c14 hf
        refine lv_aload_n hx hb dX5_fill_98 rfl (lv_at hl 0 rfl) ?_
        refine lv_iload_n hx hb dX5_fill_99 rfl (lv_at hl 1 rfl) ?_
        obtain ⟨r16, q15, hf⟩ := bd_so hf
        refine cl_i (va_runV (As := [.int a1]) (rest := []) ⟨hx, hb, hml, hown, hts⟩ (c_X5_openDuties l g ad X _ sg a1 r16 q15) (cwV 1 hts gl_X5_304 rfl rfl rfl yd_X5_openDuties ⟨Nat.le_of_ble_eq_true rfl, Nat.le_of_ble_eq_true rfl⟩) (preV_of hK hP (hD sg) (dd_at (by decide) cc_30) rfl) rfl rfl hl.1 rfl (lv_room (Nat.le_of_ble_eq_true rfl)) dX5_fill_100 ⟨Nat.le_of_ble_eq_true rfl, Nat.le_of_ble_eq_true rfl⟩) hS (fun q h => dd_A_mono hS.1 h) (fun q h => dd_A_mono hS.1 h) (fun H locs hP hS => ?_)
        refine W.widen (k := 1) (n := 6) (by decide) (by decide) ?_
        refine vx_ret ?_
        exact W.iret (v := r16) hx hb hr (fun t ht hW => ⟨⟨r16, (), rfl, ⟨(so3 hf).1.symm, (so3 hf).2.1⟩, P_at2 (so3 hf).2.2 ht hP⟩, hS.F ht⟩) hS.2.2 dX5_fill_103
      · have hf := if_f c14 hf
        refine lv_aload_n hx hb dX5_fill_79 rfl (lv_at hl 0 rfl) ?_
        refine lv_aload_n hx hb dX5_fill_80 rfl (lv_at hl 0 rfl) ?_
        refine gf_X5_49 hx hb hts hown hK hP dX5_fill_81 ?_
        refine lv_iload_n hx hb dX5_fill_84 rfl (lv_at hl 2 rfl) ?_
        obtain ⟨r18, q17, hf⟩ := bd_so hf
        refine cl_i (va_runV (As := [.int v2]) (rest := [.ref (ad 30)]) ⟨hx, hb, hml, hown, hts⟩ (c_X2_numberIn l g ad X _ sg v2 r18 q17) (cwV 1 hts gl_X5_216 rfl rfl rfl yd_X2_numberIn ⟨Nat.le_of_ble_eq_true rfl, Nat.le_of_ble_eq_true rfl⟩) (preV_of hK hP (hD sg) (dd_at (by decide) cc_36) rfl) rfl rfl hl.1 rfl (lv_room (Nat.le_of_ble_eq_true rfl)) dX5_fill_85 ⟨Nat.le_of_ble_eq_true rfl, Nat.le_of_ble_eq_true rfl⟩) hS (fun q h => dd_A_mono hS.1 h) (fun q h => dd_A_mono hS.1 h) (fun H locs hP hS => ?_)
        refine lv_iload_n hx hb dX5_fill_88 rfl (lv_at hl 1 rfl) ?_
        obtain ⟨sg20, q19, hf⟩ := bd_so hf
        refine cl_v (va_runV (As := [.int r18, .int a1]) (rest := []) ⟨hx, hb, hml, hown, hts⟩ (c_X5_fillWith l g ad X _ sg r18 a1 sg20 q19) (cwV 2 hts gl_X5_301 rfl rfl rfl yd_X5_fillWith ⟨Nat.le_of_ble_eq_true rfl, Nat.le_of_ble_eq_true rfl⟩) (preV_of hK hP (hD sg) (dd_at (by decide) cc_30) rfl) rfl rfl hl.1 rfl (lv_room (Nat.le_of_ble_eq_true rfl)) dX5_fill_89 ⟨Nat.le_of_ble_eq_true rfl, Nat.le_of_ble_eq_true rfl⟩) hS (fun q h => dd_A_mono hS.1 h) (fun q h => dd_A_mono hS.1 h) (fun H locs hP hS => ?_)
        obtain ⟨x21, ex21, hf⟩ := lt_ex hf
        refine lv_iinc (v := x21) (lv' := [(2, .int x21), (0, .ref (ad 30)), (1, .int a1)]) hx hb dX5_fill_92 hl (k := 2) rfl (by rw [ex21]; rfl) (by decide) rfl (fun ls hl => ?_)
        refine lv_goto (tgt := 68) hx hb dX5_fill_95 (by decide) ?_
        exact ih sg20 x21 _ _ _ hf hP hS (lv_sub hl [1, 2, 0] rfl)
  have hL_27 : ∀ (n : Nat), ∀ (sg : dd_S) (v2 : Int32) (H : Heap) (locs : List Loc) (ls : Array Slot), f_X5_fill_27 a1 n sg v2 = some (k0, r0, s0) → va_P g.1 vwCl (WC g ad sg ++ X) H → va_S (dd_A 59 ad X s.heap.size) s.heap H locs → lv_has ls 3 [(0, .ref (ad 30)), (1, .int a1), (2, .int v2)] → W p l e (headSpec (lw_ws yX5_fill cX5_fill 3 (some .int)) ({ frames := 6, cells := 1, slots := 6, locals := 142 } : Room)).room s m ([.ref (ad 30), .int a1] : List Value).toArray below meth c H locs 0 0 (vx_MQ below (QXI g (WC g ad s0 ++ X) (dd_A 59 ad X s.heap.size) k0 r0) (XCx g (WC g ad s0 ++ X) (dd_A 59 ad X s.heap.size) k0) ([.ref (ad 30), .int a1] : List Value).toArray s 1 6 (dd_A 59 ad X s.heap.size)) (F0 m 27 ls []) := by
    intro n
    induction n with
    | zero =>
      intro sg v2 H locs ls hf
      rw [f_X5_fill_27] at hf
      cases hf
    | succ n ih =>
      intro sg v2 H locs ls hf hP hS hl
      rw [f_X5_fill_27] at hf
      refine lv_iload_n hx hb dX5_fill_27 rfl (lv_at hl 2 rfl) ?_
      refine lv_aload_n hx hb dX5_fill_28 rfl (lv_at hl 0 rfl) ?_
      refine gf_X5_137 hx hb hts hown hK hP dX5_fill_29 ?_
      refine lv_icmp_ge (tgt := 66) hx hb dX5_fill_32 (by decide) (fun c6 => ?_) (fun c6 => ?_)
      · have hf := if_t c6 hf
        refine lv_iconst (v := (0 : Int32)) hx hb dX5_fill_66 (by decide) ?_
        refine lv_istore_n (lv' := [(2, .int (0 : Int32)), (0, .ref (ad 30)), (1, .int a1)]) hx hb dX5_fill_67 rfl hl (by decide) rfl (fun ls hl => ?_)
        exact hL_68 64 sg (0 : Int32) _ _ _ hf hP hS (lv_sub hl [1, 2, 0] rfl)
      · have hf := if_f c6 hf
        refine lv_aload_n hx hb dX5_fill_35 rfl (lv_at hl 0 rfl) ?_
        refine lv_iload_n hx hb dX5_fill_36 rfl (lv_at hl 2 rfl) ?_
        refine lv_iload_n hx hb dX5_fill_37 rfl (lv_at hl 1 rfl) ?_
        obtain ⟨r8, q7, hf⟩ := bd_so hf
        refine cl_i (va_runV (As := [.int v2, .int a1]) (rest := []) ⟨hx, hb, hml, hown, hts⟩ (c_X5_isOpenOn l g ad X _ sg v2 a1 r8 q7) (cwV 2 hts gl_X5_295 rfl rfl rfl yd_X5_isOpenOn ⟨Nat.le_of_ble_eq_true rfl, Nat.le_of_ble_eq_true rfl⟩) (preV_of hK hP (hD sg) (dd_at (by decide) cc_30) rfl) rfl rfl hl.1 rfl (lv_room (Nat.le_of_ble_eq_true rfl)) dX5_fill_38 ⟨Nat.le_of_ble_eq_true rfl, Nat.le_of_ble_eq_true rfl⟩) hS (fun q h => dd_A_mono hS.1 h) (fun q h => dd_A_mono hS.1 h) (fun H locs hP hS => ?_)
        refine lv_if_eq (tgt := 60) hx hb dX5_fill_41 (by decide) (fun c9 => ?_) (fun c9 => ?_)
        · have hf := if_t c9 hf
          exact hL_60 (fun zs z0 => f_X5_fill_27 a1 n zs z0) ih sg v2 _ _ _ hf hP hS (lv_sub hl [0, 1, 2] rfl)
        · have hf := if_f c9 hf
          refine lv_aload_n hx hb dX5_fill_44 rfl (lv_at hl 0 rfl) ?_
          refine gf_X5_49 hx hb hts hown hK hP dX5_fill_45 ?_
          refine lv_aload_n hx hb dX5_fill_48 rfl (lv_at hl 0 rfl) ?_
          refine lv_iload_n hx hb dX5_fill_49 rfl (lv_at hl 2 rfl) ?_
          obtain ⟨r11, q10, hf⟩ := bd_so hf
          refine cl_r (va_runV (As := [.int v2]) (rest := [.ref (ad 36)]) ⟨hx, hb, hml, hown, hts⟩ (c_X5_dutyAt l g ad X _ sg v2 r11 q10) (cwV 1 hts gl_X5_164 rfl rfl rfl yd_X5_dutyAt ⟨Nat.le_of_ble_eq_true rfl, Nat.le_of_ble_eq_true rfl⟩) (preV_of hK hP (hD sg) (dd_at (by decide) cc_30) rfl) rfl rfl hl.1 rfl (lv_room (Nat.le_of_ble_eq_true rfl)) dX5_fill_50 ⟨Nat.le_of_ble_eq_true rfl, Nat.le_of_ble_eq_true rfl⟩) hS (fun q h => dd_A_mono hS.1 h) (fun q h => dd_A_mono hS.1 h) (fun H locs hP hS => ?_)
          have hr11 := lt_X5_dutyAt q10
          refine gf_X5_298 hx hb hts hown hK hP hr11 dX5_fill_53 ?_
          refine lv_iload_n hx hb dX5_fill_56 rfl (lv_at hl 2 rfl) ?_
          obtain ⟨sg13, q12, hf⟩ := bd_so hf
          refine cl_v (va_runV (As := [.int (sg r11 2), .int v2]) (rest := []) ⟨hx, hb, hml, hown, hts⟩ (c_X2_insert l g ad X _ sg (sg r11 2) v2 sg13 q12) (cwV 2 hts gl_X5_212 rfl rfl rfl yd_X2_insert ⟨Nat.le_of_ble_eq_true rfl, Nat.le_of_ble_eq_true rfl⟩) (preV_of hK hP (hD sg) (dd_at (by decide) cc_36) rfl) rfl rfl hl.1 rfl (lv_room (Nat.le_of_ble_eq_true rfl)) dX5_fill_57 ⟨Nat.le_of_ble_eq_true rfl, Nat.le_of_ble_eq_true rfl⟩) hS (fun q h => dd_A_mono hS.1 h) (fun q h => dd_A_mono hS.1 h) (fun H locs hP hS => ?_)
          exact hL_60 (fun zs z0 => f_X5_fill_27 a1 n zs z0) ih sg13 v2 _ _ _ hf hP hS (lv_sub hl [0, 1, 2] rfl)
  unfold f_X5_fill at hf
  have hl := lv_entry ([.ref (ad 30), .int a1]) (n := 3) (Nat.le_of_ble_eq_true rfl)
  rw [lg_entry_eq]
  generalize (lg_sl ([.ref (ad 30), .int a1]) ++ List.replicate (3 - (lg_sl ([.ref (ad 30), .int a1])).length) Slot.unset).toArray = ls at hl ⊢
  have hl : lv_has ls 3 [(0, .ref (ad 30)), (1, .int a1)] := hl
  refine lv_iload_n hx hb dX5_fill_0 rfl (lv_at hl 1 rfl) ?_
  obtain ⟨r2, q1, hf⟩ := bd_so hf
  refine cl_i (va_runS (As := [.int a1]) (rest := []) ⟨hx, hb, hml, hown, hts⟩ (c_X5_isDay l g ad X _ sg a1 r2 q1) (cwS 1 hts gl_X5_269 rfl rfl rfl yd_X5_isDay ⟨Nat.le_of_ble_eq_true rfl, Nat.le_of_ble_eq_true rfl⟩) (preS_of hK hP (hD sg)) rfl rfl hl.1 rfl (lv_room (Nat.le_of_ble_eq_true rfl)) dX5_fill_1 ⟨Nat.le_of_ble_eq_true rfl, Nat.le_of_ble_eq_true rfl⟩) hS (fun q h => dd_A_mono hS.1 h) (fun q h => dd_A_mono hS.1 h) (fun H locs hP hS => ?_)
  refine lv_if_ne (tgt := 18) hx hb dX5_fill_4 (by decide) (fun c3 => ?_) (fun c3 => ?_)
  · have hf := if_f c3 hf
    refine lv_aload_n hx hb dX5_fill_18 rfl (lv_at hl 0 rfl) ?_
    refine gf_X5_49 hx hb hts hown hK hP dX5_fill_19 ?_
    obtain ⟨sg5, q4, hf⟩ := bd_so hf
    refine cl_v (va_runV (As := []) (rest := []) ⟨hx, hb, hml, hown, hts⟩ (c_X2_clear l g ad X _ sg sg5 q4) (cwV 0 hts gl_X5_206 rfl rfl rfl yd_X2_clear ⟨Nat.le_of_ble_eq_true rfl, Nat.le_of_ble_eq_true rfl⟩) (preV_of hK hP (hD sg) (dd_at (by decide) cc_36) rfl) rfl rfl hl.1 rfl (lv_room (Nat.le_of_ble_eq_true rfl)) dX5_fill_22 ⟨Nat.le_of_ble_eq_true rfl, Nat.le_of_ble_eq_true rfl⟩) hS (fun q h => dd_A_mono hS.1 h) (fun q h => dd_A_mono hS.1 h) (fun H locs hP hS => ?_)
    refine lv_iconst (v := (0 : Int32)) hx hb dX5_fill_25 (by decide) ?_
    refine lv_istore_n (lv' := [(2, .int (0 : Int32)), (0, .ref (ad 30)), (1, .int a1)]) hx hb dX5_fill_26 rfl hl (by decide) rfl (fun ls hl => ?_)
    exact hL_27 64 sg5 (0 : Int32) _ _ _ hf hP hS (lv_sub hl [1, 2, 0] rfl)
  · have hf := if_t c3 hf
    obtain ⟨rfl, rfl, rfl⟩ := so3 hf
    exact T_throw1W (is := 293) (text := "no such day") hx hb hst hown hts hK hXF (dd_str 23) hP hS (hl.1.trans hml.symm) dX5_fill_7 dX5_fill_10 dX5_fill_11 dX5_fill_14 dX5_fill_17 hnone (Nat.le_of_ble_eq_true rfl) (Nat.le_of_ble_eq_true rfl) (Nat.le_of_ble_eq_true rfl) (Nat.le_of_ble_eq_true rfl) hlocks
set_option maxHeartbeats 4000000 in
set_option maxRecDepth 100000 in
theorem c_X5_week (l : Launch) (hst : l.stackTraces = false) (g : dd_G) (ad : Nat → Nat) (X : va_W) (sz : Nat) (sg : dd_S) (a1 : Int32) (k0 : Nat) (r0 : Int32) (s0 : dd_S) (hf : f_X5_week sg a1 = some (k0, r0, s0)) : vx_Met l yX5_week (lw_ws yX5_week cX5_week 2 (some .int)) ({ frames := 6, cells := 1, slots := 6, locals := 82 } : Room) (va_Pc [.ref (ad 30), .int a1] (PreX g 59 ad X (WC g ad sg ++ X) sz)) (QXI g (WC g ad s0 ++ X) (dd_A 59 ad X sz) k0 r0) (XCx g (WC g ad s0 ++ X) (dd_A 59 ad X sz) k0) 1 6 (dd_A 59 ad X sz) := by
  refine vx_ofW (cc := cX5_week) (maxL := 2) (ret := some .int) (by decide) rfl ?_
  intro p e s m args below meth c s₁ B hml hnone hv
  obtain ⟨rfl, ⟨rfl, hP, hK, hD0⟩, hXF⟩ := hv
  have hx := B.exec
  have hb := B.bytes
  have hr := B.returns
  have hts := atoms_spec (ws := (lw_ws yX5_week cX5_week 2 (some .int))) B.pre
  have hts : ∀ w ∈ lw_all, w.before _ s = true := fun w h => hts w (List.mem_cons_of_mem _ h)
  have hown : s.vm.findClass RX5 = some m.cls := findClass_of_methodNamed B.named
  have hlocks := B.notSynchronized
  have hD : ∀ s2 : dd_S, va_D (dd_A 59 ad X s.heap.size) (WC g ad s2 ++ X) := fun s2 => dd_D (dd_A_D hD0)
  have hS : va_S (dd_A 59 ad X s.heap.size) s.heap s.heap [] := va_S.rf
  unfold f_X5_week at hf
  have hl := lv_entry ([.ref (ad 30), .int a1]) (n := 2) (Nat.le_of_ble_eq_true rfl)
  rw [lg_entry_eq]
  generalize (lg_sl ([.ref (ad 30), .int a1]) ++ List.replicate (2 - (lg_sl ([.ref (ad 30), .int a1])).length) Slot.unset).toArray = ls at hl ⊢
  have hl : lv_has ls 2 [(0, .ref (ad 30)), (1, .int a1)] := hl
  refine lv_aload_n hx hb dX5_week_0 rfl (lv_at hl 0 rfl) ?_
  refine lv_iload_n hx hb dX5_week_1 rfl (lv_at hl 1 rfl) ?_
  obtain ⟨r2, q1, hf⟩ := bd_so hf
  refine cl_i (va_runV (As := [.int a1]) (rest := []) ⟨hx, hb, hml, hown, hts⟩ (c_X5_isDriver l g ad X _ sg a1 r2 q1) (cwV 1 hts gl_X5_266 rfl rfl rfl yd_X5_isDriver ⟨Nat.le_of_ble_eq_true rfl, Nat.le_of_ble_eq_true rfl⟩) (preV_of hK hP (hD sg) (dd_at (by decide) cc_30) rfl) rfl rfl hl.1 rfl (lv_room (Nat.le_of_ble_eq_true rfl)) dX5_week_2 ⟨Nat.le_of_ble_eq_true rfl, Nat.le_of_ble_eq_true rfl⟩) hS (fun q h => dd_A_mono hS.1 h) (fun q h => dd_A_mono hS.1 h) (fun H locs hP hS => ?_)
  refine lv_if_ne (tgt := 19) hx hb dX5_week_5 (by decide) (fun c3 => ?_) (fun c3 => ?_)
  · have hf := if_f c3 hf
    refine lv_aload_n hx hb dX5_week_19 rfl (lv_at hl 0 rfl) ?_
    refine lv_iload_n hx hb dX5_week_20 rfl (lv_at hl 1 rfl) ?_
    obtain ⟨r5, q4, hf⟩ := bd_so hf
    refine cl_i (va_runV (As := [.int a1]) (rest := []) ⟨hx, hb, hml, hown, hts⟩ (c_X5_weekPay l g ad X _ sg a1 r5 q4) (cwV 1 hts gl_X5_283 rfl rfl rfl yd_X5_weekPay ⟨Nat.le_of_ble_eq_true rfl, Nat.le_of_ble_eq_true rfl⟩) (preV_of hK hP (hD sg) (dd_at (by decide) cc_30) rfl) rfl rfl hl.1 rfl (lv_room (Nat.le_of_ble_eq_true rfl)) dX5_week_21 ⟨Nat.le_of_ble_eq_true rfl, Nat.le_of_ble_eq_true rfl⟩) hS (fun q h => dd_A_mono hS.1 h) (fun q h => dd_A_mono hS.1 h) (fun H locs hP hS => ?_)
    refine W.widen (k := 1) (n := 6) (by decide) (by decide) ?_
    refine vx_ret ?_
    exact W.iret (v := r5) hx hb hr (fun t ht hW => ⟨⟨r5, (), rfl, ⟨(so3 hf).1.symm, (so3 hf).2.1⟩, P_at2 (so3 hf).2.2 ht hP⟩, hS.F ht⟩) hS.2.2 dX5_week_24
  · have hf := if_t c3 hf
    obtain ⟨rfl, rfl, rfl⟩ := so3 hf
    exact T_throw1W (is := 307) (text := "no such driver") hx hb hst hown hts hK hXF (dd_str 24) hP hS (hl.1.trans hml.symm) dX5_week_8 dX5_week_11 dX5_week_12 dX5_week_15 dX5_week_18 hnone (Nat.le_of_ble_eq_true rfl) (Nat.le_of_ble_eq_true rfl) (Nat.le_of_ble_eq_true rfl) (Nat.le_of_ble_eq_true rfl) hlocks
set_option maxHeartbeats 4000000 in
set_option maxRecDepth 100000 in
theorem c_X5_rest (l : Launch) (hst : l.stackTraces = false) (g : dd_G) (ad : Nat → Nat) (X : va_W) (sz : Nat) (sg : dd_S) (a1 : Int32) (a2 : Int32) (k0 : Nat) (r0 : Int32) (s0 : dd_S) (hf : f_X5_rest sg a1 a2 = some (k0, r0, s0)) : vx_Met l yX5_rest (lw_ws yX5_rest cX5_rest 5 (some .int)) ({ frames := 6, cells := 1, slots := 6, locals := 82 } : Room) (va_Pc [.ref (ad 30), .int a1, .int a2] (PreX g 59 ad X (WC g ad sg ++ X) sz)) (QXI g (WC g ad s0 ++ X) (dd_A 59 ad X sz) k0 r0) (XCx g (WC g ad s0 ++ X) (dd_A 59 ad X sz) k0) 1 6 (dd_A 59 ad X sz) := by
  refine vx_ofW (cc := cX5_rest) (maxL := 5) (ret := some .int) (by decide) rfl ?_
  intro p e s m args below meth c s₁ B hml hnone hv
  obtain ⟨rfl, ⟨rfl, hP, hK, hD0⟩, hXF⟩ := hv
  have hx := B.exec
  have hb := B.bytes
  have hr := B.returns
  have hts := atoms_spec (ws := (lw_ws yX5_rest cX5_rest 5 (some .int))) B.pre
  have hts : ∀ w ∈ lw_all, w.before _ s = true := fun w h => hts w (List.mem_cons_of_mem _ h)
  have hown : s.vm.findClass RX5 = some m.cls := findClass_of_methodNamed B.named
  have hlocks := B.notSynchronized
  have hD : ∀ s2 : dd_S, va_D (dd_A 59 ad X s.heap.size) (WC g ad s2 ++ X) := fun s2 => dd_D (dd_A_D hD0)
  have hS : va_S (dd_A 59 ad X s.heap.size) s.heap s.heap [] := va_S.rf
  have hL_19 : ∀ (sg : dd_S) (H : Heap) (locs : List Loc) (ls : Array Slot), f_X5_rest_19 a1 a2 sg = some (k0, r0, s0) → va_P g.1 vwCl (WC g ad sg ++ X) H → va_S (dd_A 59 ad X s.heap.size) s.heap H locs → lv_has ls 5 [] → W p l e (headSpec (lw_ws yX5_rest cX5_rest 5 (some .int)) ({ frames := 6, cells := 1, slots := 6, locals := 82 } : Room)).room s m ([.ref (ad 30), .int a1, .int a2] : List Value).toArray below meth c H locs 0 0 (vx_MQ below (QXI g (WC g ad s0 ++ X) (dd_A 59 ad X s.heap.size) k0 r0) (XCx g (WC g ad s0 ++ X) (dd_A 59 ad X s.heap.size) k0) ([.ref (ad 30), .int a1, .int a2] : List Value).toArray s 1 6 (dd_A 59 ad X s.heap.size)) (F0 m 19 ls []) := by
    intro sg H locs ls hf hP hS hl
    unfold f_X5_rest_19 at hf
    obtain ⟨rfl, rfl, rfl⟩ := so3 hf
    exact T_throw1W (is := 309) (text := "no such driver, or day is not 1 to 6") hx hb hst hown hts hK hXF (dd_str 25) hP hS (hl.1.trans hml.symm) dX5_rest_19 dX5_rest_22 dX5_rest_23 dX5_rest_26 dX5_rest_29 hnone (Nat.le_of_ble_eq_true rfl) (Nat.le_of_ble_eq_true rfl) (Nat.le_of_ble_eq_true rfl) (Nat.le_of_ble_eq_true rfl) hlocks
  have hL_69 : ∀ (sg : dd_S) (t0 : Int32) (H : Heap) (locs : List Loc) (ls : Array Slot), f_X5_rest_69 a1 a2 sg t0 = some (k0, r0, s0) → va_P g.1 vwCl (WC g ad sg ++ X) H → va_S (dd_A 59 ad X s.heap.size) s.heap H locs → lv_has ls 5 [] → W p l e (headSpec (lw_ws yX5_rest cX5_rest 5 (some .int)) ({ frames := 6, cells := 1, slots := 6, locals := 82 } : Room)).room s m ([.ref (ad 30), .int a1, .int a2] : List Value).toArray below meth c H locs 0 0 (vx_MQ below (QXI g (WC g ad s0 ++ X) (dd_A 59 ad X s.heap.size) k0 r0) (XCx g (WC g ad s0 ++ X) (dd_A 59 ad X s.heap.size) k0) ([.ref (ad 30), .int a1, .int a2] : List Value).toArray s 1 6 (dd_A 59 ad X s.heap.size)) (F0 m 69 ls [.int t0]) := by
    intro sg t0 H locs ls hf hP hS hl
    unfold f_X5_rest_69 at hf
    refine W.widen (k := 1) (n := 6) (by decide) (by decide) ?_
    refine vx_ret ?_
    exact W.iret (v := t0) hx hb hr (fun t ht hW => ⟨⟨t0, (), rfl, ⟨(so3 hf).1.symm, (so3 hf).2.1⟩, P_at2 (so3 hf).2.2 ht hP⟩, hS.F ht⟩) hS.2.2 dX5_rest_69
  have hL_58 : ∀ (sg : dd_S) (H : Heap) (locs : List Loc) (ls : Array Slot), f_X5_rest_58 a1 a2 sg = some (k0, r0, s0) → va_P g.1 vwCl (WC g ad sg ++ X) H → va_S (dd_A 59 ad X s.heap.size) s.heap H locs → lv_has ls 5 [] → W p l e (headSpec (lw_ws yX5_rest cX5_rest 5 (some .int)) ({ frames := 6, cells := 1, slots := 6, locals := 82 } : Room)).room s m ([.ref (ad 30), .int a1, .int a2] : List Value).toArray below meth c H locs 0 0 (vx_MQ below (QXI g (WC g ad s0 ++ X) (dd_A 59 ad X s.heap.size) k0 r0) (XCx g (WC g ad s0 ++ X) (dd_A 59 ad X s.heap.size) k0) ([.ref (ad 30), .int a1, .int a2] : List Value).toArray s 1 6 (dd_A 59 ad X s.heap.size)) (F0 m 58 ls []) := by
    intro sg H locs ls hf hP hS hl
    unfold f_X5_rest_58 at hf
    refine lv_iconst (v := (-1 : Int32)) hx hb dX5_rest_58 (by decide) ?_
    refine lv_goto (tgt := 69) hx hb dX5_rest_59 (by decide) ?_
    exact hL_69 sg (-1 : Int32) _ _ _ hf hP hS (lv_sub hl [] rfl)
  unfold f_X5_rest at hf
  have hl := lv_entry ([.ref (ad 30), .int a1, .int a2]) (n := 5) (Nat.le_of_ble_eq_true rfl)
  rw [lg_entry_eq]
  generalize (lg_sl ([.ref (ad 30), .int a1, .int a2]) ++ List.replicate (5 - (lg_sl ([.ref (ad 30), .int a1, .int a2])).length) Slot.unset).toArray = ls at hl ⊢
  have hl : lv_has ls 5 [(0, .ref (ad 30)), (1, .int a1), (2, .int a2)] := hl
  refine lv_aload_n hx hb dX5_rest_0 rfl (lv_at hl 0 rfl) ?_
  refine lv_iload_n hx hb dX5_rest_1 rfl (lv_at hl 1 rfl) ?_
  obtain ⟨r2, q1, hf⟩ := bd_so hf
  refine cl_i (va_runV (As := [.int a1]) (rest := []) ⟨hx, hb, hml, hown, hts⟩ (c_X5_isDriver l g ad X _ sg a1 r2 q1) (cwV 1 hts gl_X5_266 rfl rfl rfl yd_X5_isDriver ⟨Nat.le_of_ble_eq_true rfl, Nat.le_of_ble_eq_true rfl⟩) (preV_of hK hP (hD sg) (dd_at (by decide) cc_30) rfl) rfl rfl hl.1 rfl (lv_room (Nat.le_of_ble_eq_true rfl)) dX5_rest_2 ⟨Nat.le_of_ble_eq_true rfl, Nat.le_of_ble_eq_true rfl⟩) hS (fun q h => dd_A_mono hS.1 h) (fun q h => dd_A_mono hS.1 h) (fun H locs hP hS => ?_)
  refine lv_if_eq (tgt := 19) hx hb dX5_rest_5 (by decide) (fun c3 => ?_) (fun c3 => ?_)
  · have hf := if_t c3 hf
    exact hL_19 sg _ _ _ hf hP hS (lv_sub hl [] rfl)
  · have hf := if_f c3 hf
    refine lv_iload_n hx hb dX5_rest_8 rfl (lv_at hl 2 rfl) ?_
    obtain ⟨r5, q4, hf⟩ := bd_so hf
    refine cl_i (va_runS (As := [.int a2]) (rest := []) ⟨hx, hb, hml, hown, hts⟩ (c_X5_isDay l g ad X _ sg a2 r5 q4) (cwS 1 hts gl_X5_269 rfl rfl rfl yd_X5_isDay ⟨Nat.le_of_ble_eq_true rfl, Nat.le_of_ble_eq_true rfl⟩) (preS_of hK hP (hD sg)) rfl rfl hl.1 rfl (lv_room (Nat.le_of_ble_eq_true rfl)) dX5_rest_9 ⟨Nat.le_of_ble_eq_true rfl, Nat.le_of_ble_eq_true rfl⟩) hS (fun q h => dd_A_mono hS.1 h) (fun q h => dd_A_mono hS.1 h) (fun H locs hP hS => ?_)
    refine lv_if_eq (tgt := 19) hx hb dX5_rest_12 (by decide) (fun c6 => ?_) (fun c6 => ?_)
    · have hf := if_t c6 hf
      exact hL_19 sg _ _ _ hf hP hS (lv_sub hl [] rfl)
    · have hf := if_f c6 hf
      refine lv_iload_n hx hb dX5_rest_15 rfl (lv_at hl 2 rfl) ?_
      refine lv_if_ne (tgt := 30) hx hb dX5_rest_16 (by decide) (fun c7 => ?_) (fun c7 => ?_)
      · have hf := if_f c7 hf
        refine lv_aload_n hx hb dX5_rest_30 rfl (lv_at hl 0 rfl) ?_
        refine lv_iload_n hx hb dX5_rest_31 rfl (lv_at hl 1 rfl) ?_
        refine lv_iload_n hx hb dX5_rest_32 rfl (lv_at hl 2 rfl) ?_
        refine lv_iconst (v := (1 : Int32)) hx hb dX5_rest_33 (by decide) ?_
        refine lv_isub hx hb dX5_rest_34 ?_
        obtain ⟨r9, q8, hf⟩ := bd_so hf
        refine cl_i (va_runV (As := [.int a1, .int (a2 - (1 : Int32))]) (rest := []) ⟨hx, hb, hml, hown, hts⟩ (c_X5_dutyOn l g ad X _ sg a1 (a2 - (1 : Int32)) r9 q8) (cwV 2 hts gl_X5_288 rfl rfl rfl yd_X5_dutyOn ⟨Nat.le_of_ble_eq_true rfl, Nat.le_of_ble_eq_true rfl⟩) (preV_of hK hP (hD sg) (dd_at (by decide) cc_30) rfl) rfl rfl hl.1 rfl (lv_room (Nat.le_of_ble_eq_true rfl)) dX5_rest_35 ⟨Nat.le_of_ble_eq_true rfl, Nat.le_of_ble_eq_true rfl⟩) hS (fun q h => dd_A_mono hS.1 h) (fun q h => dd_A_mono hS.1 h) (fun H locs hP hS => ?_)
        refine lv_istore_n (lv' := [(3, .int r9), (0, .ref (ad 30)), (1, .int a1), (2, .int a2)]) hx hb dX5_rest_38 rfl hl (by decide) rfl (fun ls hl => ?_)
        refine lv_aload_n hx hb dX5_rest_39 rfl (lv_at hl 1 rfl) ?_
        refine lv_iload_n hx hb dX5_rest_40 rfl (lv_at hl 2 rfl) ?_
        refine lv_iload_n hx hb dX5_rest_41 rfl (lv_at hl 3 rfl) ?_
        obtain ⟨r11, q10, hf⟩ := bd_so hf
        refine cl_i (va_runV (As := [.int a1, .int a2]) (rest := []) ⟨hx, hb, hml, hown, hts⟩ (c_X5_dutyOn l g ad X _ sg a1 a2 r11 q10) (cwV 2 hts gl_X5_288 rfl rfl rfl yd_X5_dutyOn ⟨Nat.le_of_ble_eq_true rfl, Nat.le_of_ble_eq_true rfl⟩) (preV_of hK hP (hD sg) (dd_at (by decide) cc_30) rfl) rfl rfl hl.1 rfl (lv_room (Nat.le_of_ble_eq_true rfl)) dX5_rest_42 ⟨Nat.le_of_ble_eq_true rfl, Nat.le_of_ble_eq_true rfl⟩) hS (fun q h => dd_A_mono hS.1 h) (fun q h => dd_A_mono hS.1 h) (fun H locs hP hS => ?_)
        refine lv_istore (lv' := [(4, .int r11), (3, .int r9), (0, .ref (ad 30)), (1, .int a1), (2, .int a2)]) hx hb dX5_rest_45 hl (by decide) rfl (fun ls hl => ?_)
        refine lv_iload_n hx hb dX5_rest_47 rfl (lv_at hl 1 rfl) ?_
        refine lv_iconst (v := (-1 : Int32)) hx hb dX5_rest_48 (by decide) ?_
        refine lv_icmp_eq (tgt := 58) hx hb dX5_rest_49 (by decide) (fun c12 => ?_) (fun c12 => ?_)
        · have hf := if_t c12 hf
          exact hL_58 sg _ _ _ hf hP hS (lv_sub hl [] rfl)
        · have hf := if_f c12 hf
          refine lv_iload hx hb dX5_rest_52 (lv_at hl 0 rfl) ?_
          refine lv_iconst (v := (-1 : Int32)) hx hb dX5_rest_54 (by decide) ?_
          refine lv_icmp_ne (tgt := 62) hx hb dX5_rest_55 (by decide) (fun c13 => ?_) (fun c13 => ?_)
          · have hf := if_f c13 hf
            refine lv_aload_n hx hb dX5_rest_62 rfl (lv_at hl 2 rfl) ?_
            refine lv_iload_n hx hb dX5_rest_63 rfl (lv_at hl 1 rfl) ?_
            refine lv_iload hx hb dX5_rest_64 (lv_at hl 0 rfl) ?_
            obtain ⟨r15, q14, hf⟩ := bd_so hf
            refine cl_i (va_runV (As := [.int r9, .int r11]) (rest := []) ⟨hx, hb, hml, hown, hts⟩ (c_X5_restBetween l g ad X _ sg r9 r11 r15 q14) (cwV 2 hts gl_X5_311 rfl rfl rfl yd_X5_restBetween ⟨Nat.le_of_ble_eq_true rfl, Nat.le_of_ble_eq_true rfl⟩) (preV_of hK hP (hD sg) (dd_at (by decide) cc_30) rfl) rfl rfl hl.1 rfl (lv_room (Nat.le_of_ble_eq_true rfl)) dX5_rest_66 ⟨Nat.le_of_ble_eq_true rfl, Nat.le_of_ble_eq_true rfl⟩) hS (fun q h => dd_A_mono hS.1 h) (fun q h => dd_A_mono hS.1 h) (fun H locs hP hS => ?_)
            exact hL_69 sg r15 _ _ _ hf hP hS (lv_sub hl [] rfl)
          · have hf := if_t c13 hf
            exact hL_58 sg _ _ _ hf hP hS (lv_sub hl [] rfl)
      · have hf := if_t c7 hf
        exact hL_19 sg _ _ _ hf hP hS (lv_sub hl [] rfl)
