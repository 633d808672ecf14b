set_option maxHeartbeats 4000000 in
set_option maxRecDepth 100000 in
theorem c_X5_addTrip (l : Launch) (g : dd_G) (ad : Nat → Nat) (X : va_W) (sz : Nat) (sg : dd_S) (a1 : Int32) (a2 : Int32) (a3 : Int32) (a4 : Int32) (r0 : Int32) (s0 : dd_S) (hf : f_X5_addTrip sg a1 a2 a3 a4 = some (r0, s0)) : Met l yX5_addTrip (lw_ws yX5_addTrip cX5_addTrip 5 (some .int)) ({ frames := 1, cells := 0, slots := 0, locals := 24 } : Room) (va_Pc [.ref (ad 30), .int a1, .int a2, .int a3, .int a4] (PreW g (WC g ad sg ++ X) sz)) (QI g (WC g ad s0 ++ X) (dd_A 59 ad X sz) r0) 0 0 (dd_A 59 ad X sz) := by
  refine Met.ofW (cc := cX5_addTrip) (maxL := 5) (ret := some .int) (by decide) rfl ?_
  intro p e s m args below meth c s₁ B hml hv
  obtain ⟨rfl, rfl, hP, hK, hD0⟩ := hv
  have hx := B.exec
  have hb := B.bytes
  have hr := B.returns
  have hts := atoms_spec (ws := (lw_ws yX5_addTrip cX5_addTrip 5 (some .int))) B.pre
  have hts : ∀ w ∈ lw_all, w.before _ s = true := fun w h => hts w (List.mem_cons_of_mem _ h)
  have hown : s.vm.findClass RX5 = some m.cls := findClass_of_methodNamed B.named
  have hlocks := B.notSynchronized
  have hD : ∀ s2 : dd_S, va_D (dd_A 59 ad X s.heap.size) (WC g ad s2 ++ X) := fun s2 => dd_D (dd_A_D hD0)
  have hS : va_S (dd_A 59 ad X s.heap.size) s.heap s.heap [] := va_S.rf
  have hL_14 : ∀ (sg : dd_S) (H : Heap) (locs : List Loc) (ls : Array Slot), f_X5_addTrip_14 a1 a2 a3 a4 sg = some (r0, s0) → va_P g.1 vwCl (WC g ad sg ++ X) H → va_S (dd_A 59 ad X s.heap.size) s.heap H locs → lv_has ls 5 [] → W p l e (headSpec (lw_ws yX5_addTrip cX5_addTrip 5 (some .int)) ({ frames := 1, cells := 0, slots := 0, locals := 24 } : Room)).room s m ([.ref (ad 30), .int a1, .int a2, .int a3, .int a4] : List Value).toArray below meth c H locs 0 0 (MQ below (QI g (WC g ad s0 ++ X) (dd_A 59 ad X s.heap.size) r0) ([.ref (ad 30), .int a1, .int a2, .int a3, .int a4] : List Value).toArray s 0 0 (dd_A 59 ad X s.heap.size)) (F0 m 14 ls []) := by
    intro sg H locs ls hf hP hS hl
    unfold f_X5_addTrip_14 at hf
    cases hf
  unfold f_X5_addTrip at hf
  have hl := lv_entry ([.ref (ad 30), .int a1, .int a2, .int a3, .int a4]) (n := 5) (Nat.le_of_ble_eq_true rfl)
  rw [lg_entry_eq]
  generalize (lg_sl ([.ref (ad 30), .int a1, .int a2, .int a3, .int a4]) ++ List.replicate (5 - (lg_sl ([.ref (ad 30), .int a1, .int a2, .int a3, .int a4])).length) Slot.unset).toArray = ls at hl ⊢
  have hl : lv_has ls 5 [(0, .ref (ad 30)), (1, .int a1), (2, .int a2), (3, .int a3), (4, .int a4)] := hl
  refine lv_iload_n hx hb dX5_addTrip_0 rfl (lv_at hl 1 rfl) ?_
  obtain ⟨r2, q1, hf⟩ := bd_so hf
  refine cl_i (va_runS (As := [.int a1]) (rest := []) ⟨hx, hb, hml, hown, hts⟩ (c_X5_isPoint l g ad X _ sg a1 r2 q1) (cwS 1 hts gl_X5_63 rfl rfl rfl yd_X5_isPoint ⟨Nat.le_of_ble_eq_true rfl, Nat.le_of_ble_eq_true rfl⟩) (preS_of hK hP (hD sg)) rfl rfl hl.1 rfl (lv_room (Nat.le_of_ble_eq_true rfl)) dX5_addTrip_1 ⟨Nat.le_of_ble_eq_true rfl, Nat.le_of_ble_eq_true rfl⟩) hS (fun q h => dd_A_mono hS.1 h) (fun q h => dd_A_mono hS.1 h) (fun H locs hP hS => ?_)
  refine lv_if_eq (tgt := 14) hx hb dX5_addTrip_4 (by decide) (fun c3 => ?_) (fun c3 => ?_)
  · have hf := if_t c3 hf
    exact hL_14 sg _ _ _ hf hP hS (lv_sub hl [] rfl)
  · have hf := if_f c3 hf
    refine lv_iload_n hx hb dX5_addTrip_7 rfl (lv_at hl 2 rfl) ?_
    obtain ⟨r5, q4, hf⟩ := bd_so hf
    refine cl_i (va_runS (As := [.int a2]) (rest := []) ⟨hx, hb, hml, hown, hts⟩ (c_X5_isPoint l g ad X _ sg a2 r5 q4) (cwS 1 hts gl_X5_63 rfl rfl rfl yd_X5_isPoint ⟨Nat.le_of_ble_eq_true rfl, Nat.le_of_ble_eq_true rfl⟩) (preS_of hK hP (hD sg)) rfl rfl hl.1 rfl (lv_room (Nat.le_of_ble_eq_true rfl)) dX5_addTrip_8 ⟨Nat.le_of_ble_eq_true rfl, Nat.le_of_ble_eq_true rfl⟩) hS (fun q h => dd_A_mono hS.1 h) (fun q h => dd_A_mono hS.1 h) (fun H locs hP hS => ?_)
    refine lv_if_ne (tgt := 24) hx hb dX5_addTrip_11 (by decide) (fun c6 => ?_) (fun c6 => ?_)
    · have hf := if_f c6 hf
      refine lv_iload_n hx hb dX5_addTrip_24 rfl (lv_at hl 3 rfl) ?_
      refine lv_iload hx hb dX5_addTrip_25 (lv_at hl 4 rfl) ?_
      obtain ⟨r8, q7, hf⟩ := bd_so hf
      refine cl_i (va_runS (As := [.int a3, .int a4]) (rest := []) ⟨hx, hb, hml, hown, hts⟩ (c_X5_areTimesOfTrip l g ad X _ sg a3 a4 r8 q7) (cwS 2 hts gl_X5_90 rfl rfl rfl yd_X5_areTimesOfTrip ⟨Nat.le_of_ble_eq_true rfl, Nat.le_of_ble_eq_true rfl⟩) (preS_of hK hP (hD sg)) rfl rfl hl.1 rfl (lv_room (Nat.le_of_ble_eq_true rfl)) dX5_addTrip_27 ⟨Nat.le_of_ble_eq_true rfl, Nat.le_of_ble_eq_true rfl⟩) hS (fun q h => dd_A_mono hS.1 h) (fun q h => dd_A_mono hS.1 h) (fun H locs hP hS => ?_)
      refine lv_if_ne (tgt := 43) hx hb dX5_addTrip_30 (by decide) (fun c9 => ?_) (fun c9 => ?_)
      · have hf := if_f c9 hf
        refine lv_aload_n hx hb dX5_addTrip_43 rfl (lv_at hl 0 rfl) ?_
        refine gf_X5_10 hx hb hts hown hK hP dX5_addTrip_44 ?_
        refine gf_X5_96 hx hb hts hown hK hP dX5_addTrip_47 ?_
        refine lv_bipush (v := (40 : Int32)) hx hb dX5_addTrip_50 (by decide) ?_
        refine lv_icmp_lt (tgt := 65) hx hb dX5_addTrip_52 (by decide) (fun c10 => ?_) (fun c10 => ?_)
        · have hf := if_t c10 hf
          refine lv_aload_n hx hb dX5_addTrip_65 rfl (lv_at hl 0 rfl) ?_
          refine gf_X5_10 hx hb hts hown hK hP dX5_addTrip_66 ?_
          refine lv_iload_n hx hb dX5_addTrip_69 rfl (lv_at hl 1 rfl) ?_
          refine lv_iload_n hx hb dX5_addTrip_70 rfl (lv_at hl 2 rfl) ?_
          refine lv_iload_n hx hb dX5_addTrip_71 rfl (lv_at hl 3 rfl) ?_
          refine lv_iload hx hb dX5_addTrip_72 (lv_at hl 4 rfl) ?_
          obtain ⟨r13, sg12, q11, hf⟩ := bd2_so hf
          refine cl_i (va_runV (As := [.int a1, .int a2, .int a3, .int a4]) (rest := []) ⟨hx, hb, hml, hown, hts⟩ (c_X4_append l g ad X _ sg a1 a2 a3 a4 r13 sg12 q11) (cwV 4 hts gl_X5_105 rfl rfl rfl yd_X4_append ⟨Nat.le_of_ble_eq_true rfl, Nat.le_of_ble_eq_true rfl⟩) (preV_of hK hP (hD sg) (dd_at (by decide) cc_31) rfl) rfl rfl hl.1 rfl (lv_room (Nat.le_of_ble_eq_true rfl)) dX5_addTrip_74 ⟨Nat.le_of_ble_eq_true rfl, Nat.le_of_ble_eq_true rfl⟩) hS (fun q h => dd_A_mono hS.1 h) (fun q h => dd_A_mono hS.1 h) (fun H locs hP hS => ?_)
          exact W.iret (v := r13) hx hb hr (fun t ht hW => ⟨⟨r13, (), rfl, (so2 hf).1, P_at2 (so2 hf).2 ht hP⟩, hS.F ht⟩) hS.2.2 dX5_addTrip_77
        · have hf := if_f c10 hf
          cases hf
      · have hf := if_t c9 hf
        cases hf
    · have hf := if_t c6 hf
      exact hL_14 sg _ _ _ hf hP hS (lv_sub hl [] rfl)
set_option maxHeartbeats 4000000 in
set_option maxRecDepth 100000 in
theorem c_X5_trip (l : Launch) (g : dd_G) (ad : Nat → Nat) (X : va_W) (sz : Nat) (sg : dd_S) (a1 : Int32) (a2 : Int32) (r0 : Int32) (hf : f_X5_trip sg a1 a2 = some (r0)) : Met l yX5_trip (lw_ws yX5_trip cX5_trip 3 (some .int)) ({ frames := 2, cells := 0, slots := 0, locals := 43 } : Room) (va_Pc [.ref (ad 30), .int a1, .int a2] (PreW g (WC g ad sg ++ X) sz)) (QI g (WC g ad sg ++ X) (dd_A 59 ad X sz) r0) 0 0 (dd_A 59 ad X sz) := by
  refine Met.ofW (cc := cX5_trip) (maxL := 3) (ret := some .int) (by decide) rfl ?_
  intro p e s m args below meth c s₁ B hml hv
  obtain ⟨rfl, rfl, hP, hK, hD0⟩ := hv
  have hx := B.exec
  have hb := B.bytes
  have hr := B.returns
  have hts := atoms_spec (ws := (lw_ws yX5_trip cX5_trip 3 (some .int))) B.pre
  have hts : ∀ w ∈ lw_all, w.before _ s = true := fun w h => hts w (List.mem_cons_of_mem _ h)
  have hown : s.vm.findClass RX5 = some m.cls := findClass_of_methodNamed B.named
  have hlocks := B.notSynchronized
  have hD : ∀ s2 : dd_S, va_D (dd_A 59 ad X s.heap.size) (WC g ad s2 ++ X) := fun s2 => dd_D (dd_A_D hD0)
  have hS : va_S (dd_A 59 ad X s.heap.size) s.heap s.heap [] := va_S.rf
  have hL_17 : ∀ (H : Heap) (locs : List Loc) (ls : Array Slot), f_X5_trip_17 sg a1 a2 = some (r0) → va_P g.1 vwCl (WC g ad sg ++ X) H → va_S (dd_A 59 ad X s.heap.size) s.heap H locs → lv_has ls 3 [] → W p l e (headSpec (lw_ws yX5_trip cX5_trip 3 (some .int)) ({ frames := 2, cells := 0, slots := 0, locals := 43 } : Room)).room s m ([.ref (ad 30), .int a1, .int a2] : List Value).toArray below meth c H locs 0 0 (MQ below (QI g (WC g ad sg ++ X) (dd_A 59 ad X s.heap.size) r0) ([.ref (ad 30), .int a1, .int a2] : List Value).toArray s 0 0 (dd_A 59 ad X s.heap.size)) (F0 m 17 ls []) := by
    intro H locs ls hf hP hS hl
    unfold f_X5_trip_17 at hf
    cases hf
  unfold f_X5_trip at hf
  have hl := lv_entry ([.ref (ad 30), .int a1, .int a2]) (n := 3) (Nat.le_of_ble_eq_true rfl)
  rw [lg_entry_eq]
  generalize (lg_sl ([.ref (ad 30), .int a1, .int a2]) ++ List.replicate (3 - (lg_sl ([.ref (ad 30), .int a1, .int a2])).length) Slot.unset).toArray = ls at hl ⊢
  have hl : lv_has ls 3 [(0, .ref (ad 30)), (1, .int a1), (2, .int a2)] := hl
  refine lv_aload_n hx hb dX5_trip_0 rfl (lv_at hl 0 rfl) ?_
  refine lv_iload_n hx hb dX5_trip_1 rfl (lv_at hl 1 rfl) ?_
  obtain ⟨r2, q1, hf⟩ := bd_so hf
  refine cl_i (va_runV (As := [.int a1]) (rest := []) ⟨hx, hb, hml, hown, hts⟩ (c_X5_isTrip l g ad X _ sg a1 r2 q1) (cwV 1 hts gl_X5_109 rfl rfl rfl yd_X5_isTrip ⟨Nat.le_of_ble_eq_true rfl, Nat.le_of_ble_eq_true rfl⟩) (preV_of hK hP (hD sg) (dd_at (by decide) cc_30) rfl) rfl rfl hl.1 rfl (lv_room (Nat.le_of_ble_eq_true rfl)) dX5_trip_2 ⟨Nat.le_of_ble_eq_true rfl, Nat.le_of_ble_eq_true rfl⟩) hS (fun q h => dd_A_mono hS.1 h) (fun q h => dd_A_mono hS.1 h) (fun H locs hP hS => ?_)
  refine lv_if_eq (tgt := 17) hx hb dX5_trip_5 (by decide) (fun c3 => ?_) (fun c3 => ?_)
  · have hf := if_t c3 hf
    exact hL_17 _ _ _ hf hP hS (lv_sub hl [] rfl)
  · have hf := if_f c3 hf
    refine lv_iload_n hx hb dX5_trip_8 rfl (lv_at hl 2 rfl) ?_
    refine lv_if_lt (tgt := 17) hx hb dX5_trip_9 (by decide) (fun c4 => ?_) (fun c4 => ?_)
    · have hf := if_t c4 hf
      exact hL_17 _ _ _ hf hP hS (lv_sub hl [] rfl)
    · have hf := if_f c4 hf
      refine lv_iload_n hx hb dX5_trip_12 rfl (lv_at hl 2 rfl) ?_
      refine lv_iconst (v := (5 : Int32)) hx hb dX5_trip_13 (by decide) ?_
      refine lv_icmp_lt (tgt := 27) hx hb dX5_trip_14 (by decide) (fun c5 => ?_) (fun c5 => ?_)
      · have hf := if_t c5 hf
        refine lv_aload_n hx hb dX5_trip_27 rfl (lv_at hl 0 rfl) ?_
        refine lv_iload_n hx hb dX5_trip_28 rfl (lv_at hl 1 rfl) ?_
        refine lv_iload_n hx hb dX5_trip_29 rfl (lv_at hl 2 rfl) ?_
        obtain ⟨r7, q6, hf⟩ := bd_so hf
        refine cl_i (va_runV (As := [.int a1, .int a2]) (rest := []) ⟨hx, hb, hml, hown, hts⟩ (c_X5_tripFact l g ad X _ sg a1 a2 r7 q6) (cwV 2 hts gl_X5_114 rfl rfl rfl yd_X5_tripFact ⟨Nat.le_of_ble_eq_true rfl, Nat.le_of_ble_eq_true rfl⟩) (preV_of hK hP (hD sg) (dd_at (by decide) cc_30) rfl) rfl rfl hl.1 rfl (lv_room (Nat.le_of_ble_eq_true rfl)) dX5_trip_30 ⟨Nat.le_of_ble_eq_true rfl, Nat.le_of_ble_eq_true rfl⟩) hS (fun q h => dd_A_mono hS.1 h) (fun q h => dd_A_mono hS.1 h) (fun H locs hP hS => ?_)
        exact W.iret (v := r7) hx hb hr (fun t ht hW => ⟨⟨r7, (), rfl, so1 hf, P_at ht hP⟩, hS.F ht⟩) hS.2.2 dX5_trip_33
      · have hf := if_f c5 hf
        exact hL_17 _ _ _ hf hP hS (lv_sub hl [] rfl)
set_option maxHeartbeats 4000000 in
set_option maxRecDepth 100000 in
theorem c_X5_count (l : Launch) (g : dd_G) (ad : Nat → Nat) (X : va_W) (sz : Nat) (sg : dd_S) (a1 : Int32) (r0 : Int32) (hf : f_X5_count sg a1 = some (r0)) : Met l yX5_count (lw_ws yX5_count cX5_count 2 (some .int)) ({ frames := 2, cells := 0, slots := 0, locals := 43 } : Room) (va_Pc [.ref (ad 30), .int a1] (PreW g (WC g ad sg ++ X) sz)) (QI g (WC g ad sg ++ X) (dd_A 59 ad X sz) r0) 0 0 (dd_A 59 ad X sz) := by
  refine Met.ofW (cc := cX5_count) (maxL := 2) (ret := some .int) (by decide) rfl ?_
  intro p e s m args below meth c s₁ B hml hv
  obtain ⟨rfl, rfl, hP, hK, hD0⟩ := hv
  have hx := B.exec
  have hb := B.bytes
  have hr := B.returns
  have hts := atoms_spec (ws := (lw_ws yX5_count cX5_count 2 (some .int))) B.pre
  have hts : ∀ w ∈ lw_all, w.before _ s = true := fun w h => hts w (List.mem_cons_of_mem _ h)
  have hown : s.vm.findClass RX5 = some m.cls := findClass_of_methodNamed B.named
  have hlocks := B.notSynchronized
  have hD : ∀ s2 : dd_S, va_D (dd_A 59 ad X s.heap.size) (WC g ad s2 ++ X) := fun s2 => dd_D (dd_A_D hD0)
  have hS : va_S (dd_A 59 ad X s.heap.size) s.heap s.heap [] := va_S.rf
  unfold f_X5_count at hf
  have hl := lv_entry ([.ref (ad 30), .int a1]) (n := 2) (Nat.le_of_ble_eq_true rfl)
  rw [lg_entry_eq]
  generalize (lg_sl ([.ref (ad 30), .int a1]) ++ List.replicate (2 - (lg_sl ([.ref (ad 30), .int a1])).length) Slot.unset).toArray = ls at hl ⊢
  have hl : lv_has ls 2 [(0, .ref (ad 30)), (1, .int a1)] := hl
  refine lv_iload_n hx hb dX5_count_0 rfl (lv_at hl 1 rfl) ?_
  by_cases c1 : a1 = (0 : Int32)
  · have hf := if_t c1 hf
    refine lv_tableIn (tgt := 32) (off := 31) hx hb dX5_count_1 (by rw [c1]; decide) (by rw [c1]; decide) (by rw [c1]; rfl) (by decide) ?_
    refine lv_aload_n hx hb dX5_count_32 rfl (lv_at hl 0 rfl) ?_
    refine gf_X5_10 hx hb hts hown hK hP dX5_count_33 ?_
    refine gf_X5_96 hx hb hts hown hK hP dX5_count_36 ?_
    exact W.iret (v := (sg 31 5)) hx hb hr (fun t ht hW => ⟨⟨(sg 31 5), (), rfl, so1 hf, P_at ht hP⟩, hS.F ht⟩) hS.2.2 dX5_count_39
  have hf := if_f c1 hf
  by_cases c2 : a1 = (1 : Int32)
  · have hf := if_t c2 hf
    refine lv_tableIn (tgt := 40) (off := 39) hx hb dX5_count_1 (by rw [c2]; decide) (by rw [c2]; decide) (by rw [c2]; rfl) (by decide) ?_
    refine lv_aload_n hx hb dX5_count_40 rfl (lv_at hl 0 rfl) ?_
    refine gf_X5_137 hx hb hts hown hK hP dX5_count_41 ?_
    exact W.iret (v := (sg 30 5)) hx hb hr (fun t ht hW => ⟨⟨(sg 30 5), (), rfl, so1 hf, P_at ht hP⟩, hS.F ht⟩) hS.2.2 dX5_count_44
  have hf := if_f c2 hf
  by_cases c3 : a1 = (2 : Int32)
  · have hf := if_t c3 hf
    refine lv_tableIn (tgt := 45) (off := 44) hx hb dX5_count_1 (by rw [c3]; decide) (by rw [c3]; decide) (by rw [c3]; rfl) (by decide) ?_
    refine lv_aload_n hx hb dX5_count_45 rfl (lv_at hl 0 rfl) ?_
    refine gf_X5_140 hx hb hts hown hK hP dX5_count_46 ?_
    exact W.iret (v := (sg 30 6)) hx hb hr (fun t ht hW => ⟨⟨(sg 30 6), (), rfl, so1 hf, P_at ht hP⟩, hS.F ht⟩) hS.2.2 dX5_count_49
  have hf := if_f c3 hf
  by_cases c4 : a1 = (3 : Int32)
  · have hf := if_t c4 hf
    refine lv_tableIn (tgt := 50) (off := 49) hx hb dX5_count_1 (by rw [c4]; decide) (by rw [c4]; decide) (by rw [c4]; rfl) (by decide) ?_
    refine lv_aload_n hx hb dX5_count_50 rfl (lv_at hl 0 rfl) ?_
    obtain ⟨r6, q5, hf⟩ := bd_so hf
    refine cl_i (va_runV (As := []) (rest := []) ⟨hx, hb, hml, hown, hts⟩ (c_X5_freeTrips l g ad X _ sg r6 q5) (cwV 0 hts gl_X5_143 rfl rfl rfl yd_X5_freeTrips ⟨Nat.le_of_ble_eq_true rfl, Nat.le_of_ble_eq_true rfl⟩) (preV_of hK hP (hD sg) (dd_at (by decide) cc_30) rfl) rfl rfl hl.1 rfl (lv_room (Nat.le_of_ble_eq_true rfl)) dX5_count_51 ⟨Nat.le_of_ble_eq_true rfl, Nat.le_of_ble_eq_true rfl⟩) hS (fun q h => dd_A_mono hS.1 h) (fun q h => dd_A_mono hS.1 h) (fun H locs hP hS => ?_)
    exact W.iret (v := r6) hx hb hr (fun t ht hW => ⟨⟨r6, (), rfl, so1 hf, P_at ht hP⟩, hS.F ht⟩) hS.2.2 dX5_count_54
  have hf := if_f c4 hf
  refine lv_tableOut (tgt := 55) hx hb dX5_count_1 (dd_out (lo := 0) (hi := 3) (fun k h1 h2 => by rcases (show k = 0 ∨ k = 1 ∨ k = 2 ∨ k = 3 by omega) with h9 | h9 | h9 | h9 <;> subst h9 <;> first | exact lv_neT c1 (by decide) | exact lv_neT c2 (by decide) | exact lv_neT c3 (by decide) | exact lv_neT c4 (by decide))) (by decide) ?_
  cases hf
set_option maxHeartbeats 4000000 in
set_option maxRecDepth 100000 in
theorem c_X5_duty (l : Launch) (g : dd_G) (ad : Nat → Nat) (X : va_W) (sz : Nat) (sg : dd_S) (a1 : Int32) (a2 : Int32) (r0 : Int32) (hf : f_X5_duty sg a1 a2 = some (r0)) : Met l yX5_duty (lw_ws yX5_duty cX5_duty 3 (some .int)) ({ frames := 4, cells := 0, slots := 0, locals := 90 } : Room) (va_Pc [.ref (ad 30), .int a1, .int a2] (PreW g (WC g ad sg ++ X) sz)) (QI g (WC g ad sg ++ X) (dd_A 59 ad X sz) r0) 0 0 (dd_A 59 ad X sz) := by
  refine Met.ofW (cc := cX5_duty) (maxL := 3) (ret := some .int) (by decide) rfl ?_
  intro p e s m args below meth c s₁ B hml hv
  obtain ⟨rfl, rfl, hP, hK, hD0⟩ := hv
  have hx := B.exec
  have hb := B.bytes
  have hr := B.returns
  have hts := atoms_spec (ws := (lw_ws yX5_duty cX5_duty 3 (some .int))) B.pre
  have hts : ∀ w ∈ lw_all, w.before _ s = true := fun w h => hts w (List.mem_cons_of_mem _ h)
  have hown : s.vm.findClass RX5 = some m.cls := findClass_of_methodNamed B.named
  have hlocks := B.notSynchronized
  have hD : ∀ s2 : dd_S, va_D (dd_A 59 ad X s.heap.size) (WC g ad s2 ++ X) := fun s2 => dd_D (dd_A_D hD0)
  have hS : va_S (dd_A 59 ad X s.heap.size) s.heap s.heap [] := va_S.rf
  have hL_18 : ∀ (H : Heap) (locs : List Loc) (ls : Array Slot), f_X5_duty_18 sg a1 a2 = some (r0) → va_P g.1 vwCl (WC g ad sg ++ X) H → va_S (dd_A 59 ad X s.heap.size) s.heap H locs → lv_has ls 3 [] → W p l e (headSpec (lw_ws yX5_duty cX5_duty 3 (some .int)) ({ frames := 4, cells := 0, slots := 0, locals := 90 } : Room)).room s m ([.ref (ad 30), .int a1, .int a2] : List Value).toArray below meth c H locs 0 0 (MQ below (QI g (WC g ad sg ++ X) (dd_A 59 ad X s.heap.size) r0) ([.ref (ad 30), .int a1, .int a2] : List Value).toArray s 0 0 (dd_A 59 ad X s.heap.size)) (F0 m 18 ls []) := by
    intro H locs ls hf hP hS hl
    unfold f_X5_duty_18 at hf
    cases hf
  unfold f_X5_duty at hf
  have hl := lv_entry ([.ref (ad 30), .int a1, .int a2]) (n := 3) (Nat.le_of_ble_eq_true rfl)
  rw [lg_entry_eq]
  generalize (lg_sl ([.ref (ad 30), .int a1, .int a2]) ++ List.replicate (3 - (lg_sl ([.ref (ad 30), .int a1, .int a2])).length) Slot.unset).toArray = ls at hl ⊢
  have hl : lv_has ls 3 [(0, .ref (ad 30)), (1, .int a1), (2, .int a2)] := hl
  refine lv_aload_n hx hb dX5_duty_0 rfl (lv_at hl 0 rfl) ?_
  refine lv_iload_n hx hb dX5_duty_1 rfl (lv_at hl 1 rfl) ?_
  obtain ⟨r2, q1, hf⟩ := bd_so hf
  refine cl_i (va_runV (As := [.int a1]) (rest := []) ⟨hx, hb, hml, hown, hts⟩ (c_X5_isDuty l g ad X _ sg a1 r2 q1) (cwV 1 hts gl_X5_150 rfl rfl rfl yd_X5_isDuty ⟨Nat.le_of_ble_eq_true rfl, Nat.le_of_ble_eq_true rfl⟩) (preV_of hK hP (hD sg) (dd_at (by decide) cc_30) rfl) rfl rfl hl.1 rfl (lv_room (Nat.le_of_ble_eq_true rfl)) dX5_duty_2 ⟨Nat.le_of_ble_eq_true rfl, Nat.le_of_ble_eq_true rfl⟩) hS (fun q h => dd_A_mono hS.1 h) (fun q h => dd_A_mono hS.1 h) (fun H locs hP hS => ?_)
  refine lv_if_eq (tgt := 18) hx hb dX5_duty_5 (by decide) (fun c3 => ?_) (fun c3 => ?_)
  · have hf := if_t c3 hf
    exact hL_18 _ _ _ hf hP hS (lv_sub hl [] rfl)
  · have hf := if_f c3 hf
    refine lv_iload_n hx hb dX5_duty_8 rfl (lv_at hl 2 rfl) ?_
    refine lv_if_lt (tgt := 18) hx hb dX5_duty_9 (by decide) (fun c4 => ?_) (fun c4 => ?_)
    · have hf := if_t c4 hf
      exact hL_18 _ _ _ hf hP hS (lv_sub hl [] rfl)
    · have hf := if_f c4 hf
      refine lv_iload_n hx hb dX5_duty_12 rfl (lv_at hl 2 rfl) ?_
      refine lv_bipush (v := (9 : Int32)) hx hb dX5_duty_13 (by decide) ?_
      refine lv_icmp_lt (tgt := 28) hx hb dX5_duty_15 (by decide) (fun c5 => ?_) (fun c5 => ?_)
      · have hf := if_t c5 hf
        refine lv_aload_n hx hb dX5_duty_28 rfl (lv_at hl 0 rfl) ?_
        refine lv_iload_n hx hb dX5_duty_29 rfl (lv_at hl 1 rfl) ?_
        refine lv_iload_n hx hb dX5_duty_30 rfl (lv_at hl 2 rfl) ?_
        obtain ⟨r7, q6, hf⟩ := bd_so hf
        refine cl_i (va_runV (As := [.int a1, .int a2]) (rest := []) ⟨hx, hb, hml, hown, hts⟩ (c_X5_dutyFact l g ad X _ sg a1 a2 r7 q6) (cwV 2 hts gl_X5_194 rfl rfl rfl yd_X5_dutyFact ⟨Nat.le_of_ble_eq_true rfl, Nat.le_of_ble_eq_true rfl⟩) (preV_of hK hP (hD sg) (dd_at (by decide) cc_30) rfl) rfl rfl hl.1 rfl (lv_room (Nat.le_of_ble_eq_true rfl)) dX5_duty_31 ⟨Nat.le_of_ble_eq_true rfl, Nat.le_of_ble_eq_true rfl⟩) hS (fun q h => dd_A_mono hS.1 h) (fun q h => dd_A_mono hS.1 h) (fun H locs hP hS => ?_)
        exact W.iret (v := r7) hx hb hr (fun t ht hW => ⟨⟨r7, (), rfl, so1 hf, P_at ht hP⟩, hS.F ht⟩) hS.2.2 dX5_duty_34
      · have hf := if_f c5 hf
        exact hL_18 _ _ _ hf hP hS (lv_sub hl [] rfl)
set_option maxHeartbeats 4000000 in
set_option maxRecDepth 100000 in
theorem c_X5_tripAt (l : Launch) (g : dd_G) (ad : Nat → Nat) (X : va_W) (sz : Nat) (sg : dd_S) (a1 : Int32) (a2 : Int32) (r0 : Int32) (hf : f_X5_tripAt sg a1 a2 = some (r0)) : Met l yX5_tripAt (lw_ws yX5_tripAt cX5_tripAt 3 (some .int)) ({ frames := 1, cells := 0, slots := 0, locals := 22 } : Room) (va_Pc [.ref (ad 30), .int a1, .int a2] (PreW g (WC g ad sg ++ X) sz)) (QI g (WC g ad sg ++ X) (dd_A 59 ad X sz) r0) 0 0 (dd_A 59 ad X sz) := by
  refine Met.ofW (cc := cX5_tripAt) (maxL := 3) (ret := some .int) (by decide) rfl ?_
  intro p e s m args below meth c s₁ B hml hv
  obtain ⟨rfl, rfl, hP, hK, hD0⟩ := hv
  have hx := B.exec
  have hb := B.bytes
  have hr := B.returns
  have hts := atoms_spec (ws := (lw_ws yX5_tripAt cX5_tripAt 3 (some .int))) B.pre
  have hts : ∀ w ∈ lw_all, w.before _ s = true := fun w h => hts w (List.mem_cons_of_mem _ h)
  have hown : s.vm.findClass RX5 = some m.cls := findClass_of_methodNamed B.named
  have hlocks := B.notSynchronized
  have hD : ∀ s2 : dd_S, va_D (dd_A 59 ad X s.heap.size) (WC g ad s2 ++ X) := fun s2 => dd_D (dd_A_D hD0)
  have hS : va_S (dd_A 59 ad X s.heap.size) s.heap s.heap [] := va_S.rf
  have hL_24 : ∀ (H : Heap) (locs : List Loc) (ls : Array Slot), f_X5_tripAt_24 sg a1 a2 = some (r0) → va_P g.1 vwCl (WC g ad sg ++ X) H → va_S (dd_A 59 ad X s.heap.size) s.heap H locs → lv_has ls 3 [] → W p l e (headSpec (lw_ws yX5_tripAt cX5_tripAt 3 (some .int)) ({ frames := 1, cells := 0, slots := 0, locals := 22 } : Room)).room s m ([.ref (ad 30), .int a1, .int a2] : List Value).toArray below meth c H locs 0 0 (MQ below (QI g (WC g ad sg ++ X) (dd_A 59 ad X s.heap.size) r0) ([.ref (ad 30), .int a1, .int a2] : List Value).toArray s 0 0 (dd_A 59 ad X s.heap.size)) (F0 m 24 ls []) := by
    intro H locs ls hf hP hS hl
    unfold f_X5_tripAt_24 at hf
    cases hf
  unfold f_X5_tripAt at hf
  have hl := lv_entry ([.ref (ad 30), .int a1, .int a2]) (n := 3) (Nat.le_of_ble_eq_true rfl)
  rw [lg_entry_eq]
  generalize (lg_sl ([.ref (ad 30), .int a1, .int a2]) ++ List.replicate (3 - (lg_sl ([.ref (ad 30), .int a1, .int a2])).length) Slot.unset).toArray = ls at hl ⊢
  have hl : lv_has ls 3 [(0, .ref (ad 30)), (1, .int a1), (2, .int a2)] := hl
  refine lv_aload_n hx hb dX5_tripAt_0 rfl (lv_at hl 0 rfl) ?_
  refine lv_iload_n hx hb dX5_tripAt_1 rfl (lv_at hl 1 rfl) ?_
  obtain ⟨r2, q1, hf⟩ := bd_so hf
  refine cl_i (va_runV (As := [.int a1]) (rest := []) ⟨hx, hb, hml, hown, hts⟩ (c_X5_isDuty l g ad X _ sg a1 r2 q1) (cwV 1 hts gl_X5_150 rfl rfl rfl yd_X5_isDuty ⟨Nat.le_of_ble_eq_true rfl, Nat.le_of_ble_eq_true rfl⟩) (preV_of hK hP (hD sg) (dd_at (by decide) cc_30) rfl) rfl rfl hl.1 rfl (lv_room (Nat.le_of_ble_eq_true rfl)) dX5_tripAt_2 ⟨Nat.le_of_ble_eq_true rfl, Nat.le_of_ble_eq_true rfl⟩) hS (fun q h => dd_A_mono hS.1 h) (fun q h => dd_A_mono hS.1 h) (fun H locs hP hS => ?_)
  refine lv_if_eq (tgt := 24) hx hb dX5_tripAt_5 (by decide) (fun c3 => ?_) (fun c3 => ?_)
  · have hf := if_t c3 hf
    exact hL_24 _ _ _ hf hP hS (lv_sub hl [] rfl)
  · have hf := if_f c3 hf
    refine lv_iload_n hx hb dX5_tripAt_8 rfl (lv_at hl 2 rfl) ?_
    refine lv_if_lt (tgt := 24) hx hb dX5_tripAt_9 (by decide) (fun c4 => ?_) (fun c4 => ?_)
    · have hf := if_t c4 hf
      exact hL_24 _ _ _ hf hP hS (lv_sub hl [] rfl)
    · have hf := if_f c4 hf
      refine lv_iload_n hx hb dX5_tripAt_12 rfl (lv_at hl 2 rfl) ?_
      refine lv_aload_n hx hb dX5_tripAt_13 rfl (lv_at hl 0 rfl) ?_
      refine lv_iload_n hx hb dX5_tripAt_14 rfl (lv_at hl 1 rfl) ?_
      obtain ⟨r6, q5, hf⟩ := bd_so hf
      refine cl_r (va_runV (As := [.int a1]) (rest := [.int a2]) ⟨hx, hb, hml, hown, hts⟩ (c_X5_dutyAt l g ad X _ sg a1 r6 q5) (cwV 1 hts gl_X5_164 rfl rfl rfl yd_X5_dutyAt ⟨Nat.le_of_ble_eq_true rfl, Nat.le_of_ble_eq_true rfl⟩) (preV_of hK hP (hD sg) (dd_at (by decide) cc_30) rfl) rfl rfl hl.1 rfl (lv_room (Nat.le_of_ble_eq_true rfl)) dX5_tripAt_15 ⟨Nat.le_of_ble_eq_true rfl, Nat.le_of_ble_eq_true rfl⟩) hS (fun q h => dd_A_mono hS.1 h) (fun q h => dd_A_mono hS.1 h) (fun H locs hP hS => ?_)
      have hr6 := lt_X5_dutyAt q5
      refine gf_X5_197 hx hb hts hown hK hP hr6 dX5_tripAt_18 ?_
      refine lv_icmp_lt (tgt := 34) hx hb dX5_tripAt_21 (by decide) (fun c7 => ?_) (fun c7 => ?_)
      · have hf := if_t c7 hf
        refine lv_aload_n hx hb dX5_tripAt_34 rfl (lv_at hl 0 rfl) ?_
        refine lv_iload_n hx hb dX5_tripAt_35 rfl (lv_at hl 1 rfl) ?_
        obtain ⟨r9, q8, hf⟩ := bd_so hf
        refine cl_r (va_runV (As := [.int a1]) (rest := []) ⟨hx, hb, hml, hown, hts⟩ (c_X5_dutyAt l g ad X _ sg a1 r9 q8) (cwV 1 hts gl_X5_164 rfl rfl rfl yd_X5_dutyAt ⟨Nat.le_of_ble_eq_true rfl, Nat.le_of_ble_eq_true rfl⟩) (preV_of hK hP (hD sg) (dd_at (by decide) cc_30) rfl) rfl rfl hl.1 rfl (lv_room (Nat.le_of_ble_eq_true rfl)) dX5_tripAt_36 ⟨Nat.le_of_ble_eq_true rfl, Nat.le_of_ble_eq_true rfl⟩) hS (fun q h => dd_A_mono hS.1 h) (fun q h => dd_A_mono hS.1 h) (fun H locs hP hS => ?_)
        have hr9 := lt_X5_dutyAt q8
        refine lv_iload_n hx hb dX5_tripAt_39 rfl (lv_at hl 2 rfl) ?_
        obtain ⟨r11, q10, hf⟩ := bd_so hf
        refine cl_i (va_runV (As := [.int a2]) (rest := []) ⟨hx, hb, hml, hown, hts⟩ (c_X0_tripIn l g ad X _ sg r9 a2 hr9 r11 q10) (cwV 1 hts gl_X5_200 rfl rfl rfl yd_X0_tripIn ⟨Nat.le_of_ble_eq_true rfl, Nat.le_of_ble_eq_true rfl⟩) (preV_of hK hP (hD sg) (dd_at (Nat.lt_trans hr9 (by decide)) (cc_duty hr9)) rfl) rfl rfl hl.1 rfl (lv_room (Nat.le_of_ble_eq_true rfl)) dX5_tripAt_40 ⟨Nat.le_of_ble_eq_true rfl, Nat.le_of_ble_eq_true rfl⟩) hS (fun q h => dd_A_mono hS.1 h) (fun q h => dd_A_mono hS.1 h) (fun H locs hP hS => ?_)
        exact W.iret (v := r11) hx hb hr (fun t ht hW => ⟨⟨r11, (), rfl, so1 hf, P_at ht hP⟩, hS.F ht⟩) hS.2.2 dX5_tripAt_43
      · have hf := if_f c7 hf
        exact hL_24 _ _ _ hf hP hS (lv_sub hl [] rfl)
set_option maxHeartbeats 4000000 in
set_option maxRecDepth 100000 in
theorem c_X5_addDriver (l : Launch) (g : dd_G) (ad : Nat → Nat) (X : va_W) (sz : Nat) (sg : dd_S) (r0 : Int32) (s0 : dd_S) (hf : f_X5_addDriver sg = some (r0, s0)) : Met l yX5_addDriver (lw_ws yX5_addDriver cX5_addDriver 1 (some .int)) ({ frames := 0, cells := 0, slots := 0, locals := 0 } : Room) (va_Pc [.ref (ad 30)] (PreW g (WC g ad sg ++ X) sz)) (QI g (WC g ad s0 ++ X) (dd_A 59 ad X sz) r0) 0 0 (dd_A 59 ad X sz) := by
  refine Met.ofW (cc := cX5_addDriver) (maxL := 1) (ret := some .int) (by decide) rfl ?_
  intro p e s m args below meth c s₁ B hml hv
  obtain ⟨rfl, rfl, hP, hK, hD0⟩ := hv
  have hx := B.exec
  have hb := B.bytes
  have hr := B.returns
  have hts := atoms_spec (ws := (lw_ws yX5_addDriver cX5_addDriver 1 (some .int))) B.pre
  have hts : ∀ w ∈ lw_all, w.before _ s = true := fun w h => hts w (List.mem_cons_of_mem _ h)
  have hown : s.vm.findClass RX5 = some m.cls := findClass_of_methodNamed B.named
  have hlocks := B.notSynchronized
  have hD : ∀ s2 : dd_S, va_D (dd_A 59 ad X s.heap.size) (WC g ad s2 ++ X) := fun s2 => dd_D (dd_A_D hD0)
  have hS : va_S (dd_A 59 ad X s.heap.size) s.heap s.heap [] := va_S.rf
  unfold f_X5_addDriver at hf
  have hl := lv_entry ([.ref (ad 30)]) (n := 1) (Nat.le_of_ble_eq_true rfl)
  rw [lg_entry_eq]
  generalize (lg_sl ([.ref (ad 30)]) ++ List.replicate (1 - (lg_sl ([.ref (ad 30)])).length) Slot.unset).toArray = ls at hl ⊢
  have hl : lv_has ls 1 [(0, .ref (ad 30))] := hl
  refine lv_aload_n hx hb dX5_addDriver_0 rfl (lv_at hl 0 rfl) ?_
  refine gf_X5_140 hx hb hts hown hK hP dX5_addDriver_1 ?_
  refine lv_bipush (v := (8 : Int32)) hx hb dX5_addDriver_4 (by decide) ?_
  refine lv_icmp_lt (tgt := 20) hx hb dX5_addDriver_6 (by decide) (fun c1 => ?_) (fun c1 => ?_)
  · have hf := if_t c1 hf
    refine lv_aload_n hx hb dX5_addDriver_20 rfl (lv_at hl 0 rfl) ?_
    refine lv_dup hx hb dX5_addDriver_21 rfl ?_
    refine gf_X5_140 hx hb hts hown hK hP dX5_addDriver_22 ?_
    refine lv_dup_x1 hx hb dX5_addDriver_25 rfl rfl ?_
    refine lv_iconst (v := (1 : Int32)) hx hb dX5_addDriver_26 (by decide) ?_
    refine lv_iadd hx hb dX5_addDriver_27 ?_
    obtain ⟨sg2, esg2, hf⟩ := lt_ex hf
    refine pf_X5_140 hx hb hts hown hK hP hD hS dX5_addDriver_28 (fun H locs hP hS => ?_)
    rw [← esg2] at hP
    exact W.iret (v := (sg 30 6)) hx hb hr (fun t ht hW => ⟨⟨(sg 30 6), (), rfl, (so2 hf).1, P_at2 (so2 hf).2 ht hP⟩, hS.F ht⟩) hS.2.2 dX5_addDriver_31
  · have hf := if_f c1 hf
    cases hf
set_option maxHeartbeats 4000000 in
set_option maxRecDepth 100000 in
theorem c_X5_given (l : Launch) (g : dd_G) (ad : Nat → Nat) (X : va_W) (sz : Nat) (sg : dd_S) (a1 : Int32) (a2 : Int32) (r0 : Int32) (hf : f_X5_given sg a1 a2 = some (r0)) : Met l yX5_given (lw_ws yX5_given cX5_given 3 (some .int)) ({ frames := 1, cells := 0, slots := 0, locals := 22 } : Room) (va_Pc [.ref (ad 30), .int a1, .int a2] (PreW g (WC g ad sg ++ X) sz)) (QI g (WC g ad sg ++ X) (dd_A 59 ad X sz) r0) 0 0 (dd_A 59 ad X sz) := by
  refine Met.ofW (cc := cX5_given) (maxL := 3) (ret := some .int) (by decide) rfl ?_
  intro p e s m args below meth c s₁ B hml hv
  obtain ⟨rfl, rfl, hP, hK, hD0⟩ := hv
  have hx := B.exec
  have hb := B.bytes
  have hr := B.returns
  have hts := atoms_spec (ws := (lw_ws yX5_given cX5_given 3 (some .int))) B.pre
  have hts : ∀ w ∈ lw_all, w.before _ s = true := fun w h => hts w (List.mem_cons_of_mem _ h)
  have hown : s.vm.findClass RX5 = some m.cls := findClass_of_methodNamed B.named
  have hlocks := B.notSynchronized
  have hD : ∀ s2 : dd_S, va_D (dd_A 59 ad X s.heap.size) (WC g ad s2 ++ X) := fun s2 => dd_D (dd_A_D hD0)
  have hS : va_S (dd_A 59 ad X s.heap.size) s.heap s.heap [] := va_S.rf
  have hL_15 : ∀ (H : Heap) (locs : List Loc) (ls : Array Slot), f_X5_given_15 sg a1 a2 = some (r0) → va_P g.1 vwCl (WC g ad sg ++ X) H → va_S (dd_A 59 ad X s.heap.size) s.heap H locs → lv_has ls 3 [] → W p l e (headSpec (lw_ws yX5_given cX5_given 3 (some .int)) ({ frames := 1, cells := 0, slots := 0, locals := 22 } : Room)).room s m ([.ref (ad 30), .int a1, .int a2] : List Value).toArray below meth c H locs 0 0 (MQ below (QI g (WC g ad sg ++ X) (dd_A 59 ad X s.heap.size) r0) ([.ref (ad 30), .int a1, .int a2] : List Value).toArray s 0 0 (dd_A 59 ad X s.heap.size)) (F0 m 15 ls []) := by
    intro H locs ls hf hP hS hl
    unfold f_X5_given_15 at hf
    cases hf
  unfold f_X5_given at hf
  have hl := lv_entry ([.ref (ad 30), .int a1, .int a2]) (n := 3) (Nat.le_of_ble_eq_true rfl)
  rw [lg_entry_eq]
  generalize (lg_sl ([.ref (ad 30), .int a1, .int a2]) ++ List.replicate (3 - (lg_sl ([.ref (ad 30), .int a1, .int a2])).length) Slot.unset).toArray = ls at hl ⊢
  have hl : lv_has ls 3 [(0, .ref (ad 30)), (1, .int a1), (2, .int a2)] := hl
  refine lv_aload_n hx hb dX5_given_0 rfl (lv_at hl 0 rfl) ?_
  refine lv_iload_n hx hb dX5_given_1 rfl (lv_at hl 1 rfl) ?_
  obtain ⟨r2, q1, hf⟩ := bd_so hf
  refine cl_i (va_runV (As := [.int a1]) (rest := []) ⟨hx, hb, hml, hown, hts⟩ (c_X5_isDriver l g ad X _ sg a1 r2 q1) (cwV 1 hts gl_X5_266 rfl rfl rfl yd_X5_isDriver ⟨Nat.le_of_ble_eq_true rfl, Nat.le_of_ble_eq_true rfl⟩) (preV_of hK hP (hD sg) (dd_at (by decide) cc_30) rfl) rfl rfl hl.1 rfl (lv_room (Nat.le_of_ble_eq_true rfl)) dX5_given_2 ⟨Nat.le_of_ble_eq_true rfl, Nat.le_of_ble_eq_true rfl⟩) hS (fun q h => dd_A_mono hS.1 h) (fun q h => dd_A_mono hS.1 h) (fun H locs hP hS => ?_)
  refine lv_if_eq (tgt := 15) hx hb dX5_given_5 (by decide) (fun c3 => ?_) (fun c3 => ?_)
  · have hf := if_t c3 hf
    exact hL_15 _ _ _ hf hP hS (lv_sub hl [] rfl)
  · have hf := if_f c3 hf
    refine lv_iload_n hx hb dX5_given_8 rfl (lv_at hl 2 rfl) ?_
    obtain ⟨r5, q4, hf⟩ := bd_so hf
    refine cl_i (va_runS (As := [.int a2]) (rest := []) ⟨hx, hb, hml, hown, hts⟩ (c_X5_isDay l g ad X _ sg a2 r5 q4) (cwS 1 hts gl_X5_269 rfl rfl rfl yd_X5_isDay ⟨Nat.le_of_ble_eq_true rfl, Nat.le_of_ble_eq_true rfl⟩) (preS_of hK hP (hD sg)) rfl rfl hl.1 rfl (lv_room (Nat.le_of_ble_eq_true rfl)) dX5_given_9 ⟨Nat.le_of_ble_eq_true rfl, Nat.le_of_ble_eq_true rfl⟩) hS (fun q h => dd_A_mono hS.1 h) (fun q h => dd_A_mono hS.1 h) (fun H locs hP hS => ?_)
    refine lv_if_ne (tgt := 26) hx hb dX5_given_12 (by decide) (fun c6 => ?_) (fun c6 => ?_)
    · have hf := if_f c6 hf
      refine lv_aload_n hx hb dX5_given_26 rfl (lv_at hl 0 rfl) ?_
      refine lv_iload_n hx hb dX5_given_27 rfl (lv_at hl 1 rfl) ?_
      refine lv_iload_n hx hb dX5_given_28 rfl (lv_at hl 2 rfl) ?_
      obtain ⟨r8, q7, hf⟩ := bd_so hf
      refine cl_i (va_runV (As := [.int a1, .int a2]) (rest := []) ⟨hx, hb, hml, hown, hts⟩ (c_X5_dutyOn l g ad X _ sg a1 a2 r8 q7) (cwV 2 hts gl_X5_288 rfl rfl rfl yd_X5_dutyOn ⟨Nat.le_of_ble_eq_true rfl, Nat.le_of_ble_eq_true rfl⟩) (preV_of hK hP (hD sg) (dd_at (by decide) cc_30) rfl) rfl rfl hl.1 rfl (lv_room (Nat.le_of_ble_eq_true rfl)) dX5_given_29 ⟨Nat.le_of_ble_eq_true rfl, Nat.le_of_ble_eq_true rfl⟩) hS (fun q h => dd_A_mono hS.1 h) (fun q h => dd_A_mono hS.1 h) (fun H locs hP hS => ?_)
      exact W.iret (v := r8) hx hb hr (fun t ht hW => ⟨⟨r8, (), rfl, so1 hf, P_at ht hP⟩, hS.F ht⟩) hS.2.2 dX5_given_32
    · have hf := if_t c6 hf
      exact hL_15 _ _ _ hf hP hS (lv_sub hl [] rfl)
set_option maxHeartbeats 4000000 in
set_option maxRecDepth 100000 in
theorem c_X5_fill (l : Launch) (g : dd_G) (ad : Nat → Nat) (X : va_W) (sz : Nat) (sg : dd_S) (a1 : Int32) (r0 : Int32) (s0 : dd_S) (hf : f_X5_fill sg a1 = some (r0, s0)) : Met l yX5_fill (lw_ws yX5_fill cX5_fill 3 (some .int)) ({ frames := 6, cells := 0, slots := 0, locals := 142 } : Room) (va_Pc [.ref (ad 30), .int a1] (PreW g (WC g ad sg ++ X) sz)) (QI g (WC g ad s0 ++ X) (dd_A 59 ad X sz) r0) 0 0 (dd_A 59 ad X sz) := by
  refine Met.ofW (cc := cX5_fill) (maxL := 3) (ret := some .int) (by decide) rfl ?_
  intro p e s m args below meth c s₁ B hml hv
  obtain ⟨rfl, rfl, hP, hK, hD0⟩ := hv
  have hx := B.exec
  have hb := B.bytes
  have hr := B.returns
  have hts := atoms_spec (ws := (lw_ws yX5_fill cX5_fill 3 (some .int))) B.pre
  have hts : ∀ w ∈ lw_all, w.before _ s = true := fun w h => hts w (List.mem_cons_of_mem _ h)
  have hown : s.vm.findClass RX5 = some m.cls := findClass_of_methodNamed B.named
  have hlocks := B.notSynchronized
  have hD : ∀ s2 : dd_S, va_D (dd_A 59 ad X s.heap.size) (WC g ad s2 ++ X) := fun s2 => dd_D (dd_A_D hD0)
  have hS : va_S (dd_A 59 ad X s.heap.size) s.heap s.heap [] := va_S.rf
  have hL_60 : ∀ (k_27 : dd_S → Int32 → Option (Int32 × dd_S)) (hk_27 : ∀ (sg : dd_S) (v2 : Int32) (H : Heap) (locs : List Loc) (ls : Array Slot), k_27 sg v2 = some (r0, s0) → va_P g.1 vwCl (WC g ad sg ++ X) H → va_S (dd_A 59 ad X s.heap.size) s.heap H locs → lv_has ls 3 [(0, .ref (ad 30)), (1, .int a1), (2, .int v2)] → W p l e (headSpec (lw_ws yX5_fill cX5_fill 3 (some .int)) ({ frames := 6, cells := 0, slots := 0, locals := 142 } : Room)).room s m ([.ref (ad 30), .int a1] : List Value).toArray below meth c H locs 0 0 (MQ below (QI g (WC g ad s0 ++ X) (dd_A 59 ad X s.heap.size) r0) ([.ref (ad 30), .int a1] : List Value).toArray s 0 0 (dd_A 59 ad X s.heap.size)) (F0 m 27 ls [])), ∀ (sg : dd_S) (v2 : Int32) (H : Heap) (locs : List Loc) (ls : Array Slot), f_X5_fill_60 a1 k_27 sg v2 = some (r0, s0) → va_P g.1 vwCl (WC g ad sg ++ X) H → va_S (dd_A 59 ad X s.heap.size) s.heap H locs → lv_has ls 3 [(0, .ref (ad 30)), (1, .int a1), (2, .int v2)] → W p l e (headSpec (lw_ws yX5_fill cX5_fill 3 (some .int)) ({ frames := 6, cells := 0, slots := 0, locals := 142 } : Room)).room s m ([.ref (ad 30), .int a1] : List Value).toArray below meth c H locs 0 0 (MQ below (QI g (WC g ad s0 ++ X) (dd_A 59 ad X s.heap.size) r0) ([.ref (ad 30), .int a1] : List Value).toArray s 0 0 (dd_A 59 ad X s.heap.size)) (F0 m 60 ls []) := by
    intro k_27 hk_27 sg v2 H locs ls hf hP hS hl
    unfold f_X5_fill_60 at hf
    obtain ⟨x22, ex22, hf⟩ := lt_ex hf
    refine lv_iinc (v := x22) (lv' := [(2, .int x22), (0, .ref (ad 30)), (1, .int a1)]) hx hb dX5_fill_60 hl (k := 2) rfl (by rw [ex22]; rfl) (by decide) rfl (fun ls hl => ?_)
    refine lv_goto (tgt := 27) hx hb dX5_fill_63 (by decide) ?_
    exact hk_27 sg x22 _ _ _ hf hP hS (lv_sub hl [1, 2, 0] rfl)
  have hL_68 : ∀ (n : Nat), ∀ (sg : dd_S) (v2 : Int32) (H : Heap) (locs : List Loc) (ls : Array Slot), f_X5_fill_68 a1 n sg v2 = some (r0, s0) → va_P g.1 vwCl (WC g ad sg ++ X) H → va_S (dd_A 59 ad X s.heap.size) s.heap H locs → lv_has ls 3 [(0, .ref (ad 30)), (1, .int a1), (2, .int v2)] → W p l e (headSpec (lw_ws yX5_fill cX5_fill 3 (some .int)) ({ frames := 6, cells := 0, slots := 0, locals := 142 } : Room)).room s m ([.ref (ad 30), .int a1] : List Value).toArray below meth c H locs 0 0 (MQ below (QI g (WC g ad s0 ++ X) (dd_A 59 ad X s.heap.size) r0) ([.ref (ad 30), .int a1] : List Value).toArray s 0 0 (dd_A 59 ad X s.heap.size)) (F0 m 68 ls []) := by
    intro n
    induction n with
    | zero =>
      intro sg v2 H locs ls hf
      rw [f_X5_fill_68] at hf
      cases hf
    | succ n ih =>
      intro sg v2 H locs ls hf hP hS hl
      rw [f_X5_fill_68] at hf
      refine lv_iload_n hx hb dX5_fill_68 rfl (lv_at hl 2 rfl) ?_
      refine lv_aload_n hx hb dX5_fill_69 rfl (lv_at hl 0 rfl) ?_
      refine gf_X5_49 hx hb hts hown hK hP dX5_fill_70 ?_
      refine gf_X5_215 hx hb hts hown hK hP dX5_fill_73 ?_
      refine lv_icmp_ge (tgt := 98) hx hb dX5_fill_76 (by decide) (fun c14 => ?_) (fun c14 => ?_)
      · have hf := if_t c14 hf
        refine lv_aload_n hx hb dX5_fill_98 rfl (lv_at hl 0 rfl) ?_
        refine lv_iload_n hx hb dX5_fill_99 rfl (lv_at hl 1 rfl) ?_
        obtain ⟨r16, q15, hf⟩ := bd_so hf
        refine cl_i (va_runV (As := [.int a1]) (rest := []) ⟨hx, hb, hml, hown, hts⟩ (c_X5_openDuties l g ad X _ sg a1 r16 q15) (cwV 1 hts gl_X5_304 rfl rfl rfl yd_X5_openDuties ⟨Nat.le_of_ble_eq_true rfl, Nat.le_of_ble_eq_true rfl⟩) (preV_of hK hP (hD sg) (dd_at (by decide) cc_30) rfl) rfl rfl hl.1 rfl (lv_room (Nat.le_of_ble_eq_true rfl)) dX5_fill_100 ⟨Nat.le_of_ble_eq_true rfl, Nat.le_of_ble_eq_true rfl⟩) hS (fun q h => dd_A_mono hS.1 h) (fun q h => dd_A_mono hS.1 h) (fun H locs hP hS => ?_)
        exact W.iret (v := r16) hx hb hr (fun t ht hW => ⟨⟨r16, (), rfl, (so2 hf).1, P_at2 (so2 hf).2 ht hP⟩, hS.F ht⟩) hS.2.2 dX5_fill_103
      · have hf := if_f c14 hf
        refine lv_aload_n hx hb dX5_fill_79 rfl (lv_at hl 0 rfl) ?_
        refine lv_aload_n hx hb dX5_fill_80 rfl (lv_at hl 0 rfl) ?_
        refine gf_X5_49 hx hb hts hown hK hP dX5_fill_81 ?_
        refine lv_iload_n hx hb dX5_fill_84 rfl (lv_at hl 2 rfl) ?_
        obtain ⟨r18, q17, hf⟩ := bd_so hf
        refine cl_i (va_runV (As := [.int v2]) (rest := [.ref (ad 30)]) ⟨hx, hb, hml, hown, hts⟩ (c_X2_numberIn l g ad X _ sg v2 r18 q17) (cwV 1 hts gl_X5_216 rfl rfl rfl yd_X2_numberIn ⟨Nat.le_of_ble_eq_true rfl, Nat.le_of_ble_eq_true rfl⟩) (preV_of hK hP (hD sg) (dd_at (by decide) cc_36) rfl) rfl rfl hl.1 rfl (lv_room (Nat.le_of_ble_eq_true rfl)) dX5_fill_85 ⟨Nat.le_of_ble_eq_true rfl, Nat.le_of_ble_eq_true rfl⟩) hS (fun q h => dd_A_mono hS.1 h) (fun q h => dd_A_mono hS.1 h) (fun H locs hP hS => ?_)
        refine lv_iload_n hx hb dX5_fill_88 rfl (lv_at hl 1 rfl) ?_
        obtain ⟨sg20, q19, hf⟩ := bd_so hf
        refine cl_v (va_runV (As := [.int r18, .int a1]) (rest := []) ⟨hx, hb, hml, hown, hts⟩ (c_X5_fillWith l g ad X _ sg r18 a1 sg20 q19) (cwV 2 hts gl_X5_301 rfl rfl rfl yd_X5_fillWith ⟨Nat.le_of_ble_eq_true rfl, Nat.le_of_ble_eq_true rfl⟩) (preV_of hK hP (hD sg) (dd_at (by decide) cc_30) rfl) rfl rfl hl.1 rfl (lv_room (Nat.le_of_ble_eq_true rfl)) dX5_fill_89 ⟨Nat.le_of_ble_eq_true rfl, Nat.le_of_ble_eq_true rfl⟩) hS (fun q h => dd_A_mono hS.1 h) (fun q h => dd_A_mono hS.1 h) (fun H locs hP hS => ?_)
        obtain ⟨x21, ex21, hf⟩ := lt_ex hf
        refine lv_iinc (v := x21) (lv' := [(2, .int x21), (0, .ref (ad 30)), (1, .int a1)]) hx hb dX5_fill_92 hl (k := 2) rfl (by rw [ex21]; rfl) (by decide) rfl (fun ls hl => ?_)
        refine lv_goto (tgt := 68) hx hb dX5_fill_95 (by decide) ?_
        exact ih sg20 x21 _ _ _ hf hP hS (lv_sub hl [1, 2, 0] rfl)
  have hL_27 : ∀ (n : Nat), ∀ (sg : dd_S) (v2 : Int32) (H : Heap) (locs : List Loc) (ls : Array Slot), f_X5_fill_27 a1 n sg v2 = some (r0, s0) → va_P g.1 vwCl (WC g ad sg ++ X) H → va_S (dd_A 59 ad X s.heap.size) s.heap H locs → lv_has ls 3 [(0, .ref (ad 30)), (1, .int a1), (2, .int v2)] → W p l e (headSpec (lw_ws yX5_fill cX5_fill 3 (some .int)) ({ frames := 6, cells := 0, slots := 0, locals := 142 } : Room)).room s m ([.ref (ad 30), .int a1] : List Value).toArray below meth c H locs 0 0 (MQ below (QI g (WC g ad s0 ++ X) (dd_A 59 ad X s.heap.size) r0) ([.ref (ad 30), .int a1] : List Value).toArray s 0 0 (dd_A 59 ad X s.heap.size)) (F0 m 27 ls []) := by
    intro n
    induction n with
    | zero =>
      intro sg v2 H locs ls hf
      rw [f_X5_fill_27] at hf
      cases hf
    | succ n ih =>
      intro sg v2 H locs ls hf hP hS hl
      rw [f_X5_fill_27] at hf
      refine lv_iload_n hx hb dX5_fill_27 rfl (lv_at hl 2 rfl) ?_
      refine lv_aload_n hx hb dX5_fill_28 rfl (lv_at hl 0 rfl) ?_
      refine gf_X5_137 hx hb hts hown hK hP dX5_fill_29 ?_
      refine lv_icmp_ge (tgt := 66) hx hb dX5_fill_32 (by decide) (fun c6 => ?_) (fun c6 => ?_)
      · have hf := if_t c6 hf
        refine lv_iconst (v := (0 : Int32)) hx hb dX5_fill_66 (by decide) ?_
        refine lv_istore_n (lv' := [(2, .int (0 : Int32)), (0, .ref (ad 30)), (1, .int a1)]) hx hb dX5_fill_67 rfl hl (by decide) rfl (fun ls hl => ?_)
        exact hL_68 64 sg (0 : Int32) _ _ _ hf hP hS (lv_sub hl [1, 2, 0] rfl)
      · have hf := if_f c6 hf
        refine lv_aload_n hx hb dX5_fill_35 rfl (lv_at hl 0 rfl) ?_
        refine lv_iload_n hx hb dX5_fill_36 rfl (lv_at hl 2 rfl) ?_
        refine lv_iload_n hx hb dX5_fill_37 rfl (lv_at hl 1 rfl) ?_
        obtain ⟨r8, q7, hf⟩ := bd_so hf
        refine cl_i (va_runV (As := [.int v2, .int a1]) (rest := []) ⟨hx, hb, hml, hown, hts⟩ (c_X5_isOpenOn l g ad X _ sg v2 a1 r8 q7) (cwV 2 hts gl_X5_295 rfl rfl rfl yd_X5_isOpenOn ⟨Nat.le_of_ble_eq_true rfl, Nat.le_of_ble_eq_true rfl⟩) (preV_of hK hP (hD sg) (dd_at (by decide) cc_30) rfl) rfl rfl hl.1 rfl (lv_room (Nat.le_of_ble_eq_true rfl)) dX5_fill_38 ⟨Nat.le_of_ble_eq_true rfl, Nat.le_of_ble_eq_true rfl⟩) hS (fun q h => dd_A_mono hS.1 h) (fun q h => dd_A_mono hS.1 h) (fun H locs hP hS => ?_)
        refine lv_if_eq (tgt := 60) hx hb dX5_fill_41 (by decide) (fun c9 => ?_) (fun c9 => ?_)
        · have hf := if_t c9 hf
          exact hL_60 (fun zs z0 => f_X5_fill_27 a1 n zs z0) ih sg v2 _ _ _ hf hP hS (lv_sub hl [0, 1, 2] rfl)
        · have hf := if_f c9 hf
          refine lv_aload_n hx hb dX5_fill_44 rfl (lv_at hl 0 rfl) ?_
          refine gf_X5_49 hx hb hts hown hK hP dX5_fill_45 ?_
          refine lv_aload_n hx hb dX5_fill_48 rfl (lv_at hl 0 rfl) ?_
          refine lv_iload_n hx hb dX5_fill_49 rfl (lv_at hl 2 rfl) ?_
          obtain ⟨r11, q10, hf⟩ := bd_so hf
          refine cl_r (va_runV (As := [.int v2]) (rest := [.ref (ad 36)]) ⟨hx, hb, hml, hown, hts⟩ (c_X5_dutyAt l g ad X _ sg v2 r11 q10) (cwV 1 hts gl_X5_164 rfl rfl rfl yd_X5_dutyAt ⟨Nat.le_of_ble_eq_true rfl, Nat.le_of_ble_eq_true rfl⟩) (preV_of hK hP (hD sg) (dd_at (by decide) cc_30) rfl) rfl rfl hl.1 rfl (lv_room (Nat.le_of_ble_eq_true rfl)) dX5_fill_50 ⟨Nat.le_of_ble_eq_true rfl, Nat.le_of_ble_eq_true rfl⟩) hS (fun q h => dd_A_mono hS.1 h) (fun q h => dd_A_mono hS.1 h) (fun H locs hP hS => ?_)
          have hr11 := lt_X5_dutyAt q10
          refine gf_X5_298 hx hb hts hown hK hP hr11 dX5_fill_53 ?_
          refine lv_iload_n hx hb dX5_fill_56 rfl (lv_at hl 2 rfl) ?_
          obtain ⟨sg13, q12, hf⟩ := bd_so hf
          refine cl_v (va_runV (As := [.int (sg r11 2), .int v2]) (rest := []) ⟨hx, hb, hml, hown, hts⟩ (c_X2_insert l g ad X _ sg (sg r11 2) v2 sg13 q12) (cwV 2 hts gl_X5_212 rfl rfl rfl yd_X2_insert ⟨Nat.le_of_ble_eq_true rfl, Nat.le_of_ble_eq_true rfl⟩) (preV_of hK hP (hD sg) (dd_at (by decide) cc_36) rfl) rfl rfl hl.1 rfl (lv_room (Nat.le_of_ble_eq_true rfl)) dX5_fill_57 ⟨Nat.le_of_ble_eq_true rfl, Nat.le_of_ble_eq_true rfl⟩) hS (fun q h => dd_A_mono hS.1 h) (fun q h => dd_A_mono hS.1 h) (fun H locs hP hS => ?_)
          exact hL_60 (fun zs z0 => f_X5_fill_27 a1 n zs z0) ih sg13 v2 _ _ _ hf hP hS (lv_sub hl [0, 1, 2] rfl)
  unfold f_X5_fill at hf
  have hl := lv_entry ([.ref (ad 30), .int a1]) (n := 3) (Nat.le_of_ble_eq_true rfl)
  rw [lg_entry_eq]
  generalize (lg_sl ([.ref (ad 30), .int a1]) ++ List.replicate (3 - (lg_sl ([.ref (ad 30), .int a1])).length) Slot.unset).toArray = ls at hl ⊢
  have hl : lv_has ls 3 [(0, .ref (ad 30)), (1, .int a1)] := hl
  refine lv_iload_n hx hb dX5_fill_0 rfl (lv_at hl 1 rfl) ?_
  obtain ⟨r2, q1, hf⟩ := bd_so hf
  refine cl_i (va_runS (As := [.int a1]) (rest := []) ⟨hx, hb, hml, hown, hts⟩ (c_X5_isDay l g ad X _ sg a1 r2 q1) (cwS 1 hts gl_X5_269 rfl rfl rfl yd_X5_isDay ⟨Nat.le_of_ble_eq_true rfl, Nat.le_of_ble_eq_true rfl⟩) (preS_of hK hP (hD sg)) rfl rfl hl.1 rfl (lv_room (Nat.le_of_ble_eq_true rfl)) dX5_fill_1 ⟨Nat.le_of_ble_eq_true rfl, Nat.le_of_ble_eq_true rfl⟩) hS (fun q h => dd_A_mono hS.1 h) (fun q h => dd_A_mono hS.1 h) (fun H locs hP hS => ?_)
  refine lv_if_ne (tgt := 18) hx hb dX5_fill_4 (by decide) (fun c3 => ?_) (fun c3 => ?_)
  · have hf := if_f c3 hf
    refine lv_aload_n hx hb dX5_fill_18 rfl (lv_at hl 0 rfl) ?_
    refine gf_X5_49 hx hb hts hown hK hP dX5_fill_19 ?_
    obtain ⟨sg5, q4, hf⟩ := bd_so hf
    refine cl_v (va_runV (As := []) (rest := []) ⟨hx, hb, hml, hown, hts⟩ (c_X2_clear l g ad X _ sg sg5 q4) (cwV 0 hts gl_X5_206 rfl rfl rfl yd_X2_clear ⟨Nat.le_of_ble_eq_true rfl, Nat.le_of_ble_eq_true rfl⟩) (preV_of hK hP (hD sg) (dd_at (by decide) cc_36) rfl) rfl rfl hl.1 rfl (lv_room (Nat.le_of_ble_eq_true rfl)) dX5_fill_22 ⟨Nat.le_of_ble_eq_true rfl, Nat.le_of_ble_eq_true rfl⟩) hS (fun q h => dd_A_mono hS.1 h) (fun q h => dd_A_mono hS.1 h) (fun H locs hP hS => ?_)
    refine lv_iconst (v := (0 : Int32)) hx hb dX5_fill_25 (by decide) ?_
    refine lv_istore_n (lv' := [(2, .int (0 : Int32)), (0, .ref (ad 30)), (1, .int a1)]) hx hb dX5_fill_26 rfl hl (by decide) rfl (fun ls hl => ?_)
    exact hL_27 64 sg5 (0 : Int32) _ _ _ hf hP hS (lv_sub hl [1, 2, 0] rfl)
  · have hf := if_t c3 hf
    cases hf
set_option maxHeartbeats 4000000 in
set_option maxRecDepth 100000 in
theorem c_X5_week (l : Launch) (g : dd_G) (ad : Nat → Nat) (X : va_W) (sz : Nat) (sg : dd_S) (a1 : Int32) (r0 : Int32) (hf : f_X5_week sg a1 = some (r0)) : Met l yX5_week (lw_ws yX5_week cX5_week 2 (some .int)) ({ frames := 2, cells := 0, slots := 0, locals := 45 } : Room) (va_Pc [.ref (ad 30), .int a1] (PreW g (WC g ad sg ++ X) sz)) (QI g (WC g ad sg ++ X) (dd_A 59 ad X sz) r0) 0 0 (dd_A 59 ad X sz) := by
  refine Met.ofW (cc := cX5_week) (maxL := 2) (ret := some .int) (by decide) rfl ?_
  intro p e s m args below meth c s₁ B hml hv
  obtain ⟨rfl, rfl, hP, hK, hD0⟩ := hv
  have hx := B.exec
  have hb := B.bytes
  have hr := B.returns
  have hts := atoms_spec (ws := (lw_ws yX5_week cX5_week 2 (some .int))) B.pre
  have hts : ∀ w ∈ lw_all, w.before _ s = true := fun w h => hts w (List.mem_cons_of_mem _ h)
  have hown : s.vm.findClass RX5 = some m.cls := findClass_of_methodNamed B.named
  have hlocks := B.notSynchronized
  have hD : ∀ s2 : dd_S, va_D (dd_A 59 ad X s.heap.size) (WC g ad s2 ++ X) := fun s2 => dd_D (dd_A_D hD0)
  have hS : va_S (dd_A 59 ad X s.heap.size) s.heap s.heap [] := va_S.rf
  unfold f_X5_week at hf
  have hl := lv_entry ([.ref (ad 30), .int a1]) (n := 2) (Nat.le_of_ble_eq_true rfl)
  rw [lg_entry_eq]
  generalize (lg_sl ([.ref (ad 30), .int a1]) ++ List.replicate (2 - (lg_sl ([.ref (ad 30), .int a1])).length) Slot.unset).toArray = ls at hl ⊢
  have hl : lv_has ls 2 [(0, .ref (ad 30)), (1, .int a1)] := hl
  refine lv_aload_n hx hb dX5_week_0 rfl (lv_at hl 0 rfl) ?_
  refine lv_iload_n hx hb dX5_week_1 rfl (lv_at hl 1 rfl) ?_
  obtain ⟨r2, q1, hf⟩ := bd_so hf
  refine cl_i (va_runV (As := [.int a1]) (rest := []) ⟨hx, hb, hml, hown, hts⟩ (c_X5_isDriver l g ad X _ sg a1 r2 q1) (cwV 1 hts gl_X5_266 rfl rfl rfl yd_X5_isDriver ⟨Nat.le_of_ble_eq_true rfl, Nat.le_of_ble_eq_true rfl⟩) (preV_of hK hP (hD sg) (dd_at (by decide) cc_30) rfl) rfl rfl hl.1 rfl (lv_room (Nat.le_of_ble_eq_true rfl)) dX5_week_2 ⟨Nat.le_of_ble_eq_true rfl, Nat.le_of_ble_eq_true rfl⟩) hS (fun q h => dd_A_mono hS.1 h) (fun q h => dd_A_mono hS.1 h) (fun H locs hP hS => ?_)
  refine lv_if_ne (tgt := 19) hx hb dX5_week_5 (by decide) (fun c3 => ?_) (fun c3 => ?_)
  · have hf := if_f c3 hf
    refine lv_aload_n hx hb dX5_week_19 rfl (lv_at hl 0 rfl) ?_
    refine lv_iload_n hx hb dX5_week_20 rfl (lv_at hl 1 rfl) ?_
    obtain ⟨r5, q4, hf⟩ := bd_so hf
    refine cl_i (va_runV (As := [.int a1]) (rest := []) ⟨hx, hb, hml, hown, hts⟩ (c_X5_weekPay l g ad X _ sg a1 r5 q4) (cwV 1 hts gl_X5_283 rfl rfl rfl yd_X5_weekPay ⟨Nat.le_of_ble_eq_true rfl, Nat.le_of_ble_eq_true rfl⟩) (preV_of hK hP (hD sg) (dd_at (by decide) cc_30) rfl) rfl rfl hl.1 rfl (lv_room (Nat.le_of_ble_eq_true rfl)) dX5_week_21 ⟨Nat.le_of_ble_eq_true rfl, Nat.le_of_ble_eq_true rfl⟩) hS (fun q h => dd_A_mono hS.1 h) (fun q h => dd_A_mono hS.1 h) (fun H locs hP hS => ?_)
    exact W.iret (v := r5) hx hb hr (fun t ht hW => ⟨⟨r5, (), rfl, so1 hf, P_at ht hP⟩, hS.F ht⟩) hS.2.2 dX5_week_24
  · have hf := if_t c3 hf
    cases hf
set_option maxHeartbeats 4000000 in
set_option maxRecDepth 100000 in
theorem c_X5_rest (l : Launch) (g : dd_G) (ad : Nat → Nat) (X : va_W) (sz : Nat) (sg : dd_S) (a1 : Int32) (a2 : Int32) (r0 : Int32) (hf : f_X5_rest sg a1 a2 = some (r0)) : Met l yX5_rest (lw_ws yX5_rest cX5_rest 5 (some .int)) ({ frames := 2, cells := 0, slots := 0, locals := 44 } : Room) (va_Pc [.ref (ad 30), .int a1, .int a2] (PreW g (WC g ad sg ++ X) sz)) (QI g (WC g ad sg ++ X) (dd_A 59 ad X sz) r0) 0 0 (dd_A 59 ad X sz) := by
  refine Met.ofW (cc := cX5_rest) (maxL := 5) (ret := some .int) (by decide) rfl ?_
  intro p e s m args below meth c s₁ B hml hv
  obtain ⟨rfl, rfl, hP, hK, hD0⟩ := hv
  have hx := B.exec
  have hb := B.bytes
  have hr := B.returns
  have hts := atoms_spec (ws := (lw_ws yX5_rest cX5_rest 5 (some .int))) B.pre
  have hts : ∀ w ∈ lw_all, w.before _ s = true := fun w h => hts w (List.mem_cons_of_mem _ h)
  have hown : s.vm.findClass RX5 = some m.cls := findClass_of_methodNamed B.named
  have hlocks := B.notSynchronized
  have hD : ∀ s2 : dd_S, va_D (dd_A 59 ad X s.heap.size) (WC g ad s2 ++ X) := fun s2 => dd_D (dd_A_D hD0)
  have hS : va_S (dd_A 59 ad X s.heap.size) s.heap s.heap [] := va_S.rf
  have hL_19 : ∀ (H : Heap) (locs : List Loc) (ls : Array Slot), f_X5_rest_19 sg a1 a2 = some (r0) → va_P g.1 vwCl (WC g ad sg ++ X) H → va_S (dd_A 59 ad X s.heap.size) s.heap H locs → lv_has ls 5 [] → W p l e (headSpec (lw_ws yX5_rest cX5_rest 5 (some .int)) ({ frames := 2, cells := 0, slots := 0, locals := 44 } : Room)).room s m ([.ref (ad 30), .int a1, .int a2] : List Value).toArray below meth c H locs 0 0 (MQ below (QI g (WC g ad sg ++ X) (dd_A 59 ad X s.heap.size) r0) ([.ref (ad 30), .int a1, .int a2] : List Value).toArray s 0 0 (dd_A 59 ad X s.heap.size)) (F0 m 19 ls []) := by
    intro H locs ls hf hP hS hl
    unfold f_X5_rest_19 at hf
    cases hf
  have hL_69 : ∀ (t0 : Int32) (H : Heap) (locs : List Loc) (ls : Array Slot), f_X5_rest_69 sg a1 a2 t0 = some (r0) → va_P g.1 vwCl (WC g ad sg ++ X) H → va_S (dd_A 59 ad X s.heap.size) s.heap H locs → lv_has ls 5 [] → W p l e (headSpec (lw_ws yX5_rest cX5_rest 5 (some .int)) ({ frames := 2, cells := 0, slots := 0, locals := 44 } : Room)).room s m ([.ref (ad 30), .int a1, .int a2] : List Value).toArray below meth c H locs 0 0 (MQ below (QI g (WC g ad sg ++ X) (dd_A 59 ad X s.heap.size) r0) ([.ref (ad 30), .int a1, .int a2] : List Value).toArray s 0 0 (dd_A 59 ad X s.heap.size)) (F0 m 69 ls [.int t0]) := by
    intro t0 H locs ls hf hP hS hl
    unfold f_X5_rest_69 at hf
    exact W.iret (v := t0) hx hb hr (fun t ht hW => ⟨⟨t0, (), rfl, so1 hf, P_at ht hP⟩, hS.F ht⟩) hS.2.2 dX5_rest_69
  have hL_58 : ∀ (H : Heap) (locs : List Loc) (ls : Array Slot), f_X5_rest_58 sg a1 a2 = some (r0) → va_P g.1 vwCl (WC g ad sg ++ X) H → va_S (dd_A 59 ad X s.heap.size) s.heap H locs → lv_has ls 5 [] → W p l e (headSpec (lw_ws yX5_rest cX5_rest 5 (some .int)) ({ frames := 2, cells := 0, slots := 0, locals := 44 } : Room)).room s m ([.ref (ad 30), .int a1, .int a2] : List Value).toArray below meth c H locs 0 0 (MQ below (QI g (WC g ad sg ++ X) (dd_A 59 ad X s.heap.size) r0) ([.ref (ad 30), .int a1, .int a2] : List Value).toArray s 0 0 (dd_A 59 ad X s.heap.size)) (F0 m 58 ls []) := by
    intro H locs ls hf hP hS hl
    unfold f_X5_rest_58 at hf
    refine lv_iconst (v := (-1 : Int32)) hx hb dX5_rest_58 (by decide) ?_
    refine lv_goto (tgt := 69) hx hb dX5_rest_59 (by decide) ?_
    exact hL_69 (-1 : Int32) _ _ _ hf hP hS (lv_sub hl [] rfl)
  unfold f_X5_rest at hf
  have hl := lv_entry ([.ref (ad 30), .int a1, .int a2]) (n := 5) (Nat.le_of_ble_eq_true rfl)
  rw [lg_entry_eq]
  generalize (lg_sl ([.ref (ad 30), .int a1, .int a2]) ++ List.replicate (5 - (lg_sl ([.ref (ad 30), .int a1, .int a2])).length) Slot.unset).toArray = ls at hl ⊢
  have hl : lv_has ls 5 [(0, .ref (ad 30)), (1, .int a1), (2, .int a2)] := hl
  refine lv_aload_n hx hb dX5_rest_0 rfl (lv_at hl 0 rfl) ?_
  refine lv_iload_n hx hb dX5_rest_1 rfl (lv_at hl 1 rfl) ?_
  obtain ⟨r2, q1, hf⟩ := bd_so hf
  refine cl_i (va_runV (As := [.int a1]) (rest := []) ⟨hx, hb, hml, hown, hts⟩ (c_X5_isDriver l g ad X _ sg a1 r2 q1) (cwV 1 hts gl_X5_266 rfl rfl rfl yd_X5_isDriver ⟨Nat.le_of_ble_eq_true rfl, Nat.le_of_ble_eq_true rfl⟩) (preV_of hK hP (hD sg) (dd_at (by decide) cc_30) rfl) rfl rfl hl.1 rfl (lv_room (Nat.le_of_ble_eq_true rfl)) dX5_rest_2 ⟨Nat.le_of_ble_eq_true rfl, Nat.le_of_ble_eq_true rfl⟩) hS (fun q h => dd_A_mono hS.1 h) (fun q h => dd_A_mono hS.1 h) (fun H locs hP hS => ?_)
  refine lv_if_eq (tgt := 19) hx hb dX5_rest_5 (by decide) (fun c3 => ?_) (fun c3 => ?_)
  · have hf := if_t c3 hf
    exact hL_19 _ _ _ hf hP hS (lv_sub hl [] rfl)
  · have hf := if_f c3 hf
    refine lv_iload_n hx hb dX5_rest_8 rfl (lv_at hl 2 rfl) ?_
    obtain ⟨r5, q4, hf⟩ := bd_so hf
    refine cl_i (va_runS (As := [.int a2]) (rest := []) ⟨hx, hb, hml, hown, hts⟩ (c_X5_isDay l g ad X _ sg a2 r5 q4) (cwS 1 hts gl_X5_269 rfl rfl rfl yd_X5_isDay ⟨Nat.le_of_ble_eq_true rfl, Nat.le_of_ble_eq_true rfl⟩) (preS_of hK hP (hD sg)) rfl rfl hl.1 rfl (lv_room (Nat.le_of_ble_eq_true rfl)) dX5_rest_9 ⟨Nat.le_of_ble_eq_true rfl, Nat.le_of_ble_eq_true rfl⟩) hS (fun q h => dd_A_mono hS.1 h) (fun q h => dd_A_mono hS.1 h) (fun H locs hP hS => ?_)
    refine lv_if_eq (tgt := 19) hx hb dX5_rest_12 (by decide) (fun c6 => ?_) (fun c6 => ?_)
    · have hf := if_t c6 hf
      exact hL_19 _ _ _ hf hP hS (lv_sub hl [] rfl)
    · have hf := if_f c6 hf
      refine lv_iload_n hx hb dX5_rest_15 rfl (lv_at hl 2 rfl) ?_
      refine lv_if_ne (tgt := 30) hx hb dX5_rest_16 (by decide) (fun c7 => ?_) (fun c7 => ?_)
      · have hf := if_f c7 hf
        refine lv_aload_n hx hb dX5_rest_30 rfl (lv_at hl 0 rfl) ?_
        refine lv_iload_n hx hb dX5_rest_31 rfl (lv_at hl 1 rfl) ?_
        refine lv_iload_n hx hb dX5_rest_32 rfl (lv_at hl 2 rfl) ?_
        refine lv_iconst (v := (1 : Int32)) hx hb dX5_rest_33 (by decide) ?_
        refine lv_isub hx hb dX5_rest_34 ?_
        obtain ⟨r9, q8, hf⟩ := bd_so hf
        refine cl_i (va_runV (As := [.int a1, .int (a2 - (1 : Int32))]) (rest := []) ⟨hx, hb, hml, hown, hts⟩ (c_X5_dutyOn l g ad X _ sg a1 (a2 - (1 : Int32)) r9 q8) (cwV 2 hts gl_X5_288 rfl rfl rfl yd_X5_dutyOn ⟨Nat.le_of_ble_eq_true rfl, Nat.le_of_ble_eq_true rfl⟩) (preV_of hK hP (hD sg) (dd_at (by decide) cc_30) rfl) rfl rfl hl.1 rfl (lv_room (Nat.le_of_ble_eq_true rfl)) dX5_rest_35 ⟨Nat.le_of_ble_eq_true rfl, Nat.le_of_ble_eq_true rfl⟩) hS (fun q h => dd_A_mono hS.1 h) (fun q h => dd_A_mono hS.1 h) (fun H locs hP hS => ?_)
        refine lv_istore_n (lv' := [(3, .int r9), (0, .ref (ad 30)), (1, .int a1), (2, .int a2)]) hx hb dX5_rest_38 rfl hl (by decide) rfl (fun ls hl => ?_)
        refine lv_aload_n hx hb dX5_rest_39 rfl (lv_at hl 1 rfl) ?_
        refine lv_iload_n hx hb dX5_rest_40 rfl (lv_at hl 2 rfl) ?_
        refine lv_iload_n hx hb dX5_rest_41 rfl (lv_at hl 3 rfl) ?_
        obtain ⟨r11, q10, hf⟩ := bd_so hf
        refine cl_i (va_runV (As := [.int a1, .int a2]) (rest := []) ⟨hx, hb, hml, hown, hts⟩ (c_X5_dutyOn l g ad X _ sg a1 a2 r11 q10) (cwV 2 hts gl_X5_288 rfl rfl rfl yd_X5_dutyOn ⟨Nat.le_of_ble_eq_true rfl, Nat.le_of_ble_eq_true rfl⟩) (preV_of hK hP (hD sg) (dd_at (by decide) cc_30) rfl) rfl rfl hl.1 rfl (lv_room (Nat.le_of_ble_eq_true rfl)) dX5_rest_42 ⟨Nat.le_of_ble_eq_true rfl, Nat.le_of_ble_eq_true rfl⟩) hS (fun q h => dd_A_mono hS.1 h) (fun q h => dd_A_mono hS.1 h) (fun H locs hP hS => ?_)
        refine lv_istore (lv' := [(4, .int r11), (3, .int r9), (0, .ref (ad 30)), (1, .int a1), (2, .int a2)]) hx hb dX5_rest_45 hl (by decide) rfl (fun ls hl => ?_)
        refine lv_iload_n hx hb dX5_rest_47 rfl (lv_at hl 1 rfl) ?_
        refine lv_iconst (v := (-1 : Int32)) hx hb dX5_rest_48 (by decide) ?_
        refine lv_icmp_eq (tgt := 58) hx hb dX5_rest_49 (by decide) (fun c12 => ?_) (fun c12 => ?_)
        · have hf := if_t c12 hf
          exact hL_58 _ _ _ hf hP hS (lv_sub hl [] rfl)
        · have hf := if_f c12 hf
          refine lv_iload hx hb dX5_rest_52 (lv_at hl 0 rfl) ?_
          refine lv_iconst (v := (-1 : Int32)) hx hb dX5_rest_54 (by decide) ?_
          refine lv_icmp_ne (tgt := 62) hx hb dX5_rest_55 (by decide) (fun c13 => ?_) (fun c13 => ?_)
          · have hf := if_f c13 hf
            refine lv_aload_n hx hb dX5_rest_62 rfl (lv_at hl 2 rfl) ?_
            refine lv_iload_n hx hb dX5_rest_63 rfl (lv_at hl 1 rfl) ?_
            refine lv_iload hx hb dX5_rest_64 (lv_at hl 0 rfl) ?_
            obtain ⟨r15, q14, hf⟩ := bd_so hf
            refine cl_i (va_runV (As := [.int r9, .int r11]) (rest := []) ⟨hx, hb, hml, hown, hts⟩ (c_X5_restBetween l g ad X _ sg r9 r11 r15 q14) (cwV 2 hts gl_X5_311 rfl rfl rfl yd_X5_restBetween ⟨Nat.le_of_ble_eq_true rfl, Nat.le_of_ble_eq_true rfl⟩) (preV_of hK hP (hD sg) (dd_at (by decide) cc_30) rfl) rfl rfl hl.1 rfl (lv_room (Nat.le_of_ble_eq_true rfl)) dX5_rest_66 ⟨Nat.le_of_ble_eq_true rfl, Nat.le_of_ble_eq_true rfl⟩) hS (fun q h => dd_A_mono hS.1 h) (fun q h => dd_A_mono hS.1 h) (fun H locs hP hS => ?_)
            exact hL_69 r15 _ _ _ hf hP hS (lv_sub hl [] rfl)
          · have hf := if_t c13 hf
            exact hL_58 _ _ _ hf hP hS (lv_sub hl [] rfl)
      · have hf := if_t c7 hf
        exact hL_19 _ _ _ hf hP hS (lv_sub hl [] rfl)
