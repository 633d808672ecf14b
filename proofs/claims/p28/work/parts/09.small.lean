set_option maxHeartbeats 4000000 in
set_option maxRecDepth 100000 in
theorem c_X4_departureOf (l : Launch) (g : dd_G) (ad : Nat → Nat) (X : va_W) (sz : Nat) (sg : dd_S) (a1 : Int32) (r0 : Int32) (hf : f_X4_departureOf sg a1 = some (r0)) : Met l yX4_departureOf (lw_ws yX4_departureOf cX4_departureOf 2 (some .int)) ({ frames := 0, cells := 0, slots := 0, locals := 0 } : Room) (va_Pc [.ref (ad 31), .int a1] (PreW g (WC g ad sg ++ X) sz)) (QI g (WC g ad sg ++ X) (dd_A 59 ad X sz) r0) 0 0 (dd_A 59 ad X sz) := by
  refine Met.ofW (cc := cX4_departureOf) (maxL := 2) (ret := some .int) (by decide) rfl ?_
  intro p e s m args below meth c s₁ B hml hv
  obtain ⟨rfl, rfl, hP, hK, hD0⟩ := hv
  have hx := B.exec
  have hb := B.bytes
  have hr := B.returns
  have hts := atoms_spec (ws := (lw_ws yX4_departureOf cX4_departureOf 2 (some .int))) B.pre
  have hts : ∀ w ∈ lw_all, w.before _ s = true := fun w h => hts w (List.mem_cons_of_mem _ h)
  have hown : s.vm.findClass RX4 = some m.cls := findClass_of_methodNamed B.named
  have hlocks := B.notSynchronized
  have hD : ∀ s2 : dd_S, va_D (dd_A 59 ad X s.heap.size) (WC g ad s2 ++ X) := fun s2 => dd_D (dd_A_D hD0)
  have hS : va_S (dd_A 59 ad X s.heap.size) s.heap s.heap [] := va_S.rf
  have hL_23 : ∀ (t0 : Int32) (H : Heap) (locs : List Loc) (ls : Array Slot), f_X4_departureOf_23 sg a1 t0 = some (r0) → va_P g.1 vwCl (WC g ad sg ++ X) H → va_S (dd_A 59 ad X s.heap.size) s.heap H locs → lv_has ls 2 [] → W p l e (headSpec (lw_ws yX4_departureOf cX4_departureOf 2 (some .int)) ({ frames := 0, cells := 0, slots := 0, locals := 0 } : Room)).room s m ([.ref (ad 31), .int a1] : List Value).toArray below meth c H locs 0 0 (MQ below (QI g (WC g ad sg ++ X) (dd_A 59 ad X s.heap.size) r0) ([.ref (ad 31), .int a1] : List Value).toArray s 0 0 (dd_A 59 ad X s.heap.size)) (F0 m 23 ls [.int t0]) := by
    intro t0 H locs ls hf hP hS hl
    unfold f_X4_departureOf_23 at hf
    exact W.iret (v := t0) hx hb hr (fun t ht hW => ⟨⟨t0, (), rfl, so1 hf, P_at ht hP⟩, hS.F ht⟩) hS.2.2 dX4_departureOf_23
  have hL_22 : ∀ (H : Heap) (locs : List Loc) (ls : Array Slot), f_X4_departureOf_22 sg a1 = some (r0) → va_P g.1 vwCl (WC g ad sg ++ X) H → va_S (dd_A 59 ad X s.heap.size) s.heap H locs → lv_has ls 2 [] → W p l e (headSpec (lw_ws yX4_departureOf cX4_departureOf 2 (some .int)) ({ frames := 0, cells := 0, slots := 0, locals := 0 } : Room)).room s m ([.ref (ad 31), .int a1] : List Value).toArray below meth c H locs 0 0 (MQ below (QI g (WC g ad sg ++ X) (dd_A 59 ad X s.heap.size) r0) ([.ref (ad 31), .int a1] : List Value).toArray s 0 0 (dd_A 59 ad X s.heap.size)) (F0 m 22 ls []) := by
    intro H locs ls hf hP hS hl
    unfold f_X4_departureOf_22 at hf
    refine lv_iconst (v := (0 : Int32)) hx hb dX4_departureOf_22 (by decide) ?_
    exact hL_23 (0 : Int32) _ _ _ hf hP hS (lv_sub hl [] rfl)
  unfold f_X4_departureOf at hf
  have hl := lv_entry ([.ref (ad 31), .int a1]) (n := 2) (Nat.le_of_ble_eq_true rfl)
  rw [lg_entry_eq]
  generalize (lg_sl ([.ref (ad 31), .int a1]) ++ List.replicate (2 - (lg_sl ([.ref (ad 31), .int a1])).length) Slot.unset).toArray = ls at hl ⊢
  have hl : lv_has ls 2 [(0, .ref (ad 31)), (1, .int a1)] := hl
  refine lv_iload_n hx hb dX4_departureOf_0 rfl (lv_at hl 1 rfl) ?_
  refine lv_if_lt (tgt := 22) hx hb dX4_departureOf_1 (by decide) (fun c1 => ?_) (fun c1 => ?_)
  · have hf := if_t c1 hf
    exact hL_22 _ _ _ hf hP hS (lv_sub hl [] rfl)
  · have hf := if_f c1 hf
    refine lv_iload_n hx hb dX4_departureOf_4 rfl (lv_at hl 1 rfl) ?_
    refine lv_aload_n hx hb dX4_departureOf_5 rfl (lv_at hl 0 rfl) ?_
    refine gf_X4_23 hx hb hts hown hK hP dX4_departureOf_6 ?_
    refine W_alen (v := (40 : Int32)) hx hb hK hP 43 (by decide) cc_43 0 rfl (by decide) dX4_departureOf_9 ?_
    refine lv_icmp_ge (tgt := 22) hx hb dX4_departureOf_10 (by decide) (fun c2 => ?_) (fun c2 => ?_)
    · have hf := if_t c2 hf
      exact hL_22 _ _ _ hf hP hS (lv_sub hl [] rfl)
    · have hf := if_f c2 hf
      refine lv_aload_n hx hb dX4_departureOf_13 rfl (lv_at hl 0 rfl) ?_
      refine gf_X4_23 hx hb hts hown hK hP dX4_departureOf_14 ?_
      refine lv_iload_n hx hb dX4_departureOf_17 rfl (lv_at hl 1 rfl) ?_
      obtain ⟨hi3, hf⟩ := gd_so hf
      refine W_iald hx hb hK hP 43 (by decide) cc_43 (ix_in hi3) dX4_departureOf_18 ?_
      refine lv_goto (tgt := 23) hx hb dX4_departureOf_19 (by decide) ?_
      exact hL_23 (sg 43 a1.toNatClampNeg) _ _ _ hf hP hS (lv_sub hl [] rfl)
set_option maxHeartbeats 4000000 in
set_option maxRecDepth 100000 in
theorem c_X4_fromOf (l : Launch) (g : dd_G) (ad : Nat → Nat) (X : va_W) (sz : Nat) (sg : dd_S) (a1 : Int32) (r0 : Int32) (hf : f_X4_fromOf sg a1 = some (r0)) : Met l yX4_fromOf (lw_ws yX4_fromOf cX4_fromOf 2 (some .int)) ({ frames := 0, cells := 0, slots := 0, locals := 0 } : Room) (va_Pc [.ref (ad 31), .int a1] (PreW g (WC g ad sg ++ X) sz)) (QI g (WC g ad sg ++ X) (dd_A 59 ad X sz) r0) 0 0 (dd_A 59 ad X sz) := by
  refine Met.ofW (cc := cX4_fromOf) (maxL := 2) (ret := some .int) (by decide) rfl ?_
  intro p e s m args below meth c s₁ B hml hv
  obtain ⟨rfl, rfl, hP, hK, hD0⟩ := hv
  have hx := B.exec
  have hb := B.bytes
  have hr := B.returns
  have hts := atoms_spec (ws := (lw_ws yX4_fromOf cX4_fromOf 2 (some .int))) B.pre
  have hts : ∀ w ∈ lw_all, w.before _ s = true := fun w h => hts w (List.mem_cons_of_mem _ h)
  have hown : s.vm.findClass RX4 = some m.cls := findClass_of_methodNamed B.named
  have hlocks := B.notSynchronized
  have hD : ∀ s2 : dd_S, va_D (dd_A 59 ad X s.heap.size) (WC g ad s2 ++ X) := fun s2 => dd_D (dd_A_D hD0)
  have hS : va_S (dd_A 59 ad X s.heap.size) s.heap s.heap [] := va_S.rf
  have hL_23 : ∀ (t0 : Int32) (H : Heap) (locs : List Loc) (ls : Array Slot), f_X4_fromOf_23 sg a1 t0 = some (r0) → va_P g.1 vwCl (WC g ad sg ++ X) H → va_S (dd_A 59 ad X s.heap.size) s.heap H locs → lv_has ls 2 [] → W p l e (headSpec (lw_ws yX4_fromOf cX4_fromOf 2 (some .int)) ({ frames := 0, cells := 0, slots := 0, locals := 0 } : Room)).room s m ([.ref (ad 31), .int a1] : List Value).toArray below meth c H locs 0 0 (MQ below (QI g (WC g ad sg ++ X) (dd_A 59 ad X s.heap.size) r0) ([.ref (ad 31), .int a1] : List Value).toArray s 0 0 (dd_A 59 ad X s.heap.size)) (F0 m 23 ls [.int t0]) := by
    intro t0 H locs ls hf hP hS hl
    unfold f_X4_fromOf_23 at hf
    exact W.iret (v := t0) hx hb hr (fun t ht hW => ⟨⟨t0, (), rfl, so1 hf, P_at ht hP⟩, hS.F ht⟩) hS.2.2 dX4_fromOf_23
  have hL_22 : ∀ (H : Heap) (locs : List Loc) (ls : Array Slot), f_X4_fromOf_22 sg a1 = some (r0) → va_P g.1 vwCl (WC g ad sg ++ X) H → va_S (dd_A 59 ad X s.heap.size) s.heap H locs → lv_has ls 2 [] → W p l e (headSpec (lw_ws yX4_fromOf cX4_fromOf 2 (some .int)) ({ frames := 0, cells := 0, slots := 0, locals := 0 } : Room)).room s m ([.ref (ad 31), .int a1] : List Value).toArray below meth c H locs 0 0 (MQ below (QI g (WC g ad sg ++ X) (dd_A 59 ad X s.heap.size) r0) ([.ref (ad 31), .int a1] : List Value).toArray s 0 0 (dd_A 59 ad X s.heap.size)) (F0 m 22 ls []) := by
    intro H locs ls hf hP hS hl
    unfold f_X4_fromOf_22 at hf
    refine lv_iconst (v := (0 : Int32)) hx hb dX4_fromOf_22 (by decide) ?_
    exact hL_23 (0 : Int32) _ _ _ hf hP hS (lv_sub hl [] rfl)
  unfold f_X4_fromOf at hf
  have hl := lv_entry ([.ref (ad 31), .int a1]) (n := 2) (Nat.le_of_ble_eq_true rfl)
  rw [lg_entry_eq]
  generalize (lg_sl ([.ref (ad 31), .int a1]) ++ List.replicate (2 - (lg_sl ([.ref (ad 31), .int a1])).length) Slot.unset).toArray = ls at hl ⊢
  have hl : lv_has ls 2 [(0, .ref (ad 31)), (1, .int a1)] := hl
  refine lv_iload_n hx hb dX4_fromOf_0 rfl (lv_at hl 1 rfl) ?_
  refine lv_if_lt (tgt := 22) hx hb dX4_fromOf_1 (by decide) (fun c1 => ?_) (fun c1 => ?_)
  · have hf := if_t c1 hf
    exact hL_22 _ _ _ hf hP hS (lv_sub hl [] rfl)
  · have hf := if_f c1 hf
    refine lv_iload_n hx hb dX4_fromOf_4 rfl (lv_at hl 1 rfl) ?_
    refine lv_aload_n hx hb dX4_fromOf_5 rfl (lv_at hl 0 rfl) ?_
    refine gf_X4_16 hx hb hts hown hK hP dX4_fromOf_6 ?_
    refine W_alen (v := (40 : Int32)) hx hb hK hP 41 (by decide) cc_41 0 rfl (by decide) dX4_fromOf_9 ?_
    refine lv_icmp_ge (tgt := 22) hx hb dX4_fromOf_10 (by decide) (fun c2 => ?_) (fun c2 => ?_)
    · have hf := if_t c2 hf
      exact hL_22 _ _ _ hf hP hS (lv_sub hl [] rfl)
    · have hf := if_f c2 hf
      refine lv_aload_n hx hb dX4_fromOf_13 rfl (lv_at hl 0 rfl) ?_
      refine gf_X4_16 hx hb hts hown hK hP dX4_fromOf_14 ?_
      refine lv_iload_n hx hb dX4_fromOf_17 rfl (lv_at hl 1 rfl) ?_
      obtain ⟨hi3, hf⟩ := gd_so hf
      refine W_iald hx hb hK hP 41 (by decide) cc_41 (ix_in hi3) dX4_fromOf_18 ?_
      refine lv_goto (tgt := 23) hx hb dX4_fromOf_19 (by decide) ?_
      exact hL_23 (sg 41 a1.toNatClampNeg) _ _ _ hf hP hS (lv_sub hl [] rfl)
set_option maxHeartbeats 4000000 in
set_option maxRecDepth 100000 in
theorem c_X4_toOf (l : Launch) (g : dd_G) (ad : Nat → Nat) (X : va_W) (sz : Nat) (sg : dd_S) (a1 : Int32) (r0 : Int32) (hf : f_X4_toOf sg a1 = some (r0)) : Met l yX4_toOf (lw_ws yX4_toOf cX4_toOf 2 (some .int)) ({ frames := 0, cells := 0, slots := 0, locals := 0 } : Room) (va_Pc [.ref (ad 31), .int a1] (PreW g (WC g ad sg ++ X) sz)) (QI g (WC g ad sg ++ X) (dd_A 59 ad X sz) r0) 0 0 (dd_A 59 ad X sz) := by
  refine Met.ofW (cc := cX4_toOf) (maxL := 2) (ret := some .int) (by decide) rfl ?_
  intro p e s m args below meth c s₁ B hml hv
  obtain ⟨rfl, rfl, hP, hK, hD0⟩ := hv
  have hx := B.exec
  have hb := B.bytes
  have hr := B.returns
  have hts := atoms_spec (ws := (lw_ws yX4_toOf cX4_toOf 2 (some .int))) B.pre
  have hts : ∀ w ∈ lw_all, w.before _ s = true := fun w h => hts w (List.mem_cons_of_mem _ h)
  have hown : s.vm.findClass RX4 = some m.cls := findClass_of_methodNamed B.named
  have hlocks := B.notSynchronized
  have hD : ∀ s2 : dd_S, va_D (dd_A 59 ad X s.heap.size) (WC g ad s2 ++ X) := fun s2 => dd_D (dd_A_D hD0)
  have hS : va_S (dd_A 59 ad X s.heap.size) s.heap s.heap [] := va_S.rf
  have hL_23 : ∀ (t0 : Int32) (H : Heap) (locs : List Loc) (ls : Array Slot), f_X4_toOf_23 sg a1 t0 = some (r0) → va_P g.1 vwCl (WC g ad sg ++ X) H → va_S (dd_A 59 ad X s.heap.size) s.heap H locs → lv_has ls 2 [] → W p l e (headSpec (lw_ws yX4_toOf cX4_toOf 2 (some .int)) ({ frames := 0, cells := 0, slots := 0, locals := 0 } : Room)).room s m ([.ref (ad 31), .int a1] : List Value).toArray below meth c H locs 0 0 (MQ below (QI g (WC g ad sg ++ X) (dd_A 59 ad X s.heap.size) r0) ([.ref (ad 31), .int a1] : List Value).toArray s 0 0 (dd_A 59 ad X s.heap.size)) (F0 m 23 ls [.int t0]) := by
    intro t0 H locs ls hf hP hS hl
    unfold f_X4_toOf_23 at hf
    exact W.iret (v := t0) hx hb hr (fun t ht hW => ⟨⟨t0, (), rfl, so1 hf, P_at ht hP⟩, hS.F ht⟩) hS.2.2 dX4_toOf_23
  have hL_22 : ∀ (H : Heap) (locs : List Loc) (ls : Array Slot), f_X4_toOf_22 sg a1 = some (r0) → va_P g.1 vwCl (WC g ad sg ++ X) H → va_S (dd_A 59 ad X s.heap.size) s.heap H locs → lv_has ls 2 [] → W p l e (headSpec (lw_ws yX4_toOf cX4_toOf 2 (some .int)) ({ frames := 0, cells := 0, slots := 0, locals := 0 } : Room)).room s m ([.ref (ad 31), .int a1] : List Value).toArray below meth c H locs 0 0 (MQ below (QI g (WC g ad sg ++ X) (dd_A 59 ad X s.heap.size) r0) ([.ref (ad 31), .int a1] : List Value).toArray s 0 0 (dd_A 59 ad X s.heap.size)) (F0 m 22 ls []) := by
    intro H locs ls hf hP hS hl
    unfold f_X4_toOf_22 at hf
    refine lv_iconst (v := (0 : Int32)) hx hb dX4_toOf_22 (by decide) ?_
    exact hL_23 (0 : Int32) _ _ _ hf hP hS (lv_sub hl [] rfl)
  unfold f_X4_toOf at hf
  have hl := lv_entry ([.ref (ad 31), .int a1]) (n := 2) (Nat.le_of_ble_eq_true rfl)
  rw [lg_entry_eq]
  generalize (lg_sl ([.ref (ad 31), .int a1]) ++ List.replicate (2 - (lg_sl ([.ref (ad 31), .int a1])).length) Slot.unset).toArray = ls at hl ⊢
  have hl : lv_has ls 2 [(0, .ref (ad 31)), (1, .int a1)] := hl
  refine lv_iload_n hx hb dX4_toOf_0 rfl (lv_at hl 1 rfl) ?_
  refine lv_if_lt (tgt := 22) hx hb dX4_toOf_1 (by decide) (fun c1 => ?_) (fun c1 => ?_)
  · have hf := if_t c1 hf
    exact hL_22 _ _ _ hf hP hS (lv_sub hl [] rfl)
  · have hf := if_f c1 hf
    refine lv_iload_n hx hb dX4_toOf_4 rfl (lv_at hl 1 rfl) ?_
    refine lv_aload_n hx hb dX4_toOf_5 rfl (lv_at hl 0 rfl) ?_
    refine gf_X4_20 hx hb hts hown hK hP dX4_toOf_6 ?_
    refine W_alen (v := (40 : Int32)) hx hb hK hP 42 (by decide) cc_42 0 rfl (by decide) dX4_toOf_9 ?_
    refine lv_icmp_ge (tgt := 22) hx hb dX4_toOf_10 (by decide) (fun c2 => ?_) (fun c2 => ?_)
    · have hf := if_t c2 hf
      exact hL_22 _ _ _ hf hP hS (lv_sub hl [] rfl)
    · have hf := if_f c2 hf
      refine lv_aload_n hx hb dX4_toOf_13 rfl (lv_at hl 0 rfl) ?_
      refine gf_X4_20 hx hb hts hown hK hP dX4_toOf_14 ?_
      refine lv_iload_n hx hb dX4_toOf_17 rfl (lv_at hl 1 rfl) ?_
      obtain ⟨hi3, hf⟩ := gd_so hf
      refine W_iald hx hb hK hP 42 (by decide) cc_42 (ix_in hi3) dX4_toOf_18 ?_
      refine lv_goto (tgt := 23) hx hb dX4_toOf_19 (by decide) ?_
      exact hL_23 (sg 42 a1.toNatClampNeg) _ _ _ hf hP hS (lv_sub hl [] rfl)
set_option maxHeartbeats 4000000 in
set_option maxRecDepth 100000 in
theorem c_X4_arrivalOf (l : Launch) (g : dd_G) (ad : Nat → Nat) (X : va_W) (sz : Nat) (sg : dd_S) (a1 : Int32) (r0 : Int32) (hf : f_X4_arrivalOf sg a1 = some (r0)) : Met l yX4_arrivalOf (lw_ws yX4_arrivalOf cX4_arrivalOf 2 (some .int)) ({ frames := 0, cells := 0, slots := 0, locals := 0 } : Room) (va_Pc [.ref (ad 31), .int a1] (PreW g (WC g ad sg ++ X) sz)) (QI g (WC g ad sg ++ X) (dd_A 59 ad X sz) r0) 0 0 (dd_A 59 ad X sz) := by
  refine Met.ofW (cc := cX4_arrivalOf) (maxL := 2) (ret := some .int) (by decide) rfl ?_
  intro p e s m args below meth c s₁ B hml hv
  obtain ⟨rfl, rfl, hP, hK, hD0⟩ := hv
  have hx := B.exec
  have hb := B.bytes
  have hr := B.returns
  have hts := atoms_spec (ws := (lw_ws yX4_arrivalOf cX4_arrivalOf 2 (some .int))) B.pre
  have hts : ∀ w ∈ lw_all, w.before _ s = true := fun w h => hts w (List.mem_cons_of_mem _ h)
  have hown : s.vm.findClass RX4 = some m.cls := findClass_of_methodNamed B.named
  have hlocks := B.notSynchronized
  have hD : ∀ s2 : dd_S, va_D (dd_A 59 ad X s.heap.size) (WC g ad s2 ++ X) := fun s2 => dd_D (dd_A_D hD0)
  have hS : va_S (dd_A 59 ad X s.heap.size) s.heap s.heap [] := va_S.rf
  have hL_23 : ∀ (t0 : Int32) (H : Heap) (locs : List Loc) (ls : Array Slot), f_X4_arrivalOf_23 sg a1 t0 = some (r0) → va_P g.1 vwCl (WC g ad sg ++ X) H → va_S (dd_A 59 ad X s.heap.size) s.heap H locs → lv_has ls 2 [] → W p l e (headSpec (lw_ws yX4_arrivalOf cX4_arrivalOf 2 (some .int)) ({ frames := 0, cells := 0, slots := 0, locals := 0 } : Room)).room s m ([.ref (ad 31), .int a1] : List Value).toArray below meth c H locs 0 0 (MQ below (QI g (WC g ad sg ++ X) (dd_A 59 ad X s.heap.size) r0) ([.ref (ad 31), .int a1] : List Value).toArray s 0 0 (dd_A 59 ad X s.heap.size)) (F0 m 23 ls [.int t0]) := by
    intro t0 H locs ls hf hP hS hl
    unfold f_X4_arrivalOf_23 at hf
    exact W.iret (v := t0) hx hb hr (fun t ht hW => ⟨⟨t0, (), rfl, so1 hf, P_at ht hP⟩, hS.F ht⟩) hS.2.2 dX4_arrivalOf_23
  have hL_22 : ∀ (H : Heap) (locs : List Loc) (ls : Array Slot), f_X4_arrivalOf_22 sg a1 = some (r0) → va_P g.1 vwCl (WC g ad sg ++ X) H → va_S (dd_A 59 ad X s.heap.size) s.heap H locs → lv_has ls 2 [] → W p l e (headSpec (lw_ws yX4_arrivalOf cX4_arrivalOf 2 (some .int)) ({ frames := 0, cells := 0, slots := 0, locals := 0 } : Room)).room s m ([.ref (ad 31), .int a1] : List Value).toArray below meth c H locs 0 0 (MQ below (QI g (WC g ad sg ++ X) (dd_A 59 ad X s.heap.size) r0) ([.ref (ad 31), .int a1] : List Value).toArray s 0 0 (dd_A 59 ad X s.heap.size)) (F0 m 22 ls []) := by
    intro H locs ls hf hP hS hl
    unfold f_X4_arrivalOf_22 at hf
    refine lv_iconst (v := (0 : Int32)) hx hb dX4_arrivalOf_22 (by decide) ?_
    exact hL_23 (0 : Int32) _ _ _ hf hP hS (lv_sub hl [] rfl)
  unfold f_X4_arrivalOf at hf
  have hl := lv_entry ([.ref (ad 31), .int a1]) (n := 2) (Nat.le_of_ble_eq_true rfl)
  rw [lg_entry_eq]
  generalize (lg_sl ([.ref (ad 31), .int a1]) ++ List.replicate (2 - (lg_sl ([.ref (ad 31), .int a1])).length) Slot.unset).toArray = ls at hl ⊢
  have hl : lv_has ls 2 [(0, .ref (ad 31)), (1, .int a1)] := hl
  refine lv_iload_n hx hb dX4_arrivalOf_0 rfl (lv_at hl 1 rfl) ?_
  refine lv_if_lt (tgt := 22) hx hb dX4_arrivalOf_1 (by decide) (fun c1 => ?_) (fun c1 => ?_)
  · have hf := if_t c1 hf
    exact hL_22 _ _ _ hf hP hS (lv_sub hl [] rfl)
  · have hf := if_f c1 hf
    refine lv_iload_n hx hb dX4_arrivalOf_4 rfl (lv_at hl 1 rfl) ?_
    refine lv_aload_n hx hb dX4_arrivalOf_5 rfl (lv_at hl 0 rfl) ?_
    refine gf_X4_26 hx hb hts hown hK hP dX4_arrivalOf_6 ?_
    refine W_alen (v := (40 : Int32)) hx hb hK hP 44 (by decide) cc_44 0 rfl (by decide) dX4_arrivalOf_9 ?_
    refine lv_icmp_ge (tgt := 22) hx hb dX4_arrivalOf_10 (by decide) (fun c2 => ?_) (fun c2 => ?_)
    · have hf := if_t c2 hf
      exact hL_22 _ _ _ hf hP hS (lv_sub hl [] rfl)
    · have hf := if_f c2 hf
      refine lv_aload_n hx hb dX4_arrivalOf_13 rfl (lv_at hl 0 rfl) ?_
      refine gf_X4_26 hx hb hts hown hK hP dX4_arrivalOf_14 ?_
      refine lv_iload_n hx hb dX4_arrivalOf_17 rfl (lv_at hl 1 rfl) ?_
      obtain ⟨hi3, hf⟩ := gd_so hf
      refine W_iald hx hb hK hP 44 (by decide) cc_44 (ix_in hi3) dX4_arrivalOf_18 ?_
      refine lv_goto (tgt := 23) hx hb dX4_arrivalOf_19 (by decide) ?_
      exact hL_23 (sg 44 a1.toNatClampNeg) _ _ _ hf hP hS (lv_sub hl [] rfl)
set_option maxHeartbeats 4000000 in
set_option maxRecDepth 100000 in
theorem c_X4_minutesOf (l : Launch) (g : dd_G) (ad : Nat → Nat) (X : va_W) (sz : Nat) (sg : dd_S) (a1 : Int32) (r0 : Int32) (hf : f_X4_minutesOf sg a1 = some (r0)) : Met l yX4_minutesOf (lw_ws yX4_minutesOf cX4_minutesOf 2 (some .int)) ({ frames := 0, cells := 0, slots := 0, locals := 0 } : Room) (va_Pc [.ref (ad 31), .int a1] (PreW g (WC g ad sg ++ X) sz)) (QI g (WC g ad sg ++ X) (dd_A 59 ad X sz) r0) 0 0 (dd_A 59 ad X sz) := by
  refine Met.ofW (cc := cX4_minutesOf) (maxL := 2) (ret := some .int) (by decide) rfl ?_
  intro p e s m args below meth c s₁ B hml hv
  obtain ⟨rfl, rfl, hP, hK, hD0⟩ := hv
  have hx := B.exec
  have hb := B.bytes
  have hr := B.returns
  have hts := atoms_spec (ws := (lw_ws yX4_minutesOf cX4_minutesOf 2 (some .int))) B.pre
  have hts : ∀ w ∈ lw_all, w.before _ s = true := fun w h => hts w (List.mem_cons_of_mem _ h)
  have hown : s.vm.findClass RX4 = some m.cls := findClass_of_methodNamed B.named
  have hlocks := B.notSynchronized
  have hD : ∀ s2 : dd_S, va_D (dd_A 59 ad X s.heap.size) (WC g ad s2 ++ X) := fun s2 => dd_D (dd_A_D hD0)
  have hS : va_S (dd_A 59 ad X s.heap.size) s.heap s.heap [] := va_S.rf
  have hL_39 : ∀ (t0 : Int32) (H : Heap) (locs : List Loc) (ls : Array Slot), f_X4_minutesOf_39 sg a1 t0 = some (r0) → va_P g.1 vwCl (WC g ad sg ++ X) H → va_S (dd_A 59 ad X s.heap.size) s.heap H locs → lv_has ls 2 [] → W p l e (headSpec (lw_ws yX4_minutesOf cX4_minutesOf 2 (some .int)) ({ frames := 0, cells := 0, slots := 0, locals := 0 } : Room)).room s m ([.ref (ad 31), .int a1] : List Value).toArray below meth c H locs 0 0 (MQ below (QI g (WC g ad sg ++ X) (dd_A 59 ad X s.heap.size) r0) ([.ref (ad 31), .int a1] : List Value).toArray s 0 0 (dd_A 59 ad X s.heap.size)) (F0 m 39 ls [.int t0]) := by
    intro t0 H locs ls hf hP hS hl
    unfold f_X4_minutesOf_39 at hf
    exact W.iret (v := t0) hx hb hr (fun t ht hW => ⟨⟨t0, (), rfl, so1 hf, P_at ht hP⟩, hS.F ht⟩) hS.2.2 dX4_minutesOf_39
  have hL_38 : ∀ (H : Heap) (locs : List Loc) (ls : Array Slot), f_X4_minutesOf_38 sg a1 = some (r0) → va_P g.1 vwCl (WC g ad sg ++ X) H → va_S (dd_A 59 ad X s.heap.size) s.heap H locs → lv_has ls 2 [] → W p l e (headSpec (lw_ws yX4_minutesOf cX4_minutesOf 2 (some .int)) ({ frames := 0, cells := 0, slots := 0, locals := 0 } : Room)).room s m ([.ref (ad 31), .int a1] : List Value).toArray below meth c H locs 0 0 (MQ below (QI g (WC g ad sg ++ X) (dd_A 59 ad X s.heap.size) r0) ([.ref (ad 31), .int a1] : List Value).toArray s 0 0 (dd_A 59 ad X s.heap.size)) (F0 m 38 ls []) := by
    intro H locs ls hf hP hS hl
    unfold f_X4_minutesOf_38 at hf
    refine lv_iconst (v := (0 : Int32)) hx hb dX4_minutesOf_38 (by decide) ?_
    exact hL_39 (0 : Int32) _ _ _ hf hP hS (lv_sub hl [] rfl)
  unfold f_X4_minutesOf at hf
  have hl := lv_entry ([.ref (ad 31), .int a1]) (n := 2) (Nat.le_of_ble_eq_true rfl)
  rw [lg_entry_eq]
  generalize (lg_sl ([.ref (ad 31), .int a1]) ++ List.replicate (2 - (lg_sl ([.ref (ad 31), .int a1])).length) Slot.unset).toArray = ls at hl ⊢
  have hl : lv_has ls 2 [(0, .ref (ad 31)), (1, .int a1)] := hl
  refine lv_iload_n hx hb dX4_minutesOf_0 rfl (lv_at hl 1 rfl) ?_
  refine lv_if_lt (tgt := 38) hx hb dX4_minutesOf_1 (by decide) (fun c1 => ?_) (fun c1 => ?_)
  · have hf := if_t c1 hf
    exact hL_38 _ _ _ hf hP hS (lv_sub hl [] rfl)
  · have hf := if_f c1 hf
    refine lv_iload_n hx hb dX4_minutesOf_4 rfl (lv_at hl 1 rfl) ?_
    refine lv_aload_n hx hb dX4_minutesOf_5 rfl (lv_at hl 0 rfl) ?_
    refine gf_X4_23 hx hb hts hown hK hP dX4_minutesOf_6 ?_
    refine W_alen (v := (40 : Int32)) hx hb hK hP 43 (by decide) cc_43 0 rfl (by decide) dX4_minutesOf_9 ?_
    refine lv_icmp_ge (tgt := 38) hx hb dX4_minutesOf_10 (by decide) (fun c2 => ?_) (fun c2 => ?_)
    · have hf := if_t c2 hf
      exact hL_38 _ _ _ hf hP hS (lv_sub hl [] rfl)
    · have hf := if_f c2 hf
      refine lv_iload_n hx hb dX4_minutesOf_13 rfl (lv_at hl 1 rfl) ?_
      refine lv_aload_n hx hb dX4_minutesOf_14 rfl (lv_at hl 0 rfl) ?_
      refine gf_X4_26 hx hb hts hown hK hP dX4_minutesOf_15 ?_
      refine W_alen (v := (40 : Int32)) hx hb hK hP 44 (by decide) cc_44 0 rfl (by decide) dX4_minutesOf_18 ?_
      refine lv_icmp_ge (tgt := 38) hx hb dX4_minutesOf_19 (by decide) (fun c3 => ?_) (fun c3 => ?_)
      · have hf := if_t c3 hf
        exact hL_38 _ _ _ hf hP hS (lv_sub hl [] rfl)
      · have hf := if_f c3 hf
        refine lv_aload_n hx hb dX4_minutesOf_22 rfl (lv_at hl 0 rfl) ?_
        refine gf_X4_26 hx hb hts hown hK hP dX4_minutesOf_23 ?_
        refine lv_iload_n hx hb dX4_minutesOf_26 rfl (lv_at hl 1 rfl) ?_
        obtain ⟨hi4, hf⟩ := gd_so hf
        refine W_iald hx hb hK hP 44 (by decide) cc_44 (ix_in hi4) dX4_minutesOf_27 ?_
        refine lv_aload_n hx hb dX4_minutesOf_28 rfl (lv_at hl 0 rfl) ?_
        refine gf_X4_23 hx hb hts hown hK hP dX4_minutesOf_29 ?_
        refine lv_iload_n hx hb dX4_minutesOf_32 rfl (lv_at hl 1 rfl) ?_
        obtain ⟨hi5, hf⟩ := gd_so hf
        refine W_iald hx hb hK hP 43 (by decide) cc_43 (ix_in hi5) dX4_minutesOf_33 ?_
        refine lv_isub hx hb dX4_minutesOf_34 ?_
        refine lv_goto (tgt := 39) hx hb dX4_minutesOf_35 (by decide) ?_
        exact hL_39 ((sg 44 a1.toNatClampNeg) - (sg 43 a1.toNatClampNeg)) _ _ _ hf hP hS (lv_sub hl [] rfl)
set_option maxHeartbeats 4000000 in
set_option maxRecDepth 100000 in
theorem c_X4_wayFrom (l : Launch) (g : dd_G) (ad : Nat → Nat) (X : va_W) (sz : Nat) (sg : dd_S) (a1 : Int32) (a2 : Int32) (r0 : Int32) (hf : f_X4_wayFrom sg a1 a2 = some (r0)) : Met l yX4_wayFrom (lw_ws yX4_wayFrom cX4_wayFrom 3 (some .int)) ({ frames := 0, cells := 0, slots := 0, locals := 0 } : Room) (va_Pc [.ref (ad 31), .int a1, .int a2] (PreW g (WC g ad sg ++ X) sz)) (QI g (WC g ad sg ++ X) (dd_A 59 ad X sz) r0) 0 0 (dd_A 59 ad X sz) := by
  refine Met.ofW (cc := cX4_wayFrom) (maxL := 3) (ret := some .int) (by decide) rfl ?_
  intro p e s m args below meth c s₁ B hml hv
  obtain ⟨rfl, rfl, hP, hK, hD0⟩ := hv
  have hx := B.exec
  have hb := B.bytes
  have hr := B.returns
  have hts := atoms_spec (ws := (lw_ws yX4_wayFrom cX4_wayFrom 3 (some .int))) B.pre
  have hts : ∀ w ∈ lw_all, w.before _ s = true := fun w h => hts w (List.mem_cons_of_mem _ h)
  have hown : s.vm.findClass RX4 = some m.cls := findClass_of_methodNamed B.named
  have hlocks := B.notSynchronized
  have hD : ∀ s2 : dd_S, va_D (dd_A 59 ad X s.heap.size) (WC g ad s2 ++ X) := fun s2 => dd_D (dd_A_D hD0)
  have hS : va_S (dd_A 59 ad X s.heap.size) s.heap s.heap [] := va_S.rf
  have hL_32 : ∀ (t0 : Int32) (H : Heap) (locs : List Loc) (ls : Array Slot), f_X4_wayFrom_32 sg a1 a2 t0 = some (r0) → va_P g.1 vwCl (WC g ad sg ++ X) H → va_S (dd_A 59 ad X s.heap.size) s.heap H locs → lv_has ls 3 [] → W p l e (headSpec (lw_ws yX4_wayFrom cX4_wayFrom 3 (some .int)) ({ frames := 0, cells := 0, slots := 0, locals := 0 } : Room)).room s m ([.ref (ad 31), .int a1, .int a2] : List Value).toArray below meth c H locs 0 0 (MQ below (QI g (WC g ad sg ++ X) (dd_A 59 ad X s.heap.size) r0) ([.ref (ad 31), .int a1, .int a2] : List Value).toArray s 0 0 (dd_A 59 ad X s.heap.size)) (F0 m 32 ls [.int t0]) := by
    intro t0 H locs ls hf hP hS hl
    unfold f_X4_wayFrom_32 at hf
    exact W.iret (v := t0) hx hb hr (fun t ht hW => ⟨⟨t0, (), rfl, so1 hf, P_at ht hP⟩, hS.F ht⟩) hS.2.2 dX4_wayFrom_32
  have hL_31 : ∀ (H : Heap) (locs : List Loc) (ls : Array Slot), f_X4_wayFrom_31 sg a1 a2 = some (r0) → va_P g.1 vwCl (WC g ad sg ++ X) H → va_S (dd_A 59 ad X s.heap.size) s.heap H locs → lv_has ls 3 [] → W p l e (headSpec (lw_ws yX4_wayFrom cX4_wayFrom 3 (some .int)) ({ frames := 0, cells := 0, slots := 0, locals := 0 } : Room)).room s m ([.ref (ad 31), .int a1, .int a2] : List Value).toArray below meth c H locs 0 0 (MQ below (QI g (WC g ad sg ++ X) (dd_A 59 ad X s.heap.size) r0) ([.ref (ad 31), .int a1, .int a2] : List Value).toArray s 0 0 (dd_A 59 ad X s.heap.size)) (F0 m 31 ls []) := by
    intro H locs ls hf hP hS hl
    unfold f_X4_wayFrom_31 at hf
    refine lv_iconst (v := (0 : Int32)) hx hb dX4_wayFrom_31 (by decide) ?_
    exact hL_32 (0 : Int32) _ _ _ hf hP hS (lv_sub hl [] rfl)
  unfold f_X4_wayFrom at hf
  have hl := lv_entry ([.ref (ad 31), .int a1, .int a2]) (n := 3) (Nat.le_of_ble_eq_true rfl)
  rw [lg_entry_eq]
  generalize (lg_sl ([.ref (ad 31), .int a1, .int a2]) ++ List.replicate (3 - (lg_sl ([.ref (ad 31), .int a1, .int a2])).length) Slot.unset).toArray = ls at hl ⊢
  have hl : lv_has ls 3 [(0, .ref (ad 31)), (1, .int a1), (2, .int a2)] := hl
  refine lv_iload_n hx hb dX4_wayFrom_0 rfl (lv_at hl 1 rfl) ?_
  refine lv_if_lt (tgt := 31) hx hb dX4_wayFrom_1 (by decide) (fun c1 => ?_) (fun c1 => ?_)
  · have hf := if_t c1 hf
    exact hL_31 _ _ _ hf hP hS (lv_sub hl [] rfl)
  · have hf := if_f c1 hf
    refine lv_iload_n hx hb dX4_wayFrom_4 rfl (lv_at hl 1 rfl) ?_
    refine lv_bipush (v := (6 : Int32)) hx hb dX4_wayFrom_5 (by decide) ?_
    refine lv_icmp_ge (tgt := 31) hx hb dX4_wayFrom_7 (by decide) (fun c2 => ?_) (fun c2 => ?_)
    · have hf := if_t c2 hf
      exact hL_31 _ _ _ hf hP hS (lv_sub hl [] rfl)
    · have hf := if_f c2 hf
      refine lv_iload_n hx hb dX4_wayFrom_10 rfl (lv_at hl 2 rfl) ?_
      refine lv_if_lt (tgt := 31) hx hb dX4_wayFrom_11 (by decide) (fun c3 => ?_) (fun c3 => ?_)
      · have hf := if_t c3 hf
        exact hL_31 _ _ _ hf hP hS (lv_sub hl [] rfl)
      · have hf := if_f c3 hf
        refine lv_iload_n hx hb dX4_wayFrom_14 rfl (lv_at hl 2 rfl) ?_
        refine lv_bipush (v := (6 : Int32)) hx hb dX4_wayFrom_15 (by decide) ?_
        refine lv_icmp_ge (tgt := 31) hx hb dX4_wayFrom_17 (by decide) (fun c4 => ?_) (fun c4 => ?_)
        · have hf := if_t c4 hf
          exact hL_31 _ _ _ hf hP hS (lv_sub hl [] rfl)
        · have hf := if_f c4 hf
          refine lv_aload_n hx hb dX4_wayFrom_20 rfl (lv_at hl 0 rfl) ?_
          refine gf_X4_11 hx hb hts hown hK hP dX4_wayFrom_21 ?_
          refine lv_iload_n hx hb dX4_wayFrom_24 rfl (lv_at hl 1 rfl) ?_
          obtain ⟨hi5, hf⟩ := gd_so hf
          refine W_aald (b := fun j => 53 + j) hx hb hK hP 40 (by decide) cc_40 2 rfl rfl (ix_in hi5) dX4_wayFrom_25 ?_
          refine lv_iload_n hx hb dX4_wayFrom_26 rfl (lv_at hl 2 rfl) ?_
          obtain ⟨hi6, hf⟩ := gd_so hf
          refine W_iald hx hb hK hP (53 + a1.toNatClampNeg) (by have := ix_lt (m := 6) hi5 (by decide); omega) (cc_ways (ix_lt hi5 (by decide))) (ix_in hi6) dX4_wayFrom_27 ?_
          refine lv_goto (tgt := 32) hx hb dX4_wayFrom_28 (by decide) ?_
          exact hL_32 (sg (53 + a1.toNatClampNeg) a2.toNatClampNeg) _ _ _ hf hP hS (lv_sub hl [] rfl)
set_option maxHeartbeats 4000000 in
set_option maxRecDepth 100000 in
theorem c_X0_tripIn (l : Launch) (g : dd_G) (ad : Nat → Nat) (X : va_W) (sz : Nat) (sg : dd_S) (d : Nat) (a1 : Int32) (hd : d < 15) (r0 : Int32) (hf : f_X0_tripIn sg d a1 = some (r0)) : Met l yX0_tripIn (lw_ws yX0_tripIn cX0_tripIn 2 (some .int)) ({ frames := 0, cells := 0, slots := 0, locals := 0 } : Room) (va_Pc [.ref (ad d), .int a1] (PreW g (WC g ad sg ++ X) sz)) (QI g (WC g ad sg ++ X) (dd_A 59 ad X sz) r0) 0 0 (dd_A 59 ad X sz) := by
  refine Met.ofW (cc := cX0_tripIn) (maxL := 2) (ret := some .int) (by decide) rfl ?_
  intro p e s m args below meth c s₁ B hml hv
  obtain ⟨rfl, rfl, hP, hK, hD0⟩ := hv
  have hx := B.exec
  have hb := B.bytes
  have hr := B.returns
  have hts := atoms_spec (ws := (lw_ws yX0_tripIn cX0_tripIn 2 (some .int))) B.pre
  have hts : ∀ w ∈ lw_all, w.before _ s = true := fun w h => hts w (List.mem_cons_of_mem _ h)
  have hown : s.vm.findClass RX0 = some m.cls := findClass_of_methodNamed B.named
  have hlocks := B.notSynchronized
  have hD : ∀ s2 : dd_S, va_D (dd_A 59 ad X s.heap.size) (WC g ad s2 ++ X) := fun s2 => dd_D (dd_A_D hD0)
  have hS : va_S (dd_A 59 ad X s.heap.size) s.heap s.heap [] := va_S.rf
  have hL_23 : ∀ (t0 : Int32) (H : Heap) (locs : List Loc) (ls : Array Slot), f_X0_tripIn_23 sg d a1 t0 = some (r0) → va_P g.1 vwCl (WC g ad sg ++ X) H → va_S (dd_A 59 ad X s.heap.size) s.heap H locs → lv_has ls 2 [] → W p l e (headSpec (lw_ws yX0_tripIn cX0_tripIn 2 (some .int)) ({ frames := 0, cells := 0, slots := 0, locals := 0 } : Room)).room s m ([.ref (ad d), .int a1] : List Value).toArray below meth c H locs 0 0 (MQ below (QI g (WC g ad sg ++ X) (dd_A 59 ad X s.heap.size) r0) ([.ref (ad d), .int a1] : List Value).toArray s 0 0 (dd_A 59 ad X s.heap.size)) (F0 m 23 ls [.int t0]) := by
    intro t0 H locs ls hf hP hS hl
    unfold f_X0_tripIn_23 at hf
    exact W.iret (v := t0) hx hb hr (fun t ht hW => ⟨⟨t0, (), rfl, so1 hf, P_at ht hP⟩, hS.F ht⟩) hS.2.2 dX0_tripIn_23
  have hL_22 : ∀ (H : Heap) (locs : List Loc) (ls : Array Slot), f_X0_tripIn_22 sg d a1 = some (r0) → va_P g.1 vwCl (WC g ad sg ++ X) H → va_S (dd_A 59 ad X s.heap.size) s.heap H locs → lv_has ls 2 [] → W p l e (headSpec (lw_ws yX0_tripIn cX0_tripIn 2 (some .int)) ({ frames := 0, cells := 0, slots := 0, locals := 0 } : Room)).room s m ([.ref (ad d), .int a1] : List Value).toArray below meth c H locs 0 0 (MQ below (QI g (WC g ad sg ++ X) (dd_A 59 ad X s.heap.size) r0) ([.ref (ad d), .int a1] : List Value).toArray s 0 0 (dd_A 59 ad X s.heap.size)) (F0 m 22 ls []) := by
    intro H locs ls hf hP hS hl
    unfold f_X0_tripIn_22 at hf
    refine lv_iconst (v := (-1 : Int32)) hx hb dX0_tripIn_22 (by decide) ?_
    exact hL_23 (-1 : Int32) _ _ _ hf hP hS (lv_sub hl [] rfl)
  unfold f_X0_tripIn at hf
  have hl := lv_entry ([.ref (ad d), .int a1]) (n := 2) (Nat.le_of_ble_eq_true rfl)
  rw [lg_entry_eq]
  generalize (lg_sl ([.ref (ad d), .int a1]) ++ List.replicate (2 - (lg_sl ([.ref (ad d), .int a1])).length) Slot.unset).toArray = ls at hl ⊢
  have hl : lv_has ls 2 [(0, .ref (ad d)), (1, .int a1)] := hl
  refine lv_iload_n hx hb dX0_tripIn_0 rfl (lv_at hl 1 rfl) ?_
  refine lv_if_lt (tgt := 22) hx hb dX0_tripIn_1 (by decide) (fun c1 => ?_) (fun c1 => ?_)
  · have hf := if_t c1 hf
    exact hL_22 _ _ _ hf hP hS (lv_sub hl [] rfl)
  · have hf := if_f c1 hf
    refine lv_iload_n hx hb dX0_tripIn_4 rfl (lv_at hl 1 rfl) ?_
    refine lv_aload_n hx hb dX0_tripIn_5 rfl (lv_at hl 0 rfl) ?_
    refine gf_X0_9 hx hb hts hown hK hP hd dX0_tripIn_6 ?_
    refine W_alen (v := (40 : Int32)) hx hb hK hP (15 + d) (by omega) (cc_trips hd) 0 rfl (by decide) dX0_tripIn_9 ?_
    refine lv_icmp_ge (tgt := 22) hx hb dX0_tripIn_10 (by decide) (fun c2 => ?_) (fun c2 => ?_)
    · have hf := if_t c2 hf
      exact hL_22 _ _ _ hf hP hS (lv_sub hl [] rfl)
    · have hf := if_f c2 hf
      refine lv_aload_n hx hb dX0_tripIn_13 rfl (lv_at hl 0 rfl) ?_
      refine gf_X0_9 hx hb hts hown hK hP hd dX0_tripIn_14 ?_
      refine lv_iload_n hx hb dX0_tripIn_17 rfl (lv_at hl 1 rfl) ?_
      obtain ⟨hi3, hf⟩ := gd_so hf
      refine W_iald hx hb hK hP (15 + d) (by omega) (cc_trips hd) (ix_in hi3) dX0_tripIn_18 ?_
      refine lv_goto (tgt := 23) hx hb dX0_tripIn_19 (by decide) ?_
      exact hL_23 (sg (15 + d) a1.toNatClampNeg) _ _ _ hf hP hS (lv_sub hl [] rfl)
set_option maxHeartbeats 4000000 in
set_option maxRecDepth 100000 in
theorem c_X0_append (l : Launch) (g : dd_G) (ad : Nat → Nat) (X : va_W) (sz : Nat) (sg : dd_S) (d : Nat) (a1 : Int32) (hd : d < 15) (s0 : dd_S) (hf : f_X0_append sg d a1 = some (s0)) : Met l yX0_append (lw_ws yX0_append cX0_append 2 (none)) ({ frames := 0, cells := 0, slots := 0, locals := 0 } : Room) (va_Pc [.ref (ad d), .int a1] (PreW g (WC g ad sg ++ X) sz)) (QV g (WC g ad s0 ++ X) (dd_A 59 ad X sz)) 0 0 (dd_A 59 ad X sz) := by
  refine Met.ofW (cc := cX0_append) (maxL := 2) (ret := none) (by decide) rfl ?_
  intro p e s m args below meth c s₁ B hml hv
  obtain ⟨rfl, rfl, hP, hK, hD0⟩ := hv
  have hx := B.exec
  have hb := B.bytes
  have hr := B.returns
  have hts := atoms_spec (ws := (lw_ws yX0_append cX0_append 2 (none))) B.pre
  have hts : ∀ w ∈ lw_all, w.before _ s = true := fun w h => hts w (List.mem_cons_of_mem _ h)
  have hown : s.vm.findClass RX0 = some m.cls := findClass_of_methodNamed B.named
  have hlocks := B.notSynchronized
  have hD : ∀ s2 : dd_S, va_D (dd_A 59 ad X s.heap.size) (WC g ad s2 ++ X) := fun s2 => dd_D (dd_A_D hD0)
  have hS : va_S (dd_A 59 ad X s.heap.size) s.heap s.heap [] := va_S.rf
  have hL_39 : ∀ (sg : dd_S) (H : Heap) (locs : List Loc) (ls : Array Slot), f_X0_append_39 d a1 sg = some (s0) → va_P g.1 vwCl (WC g ad sg ++ X) H → va_S (dd_A 59 ad X s.heap.size) s.heap H locs → lv_has ls 2 [] → W p l e (headSpec (lw_ws yX0_append cX0_append 2 (none)) ({ frames := 0, cells := 0, slots := 0, locals := 0 } : Room)).room s m ([.ref (ad d), .int a1] : List Value).toArray below meth c H locs 0 0 (MQ below (QV g (WC g ad s0 ++ X) (dd_A 59 ad X s.heap.size)) ([.ref (ad d), .int a1] : List Value).toArray s 0 0 (dd_A 59 ad X s.heap.size)) (F0 m 39 ls []) := by
    intro sg H locs ls hf hP hS hl
    unfold f_X0_append_39 at hf
    exact W.vret hx hb hr (fun t ht hW => ⟨⟨(), rfl, trivial, P_at2 (so1 hf) ht hP⟩, hS.F ht⟩) hS.2.2 dX0_append_39
  unfold f_X0_append at hf
  have hl := lv_entry ([.ref (ad d), .int a1]) (n := 2) (Nat.le_of_ble_eq_true rfl)
  rw [lg_entry_eq]
  generalize (lg_sl ([.ref (ad d), .int a1]) ++ List.replicate (2 - (lg_sl ([.ref (ad d), .int a1])).length) Slot.unset).toArray = ls at hl ⊢
  have hl : lv_has ls 2 [(0, .ref (ad d)), (1, .int a1)] := hl
  refine lv_aload_n hx hb dX0_append_0 rfl (lv_at hl 0 rfl) ?_
  refine gf_X0_19 hx hb hts hown hK hP hd dX0_append_1 ?_
  refine lv_if_lt (tgt := 39) hx hb dX0_append_4 (by decide) (fun c1 => ?_) (fun c1 => ?_)
  · have hf := if_t c1 hf
    exact hL_39 sg _ _ _ hf hP hS (lv_sub hl [] rfl)
  · have hf := if_f c1 hf
    refine lv_aload_n hx hb dX0_append_7 rfl (lv_at hl 0 rfl) ?_
    refine gf_X0_19 hx hb hts hown hK hP hd dX0_append_8 ?_
    refine lv_aload_n hx hb dX0_append_11 rfl (lv_at hl 0 rfl) ?_
    refine gf_X0_9 hx hb hts hown hK hP hd dX0_append_12 ?_
    refine W_alen (v := (40 : Int32)) hx hb hK hP (15 + d) (by omega) (cc_trips hd) 0 rfl (by decide) dX0_append_15 ?_
    refine lv_icmp_ge (tgt := 39) hx hb dX0_append_16 (by decide) (fun c2 => ?_) (fun c2 => ?_)
    · have hf := if_t c2 hf
      exact hL_39 sg _ _ _ hf hP hS (lv_sub hl [] rfl)
    · have hf := if_f c2 hf
      refine lv_aload_n hx hb dX0_append_19 rfl (lv_at hl 0 rfl) ?_
      refine gf_X0_9 hx hb hts hown hK hP hd dX0_append_20 ?_
      refine lv_aload_n hx hb dX0_append_23 rfl (lv_at hl 0 rfl) ?_
      refine gf_X0_19 hx hb hts hown hK hP hd dX0_append_24 ?_
      refine lv_iload_n hx hb dX0_append_27 rfl (lv_at hl 1 rfl) ?_
      obtain ⟨hi3, hf⟩ := gd_so hf
      obtain ⟨sg4, esg4, hf⟩ := lt_ex hf
      refine W_iast hx hb hK hP hD hS (15 + d) (by omega) (fun _ => (cc_trips hd)) (ix_in hi3) dX0_append_28 (fun H locs hP hS => ?_)
      rw [← esg4] at hP
      refine lv_aload_n hx hb dX0_append_29 rfl (lv_at hl 0 rfl) ?_
      refine lv_dup hx hb dX0_append_30 rfl ?_
      refine gf_X0_19 hx hb hts hown hK hP hd dX0_append_31 ?_
      refine lv_iconst (v := (1 : Int32)) hx hb dX0_append_34 (by decide) ?_
      refine lv_iadd hx hb dX0_append_35 ?_
      obtain ⟨sg5, esg5, hf⟩ := lt_ex hf
      refine pf_X0_19 hx hb hts hown hK hP hD hS hd dX0_append_36 (fun H locs hP hS => ?_)
      rw [← esg5] at hP
      exact hL_39 sg5 _ _ _ hf hP hS (lv_sub hl [] rfl)
set_option maxHeartbeats 4000000 in
set_option maxRecDepth 100000 in
theorem c_X0_insert (l : Launch) (g : dd_G) (ad : Nat → Nat) (X : va_W) (sz : Nat) (sg : dd_S) (d : Nat) (a1 : Int32) (hd : d < 15) (r0 : Int32) (s0 : dd_S) (hf : f_X0_insert sg d a1 = some (r0, s0)) : Met l yX0_insert (lw_ws yX0_insert cX0_insert 7 (some .boolean)) ({ frames := 1, cells := 0, slots := 0, locals := 21 } : Room) (va_Pc [.ref (ad d), .int a1, .ref (ad 31)] (PreW g (WC g ad sg ++ X) sz)) (QI g (WC g ad s0 ++ X) (dd_A 59 ad X sz) r0) 0 0 (dd_A 59 ad X sz) := by
  refine Met.ofW (cc := cX0_insert) (maxL := 7) (ret := some .boolean) (by decide) rfl ?_
  intro p e s m args below meth c s₁ B hml hv
  obtain ⟨rfl, rfl, hP, hK, hD0⟩ := hv
  have hx := B.exec
  have hb := B.bytes
  have hr := B.returns
  have hts := atoms_spec (ws := (lw_ws yX0_insert cX0_insert 7 (some .boolean))) B.pre
  have hts : ∀ w ∈ lw_all, w.before _ s = true := fun w h => hts w (List.mem_cons_of_mem _ h)
  have hown : s.vm.findClass RX0 = some m.cls := findClass_of_methodNamed B.named
  have hlocks := B.notSynchronized
  have hD : ∀ s2 : dd_S, va_D (dd_A 59 ad X s.heap.size) (WC g ad s2 ++ X) := fun s2 => dd_D (dd_A_D hD0)
  have hS : va_S (dd_A 59 ad X s.heap.size) s.heap s.heap [] := va_S.rf
  have hL_86 : ∀ (sg : dd_S) (H : Heap) (locs : List Loc) (ls : Array Slot), f_X0_insert_86 d a1 sg = some (r0, s0) → va_P g.1 vwCl (WC g ad sg ++ X) H → va_S (dd_A 59 ad X s.heap.size) s.heap H locs → lv_has ls 7 [] → W p l e (headSpec (lw_ws yX0_insert cX0_insert 7 (some .boolean)) ({ frames := 1, cells := 0, slots := 0, locals := 21 } : Room)).room s m ([.ref (ad d), .int a1, .ref (ad 31)] : List Value).toArray below meth c H locs 0 0 (MQ below (QI g (WC g ad s0 ++ X) (dd_A 59 ad X s.heap.size) r0) ([.ref (ad d), .int a1, .ref (ad 31)] : List Value).toArray s 0 0 (dd_A 59 ad X s.heap.size)) (F0 m 86 ls []) := by
    intro sg H locs ls hf hP hS hl
    unfold f_X0_insert_86 at hf
    refine lv_iconst (v := (0 : Int32)) hx hb dX0_insert_86 (by decide) ?_
    exact W.zret (v := (0 : Int32)) hx hb hr rfl (fun t ht hW => ⟨⟨(0 : Int32), (), rfl, (so2 hf).1, P_at2 (so2 hf).2 ht hP⟩, hS.F ht⟩) hS.2.2 dX0_insert_87
  have hL_94 : ∀ (n : Nat), ∀ (sg : dd_S) (v4 : Int32) (v6 : Int32) (H : Heap) (locs : List Loc) (ls : Array Slot), f_X0_insert_94 d a1 n sg v4 v6 = some (r0, s0) → va_P g.1 vwCl (WC g ad sg ++ X) H → va_S (dd_A 59 ad X s.heap.size) s.heap H locs → lv_has ls 7 [(0, .ref (ad d)), (1, .int a1), (4, .int v4), (6, .int v6)] → W p l e (headSpec (lw_ws yX0_insert cX0_insert 7 (some .boolean)) ({ frames := 1, cells := 0, slots := 0, locals := 21 } : Room)).room s m ([.ref (ad d), .int a1, .ref (ad 31)] : List Value).toArray below meth c H locs 0 0 (MQ below (QI g (WC g ad s0 ++ X) (dd_A 59 ad X s.heap.size) r0) ([.ref (ad d), .int a1, .ref (ad 31)] : List Value).toArray s 0 0 (dd_A 59 ad X s.heap.size)) (F0 m 94 ls []) := by
    intro n
    induction n with
    | zero =>
      intro sg v4 v6 H locs ls hf
      rw [f_X0_insert_94] at hf
      cases hf
    | succ n ih =>
      intro sg v4 v6 H locs ls hf hP hS hl
      rw [f_X0_insert_94] at hf
      refine lv_iload hx hb dX0_insert_94 (lv_at hl 3 rfl) ?_
      refine lv_iload hx hb dX0_insert_96 (lv_at hl 2 rfl) ?_
      refine lv_icmp_le (tgt := 123) hx hb dX0_insert_98 (by decide) (fun c18 => ?_) (fun c18 => ?_)
      · have hf := if_t c18 hf
        refine lv_aload_n hx hb dX0_insert_123 rfl (lv_at hl 0 rfl) ?_
        refine gf_X0_9 hx hb hts hown hK hP hd dX0_insert_124 ?_
        refine lv_iload hx hb dX0_insert_127 (lv_at hl 2 rfl) ?_
        refine lv_iload_n hx hb dX0_insert_129 rfl (lv_at hl 1 rfl) ?_
        obtain ⟨hi19, hf⟩ := gd_so hf
        obtain ⟨sg20, esg20, hf⟩ := lt_ex hf
        refine W_iast hx hb hK hP hD hS (15 + d) (by omega) (fun _ => (cc_trips hd)) (ix_in hi19) dX0_insert_130 (fun H locs hP hS => ?_)
        rw [← esg20] at hP
        refine lv_aload_n hx hb dX0_insert_131 rfl (lv_at hl 0 rfl) ?_
        refine lv_dup hx hb dX0_insert_132 rfl ?_
        refine gf_X0_19 hx hb hts hown hK hP hd dX0_insert_133 ?_
        refine lv_iconst (v := (1 : Int32)) hx hb dX0_insert_136 (by decide) ?_
        refine lv_iadd hx hb dX0_insert_137 ?_
        obtain ⟨sg21, esg21, hf⟩ := lt_ex hf
        refine pf_X0_19 hx hb hts hown hK hP hD hS hd dX0_insert_138 (fun H locs hP hS => ?_)
        rw [← esg21] at hP
        refine lv_iconst (v := (1 : Int32)) hx hb dX0_insert_141 (by decide) ?_
        exact W.zret (v := (1 : Int32)) hx hb hr rfl (fun t ht hW => ⟨⟨(1 : Int32), (), rfl, (so2 hf).1, P_at2 (so2 hf).2 ht hP⟩, hS.F ht⟩) hS.2.2 dX0_insert_142
      · have hf := if_f c18 hf
        refine lv_aload_n hx hb dX0_insert_101 rfl (lv_at hl 0 rfl) ?_
        refine gf_X0_9 hx hb hts hown hK hP hd dX0_insert_102 ?_
        refine lv_iload hx hb dX0_insert_105 (lv_at hl 3 rfl) ?_
        refine lv_aload_n hx hb dX0_insert_107 rfl (lv_at hl 0 rfl) ?_
        refine gf_X0_9 hx hb hts hown hK hP hd dX0_insert_108 ?_
        refine lv_iload hx hb dX0_insert_111 (lv_at hl 3 rfl) ?_
        refine lv_iconst (v := (1 : Int32)) hx hb dX0_insert_113 (by decide) ?_
        refine lv_isub hx hb dX0_insert_114 ?_
        obtain ⟨hi22, hf⟩ := gd_so hf
        refine W_iald hx hb hK hP (15 + d) (by omega) (cc_trips hd) (ix_in hi22) dX0_insert_115 ?_
        obtain ⟨hi23, hf⟩ := gd_so hf
        obtain ⟨sg24, esg24, hf⟩ := lt_ex hf
        refine W_iast hx hb hK hP hD hS (15 + d) (by omega) (fun _ => (cc_trips hd)) (ix_in hi23) dX0_insert_116 (fun H locs hP hS => ?_)
        rw [← esg24] at hP
        obtain ⟨x25, ex25, hf⟩ := lt_ex hf
        refine lv_iinc (v := x25) (lv' := [(6, .int x25), (0, .ref (ad d)), (1, .int a1), (4, .int v4)]) hx hb dX0_insert_117 hl (k := 3) rfl (by rw [ex25]; rfl) (by decide) rfl (fun ls hl => ?_)
        refine lv_goto (tgt := 94) hx hb dX0_insert_120 (by decide) ?_
        exact ih sg24 v4 x25 _ _ _ hf hP hS (lv_sub hl [1, 2, 3, 0] rfl)
  have hL_67 : ∀ (sg : dd_S) (v4 : Int32) (t0 : Int32) (H : Heap) (locs : List Loc) (ls : Array Slot), f_X0_insert_67 d a1 sg v4 t0 = some (r0, s0) → va_P g.1 vwCl (WC g ad sg ++ X) H → va_S (dd_A 59 ad X s.heap.size) s.heap H locs → lv_has ls 7 [(0, .ref (ad d)), (1, .int a1), (4, .int v4)] → W p l e (headSpec (lw_ws yX0_insert cX0_insert 7 (some .boolean)) ({ frames := 1, cells := 0, slots := 0, locals := 21 } : Room)).room s m ([.ref (ad d), .int a1, .ref (ad 31)] : List Value).toArray below meth c H locs 0 0 (MQ below (QI g (WC g ad s0 ++ X) (dd_A 59 ad X s.heap.size) r0) ([.ref (ad d), .int a1, .ref (ad 31)] : List Value).toArray s 0 0 (dd_A 59 ad X s.heap.size)) (F0 m 67 ls [.int t0]) := by
    intro sg v4 t0 H locs ls hf hP hS hl
    unfold f_X0_insert_67 at hf
    refine lv_istore (lv' := [(5, .int t0), (0, .ref (ad d)), (1, .int a1), (4, .int v4)]) hx hb dX0_insert_67 hl (by decide) rfl (fun ls hl => ?_)
    refine lv_iload hx hb dX0_insert_69 (lv_at hl 0 rfl) ?_
    refine lv_if_ne (tgt := 86) hx hb dX0_insert_71 (by decide) (fun c16 => ?_) (fun c16 => ?_)
    · have hf := if_f c16 hf
      exact hL_86 sg _ _ _ hf hP hS (lv_sub hl [] rfl)
    · have hf := if_t c16 hf
      refine lv_aload_n hx hb dX0_insert_74 rfl (lv_at hl 1 rfl) ?_
      refine gf_X0_19 hx hb hts hown hK hP hd dX0_insert_75 ?_
      refine lv_aload_n hx hb dX0_insert_78 rfl (lv_at hl 1 rfl) ?_
      refine gf_X0_9 hx hb hts hown hK hP hd dX0_insert_79 ?_
      refine W_alen (v := (40 : Int32)) hx hb hK hP (15 + d) (by omega) (cc_trips hd) 0 rfl (by decide) dX0_insert_82 ?_
      refine lv_icmp_lt (tgt := 88) hx hb dX0_insert_83 (by decide) (fun c17 => ?_) (fun c17 => ?_)
      · have hf := if_t c17 hf
        refine lv_aload_n hx hb dX0_insert_88 rfl (lv_at hl 1 rfl) ?_
        refine gf_X0_19 hx hb hts hown hK hP hd dX0_insert_89 ?_
        refine lv_istore (lv' := [(6, .int (sg d 1)), (5, .int t0), (0, .ref (ad d)), (1, .int a1), (4, .int v4)]) hx hb dX0_insert_92 hl (by decide) rfl (fun ls hl => ?_)
        exact hL_94 64 sg v4 (sg d 1) _ _ _ hf hP hS (lv_sub hl [2, 3, 4, 0] rfl)
      · have hf := if_f c17 hf
        exact hL_86 sg _ _ _ hf hP hS (lv_sub hl [] rfl)
  have hL_66 : ∀ (sg : dd_S) (v4 : Int32) (H : Heap) (locs : List Loc) (ls : Array Slot), f_X0_insert_66 d a1 sg v4 = some (r0, s0) → va_P g.1 vwCl (WC g ad sg ++ X) H → va_S (dd_A 59 ad X s.heap.size) s.heap H locs → lv_has ls 7 [(0, .ref (ad d)), (1, .int a1), (4, .int v4)] → W p l e (headSpec (lw_ws yX0_insert cX0_insert 7 (some .boolean)) ({ frames := 1, cells := 0, slots := 0, locals := 21 } : Room)).room s m ([.ref (ad d), .int a1, .ref (ad 31)] : List Value).toArray below meth c H locs 0 0 (MQ below (QI g (WC g ad s0 ++ X) (dd_A 59 ad X s.heap.size) r0) ([.ref (ad d), .int a1, .ref (ad 31)] : List Value).toArray s 0 0 (dd_A 59 ad X s.heap.size)) (F0 m 66 ls []) := by
    intro sg v4 H locs ls hf hP hS hl
    unfold f_X0_insert_66 at hf
    refine lv_iconst (v := (0 : Int32)) hx hb dX0_insert_66 (by decide) ?_
    exact hL_67 sg v4 (0 : Int32) _ _ _ hf hP hS (lv_sub hl [0, 1, 2] rfl)
  have hL_39 : ∀ (sg : dd_S) (v3 : Int32) (v4 : Int32) (H : Heap) (locs : List Loc) (ls : Array Slot), f_X0_insert_39 d a1 sg v3 v4 = some (r0, s0) → va_P g.1 vwCl (WC g ad sg ++ X) H → va_S (dd_A 59 ad X s.heap.size) s.heap H locs → lv_has ls 7 [(0, .ref (ad d)), (1, .int a1), (2, .ref (ad 31)), (3, .int v3), (4, .int v4)] → W p l e (headSpec (lw_ws yX0_insert cX0_insert 7 (some .boolean)) ({ frames := 1, cells := 0, slots := 0, locals := 21 } : Room)).room s m ([.ref (ad d), .int a1, .ref (ad 31)] : List Value).toArray below meth c H locs 0 0 (MQ below (QI g (WC g ad s0 ++ X) (dd_A 59 ad X s.heap.size) r0) ([.ref (ad d), .int a1, .ref (ad 31)] : List Value).toArray s 0 0 (dd_A 59 ad X s.heap.size)) (F0 m 39 ls []) := by
    intro sg v3 v4 H locs ls hf hP hS hl
    unfold f_X0_insert_39 at hf
    refine lv_iload hx hb dX0_insert_39 (lv_at hl 4 rfl) ?_
    refine lv_aload_n hx hb dX0_insert_41 rfl (lv_at hl 0 rfl) ?_
    refine gf_X0_19 hx hb hts hown hK hP hd dX0_insert_42 ?_
    refine lv_icmp_ge (tgt := 66) hx hb dX0_insert_45 (by decide) (fun c10 => ?_) (fun c10 => ?_)
    · have hf := if_t c10 hf
      exact hL_66 sg v4 _ _ _ hf hP hS (lv_sub hl [0, 1, 4] rfl)
    · have hf := if_f c10 hf
      refine lv_aload_n hx hb dX0_insert_48 rfl (lv_at hl 2 rfl) ?_
      refine lv_aload_n hx hb dX0_insert_49 rfl (lv_at hl 0 rfl) ?_
      refine lv_iload hx hb dX0_insert_50 (lv_at hl 4 rfl) ?_
      obtain ⟨r12, q11, hf⟩ := bd_so hf
      refine cl_i (va_runV (As := [.int v4]) (rest := [.ref (ad 31)]) ⟨hx, hb, hml, hown, hts⟩ (c_X0_tripIn l g ad X _ sg d v4 hd r12 q11) (cwV 1 hts gl_X0_23 rfl rfl rfl yd_X0_tripIn ⟨Nat.le_of_ble_eq_true rfl, Nat.le_of_ble_eq_true rfl⟩) (preV_of hK hP (hD sg) (dd_at (Nat.lt_trans hd (by decide)) (cc_duty hd)) rfl) rfl rfl hl.1 rfl (lv_room (Nat.le_of_ble_eq_true rfl)) dX0_insert_52 ⟨Nat.le_of_ble_eq_true rfl, Nat.le_of_ble_eq_true rfl⟩) hS (fun q h => dd_A_mono hS.1 h) (fun q h => dd_A_mono hS.1 h) (fun H locs hP hS => ?_)
      obtain ⟨r14, q13, hf⟩ := bd_so hf
      refine cl_i (va_runV (As := [.int r12]) (rest := []) ⟨hx, hb, hml, hown, hts⟩ (c_X4_departureOf l g ad X _ sg r12 r14 q13) (cwV 1 hts gl_X0_27 rfl rfl rfl yd_X4_departureOf ⟨Nat.le_of_ble_eq_true rfl, Nat.le_of_ble_eq_true rfl⟩) (preV_of hK hP (hD sg) (dd_at (by decide) cc_31) rfl) rfl rfl hl.1 rfl (lv_room (Nat.le_of_ble_eq_true rfl)) dX0_insert_55 ⟨Nat.le_of_ble_eq_true rfl, Nat.le_of_ble_eq_true rfl⟩) hS (fun q h => dd_A_mono hS.1 h) (fun q h => dd_A_mono hS.1 h) (fun H locs hP hS => ?_)
      refine lv_iload_n hx hb dX0_insert_58 rfl (lv_at hl 3 rfl) ?_
      refine lv_icmp_ne (tgt := 66) hx hb dX0_insert_59 (by decide) (fun c15 => ?_) (fun c15 => ?_)
      · have hf := if_f c15 hf
        exact hL_66 sg v4 _ _ _ hf hP hS (lv_sub hl [0, 1, 4] rfl)
      · have hf := if_t c15 hf
        refine lv_iconst (v := (1 : Int32)) hx hb dX0_insert_62 (by decide) ?_
        refine lv_goto (tgt := 67) hx hb dX0_insert_63 (by decide) ?_
        exact hL_67 sg v4 (1 : Int32) _ _ _ hf hP hS (lv_sub hl [0, 1, 4] rfl)
  have hL_12 : ∀ (n : Nat), ∀ (sg : dd_S) (v3 : Int32) (v4 : Int32) (H : Heap) (locs : List Loc) (ls : Array Slot), f_X0_insert_12 d a1 n sg v3 v4 = some (r0, s0) → va_P g.1 vwCl (WC g ad sg ++ X) H → va_S (dd_A 59 ad X s.heap.size) s.heap H locs → lv_has ls 7 [(0, .ref (ad d)), (1, .int a1), (2, .ref (ad 31)), (3, .int v3), (4, .int v4)] → W p l e (headSpec (lw_ws yX0_insert cX0_insert 7 (some .boolean)) ({ frames := 1, cells := 0, slots := 0, locals := 21 } : Room)).room s m ([.ref (ad d), .int a1, .ref (ad 31)] : List Value).toArray below meth c H locs 0 0 (MQ below (QI g (WC g ad s0 ++ X) (dd_A 59 ad X s.heap.size) r0) ([.ref (ad d), .int a1, .ref (ad 31)] : List Value).toArray s 0 0 (dd_A 59 ad X s.heap.size)) (F0 m 12 ls []) := by
    intro n
    induction n with
    | zero =>
      intro sg v3 v4 H locs ls hf
      rw [f_X0_insert_12] at hf
      cases hf
    | succ n ih =>
      intro sg v3 v4 H locs ls hf hP hS hl
      rw [f_X0_insert_12] at hf
      refine lv_iload hx hb dX0_insert_12 (lv_at hl 4 rfl) ?_
      refine lv_if_le (tgt := 39) hx hb dX0_insert_14 (by decide) (fun c3 => ?_) (fun c3 => ?_)
      · have hf := if_t c3 hf
        exact hL_39 sg v3 v4 _ _ _ hf hP hS (lv_sub hl [0, 1, 2, 3, 4] rfl)
      · have hf := if_f c3 hf
        refine lv_aload_n hx hb dX0_insert_17 rfl (lv_at hl 2 rfl) ?_
        refine lv_aload_n hx hb dX0_insert_18 rfl (lv_at hl 0 rfl) ?_
        refine lv_iload hx hb dX0_insert_19 (lv_at hl 4 rfl) ?_
        refine lv_iconst (v := (1 : Int32)) hx hb dX0_insert_21 (by decide) ?_
        refine lv_isub hx hb dX0_insert_22 ?_
        obtain ⟨r5, q4, hf⟩ := bd_so hf
        refine cl_i (va_runV (As := [.int (v4 - (1 : Int32))]) (rest := [.ref (ad 31)]) ⟨hx, hb, hml, hown, hts⟩ (c_X0_tripIn l g ad X _ sg d (v4 - (1 : Int32)) hd r5 q4) (cwV 1 hts gl_X0_23 rfl rfl rfl yd_X0_tripIn ⟨Nat.le_of_ble_eq_true rfl, Nat.le_of_ble_eq_true rfl⟩) (preV_of hK hP (hD sg) (dd_at (Nat.lt_trans hd (by decide)) (cc_duty hd)) rfl) rfl rfl hl.1 rfl (lv_room (Nat.le_of_ble_eq_true rfl)) dX0_insert_23 ⟨Nat.le_of_ble_eq_true rfl, Nat.le_of_ble_eq_true rfl⟩) hS (fun q h => dd_A_mono hS.1 h) (fun q h => dd_A_mono hS.1 h) (fun H locs hP hS => ?_)
        obtain ⟨r7, q6, hf⟩ := bd_so hf
        refine cl_i (va_runV (As := [.int r5]) (rest := []) ⟨hx, hb, hml, hown, hts⟩ (c_X4_departureOf l g ad X _ sg r5 r7 q6) (cwV 1 hts gl_X0_27 rfl rfl rfl yd_X4_departureOf ⟨Nat.le_of_ble_eq_true rfl, Nat.le_of_ble_eq_true rfl⟩) (preV_of hK hP (hD sg) (dd_at (by decide) cc_31) rfl) rfl rfl hl.1 rfl (lv_room (Nat.le_of_ble_eq_true rfl)) dX0_insert_26 ⟨Nat.le_of_ble_eq_true rfl, Nat.le_of_ble_eq_true rfl⟩) hS (fun q h => dd_A_mono hS.1 h) (fun q h => dd_A_mono hS.1 h) (fun H locs hP hS => ?_)
        refine lv_iload_n hx hb dX0_insert_29 rfl (lv_at hl 3 rfl) ?_
        refine lv_icmp_lt (tgt := 39) hx hb dX0_insert_30 (by decide) (fun c8 => ?_) (fun c8 => ?_)
        · have hf := if_t c8 hf
          exact hL_39 sg v3 v4 _ _ _ hf hP hS (lv_sub hl [0, 1, 2, 3, 4] rfl)
        · have hf := if_f c8 hf
          obtain ⟨x9, ex9, hf⟩ := lt_ex hf
          refine lv_iinc (v := x9) (lv' := [(4, .int x9), (0, .ref (ad d)), (1, .int a1), (2, .ref (ad 31)), (3, .int v3)]) hx hb dX0_insert_33 hl (k := 4) rfl (by rw [ex9]; rfl) (by decide) rfl (fun ls hl => ?_)
          refine lv_goto (tgt := 12) hx hb dX0_insert_36 (by decide) ?_
          exact ih sg v3 x9 _ _ _ hf hP hS (lv_sub hl [1, 2, 3, 4, 0] rfl)
  unfold f_X0_insert at hf
  have hl := lv_entry ([.ref (ad d), .int a1, .ref (ad 31)]) (n := 7) (Nat.le_of_ble_eq_true rfl)
  rw [lg_entry_eq]
  generalize (lg_sl ([.ref (ad d), .int a1, .ref (ad 31)]) ++ List.replicate (7 - (lg_sl ([.ref (ad d), .int a1, .ref (ad 31)])).length) Slot.unset).toArray = ls at hl ⊢
  have hl : lv_has ls 7 [(0, .ref (ad d)), (1, .int a1), (2, .ref (ad 31))] := hl
  refine lv_aload_n hx hb dX0_insert_0 rfl (lv_at hl 2 rfl) ?_
  refine lv_iload_n hx hb dX0_insert_1 rfl (lv_at hl 1 rfl) ?_
  obtain ⟨r2, q1, hf⟩ := bd_so hf
  refine cl_i (va_runV (As := [.int a1]) (rest := []) ⟨hx, hb, hml, hown, hts⟩ (c_X4_departureOf l g ad X _ sg a1 r2 q1) (cwV 1 hts gl_X0_27 rfl rfl rfl yd_X4_departureOf ⟨Nat.le_of_ble_eq_true rfl, Nat.le_of_ble_eq_true rfl⟩) (preV_of hK hP (hD sg) (dd_at (by decide) cc_31) rfl) rfl rfl hl.1 rfl (lv_room (Nat.le_of_ble_eq_true rfl)) dX0_insert_2 ⟨Nat.le_of_ble_eq_true rfl, Nat.le_of_ble_eq_true rfl⟩) hS (fun q h => dd_A_mono hS.1 h) (fun q h => dd_A_mono hS.1 h) (fun H locs hP hS => ?_)
  refine lv_istore_n (lv' := [(3, .int r2), (0, .ref (ad d)), (1, .int a1), (2, .ref (ad 31))]) hx hb dX0_insert_5 rfl hl (by decide) rfl (fun ls hl => ?_)
  refine lv_aload_n hx hb dX0_insert_6 rfl (lv_at hl 1 rfl) ?_
  refine gf_X0_19 hx hb hts hown hK hP hd dX0_insert_7 ?_
  refine lv_istore (lv' := [(4, .int (sg d 1)), (3, .int r2), (0, .ref (ad d)), (1, .int a1), (2, .ref (ad 31))]) hx hb dX0_insert_10 hl (by decide) rfl (fun ls hl => ?_)
  exact hL_12 64 sg r2 (sg d 1) _ _ _ hf hP hS (lv_sub hl [2, 3, 4, 1, 0] rfl)
set_option maxHeartbeats 4000000 in
set_option maxRecDepth 100000 in
theorem c_X0_copy (l : Launch) (g : dd_G) (ad : Nat → Nat) (X : va_W) (sz : Nat) (sg : dd_S) (d : Nat) (d2 : Nat) (hd : d < 15) (hd2 : d2 < 15) (s0 : dd_S) (hf : f_X0_copy sg d d2 = some (s0)) : Met l yX0_copy (lw_ws yX0_copy cX0_copy 3 (none)) ({ frames := 1, cells := 0, slots := 0, locals := 21 } : Room) (va_Pc [.ref (ad d), .ref (ad d2)] (PreW g (WC g ad sg ++ X) sz)) (QV g (WC g ad s0 ++ X) (dd_A 59 ad X sz)) 0 0 (dd_A 59 ad X sz) := by
  refine Met.ofW (cc := cX0_copy) (maxL := 3) (ret := none) (by decide) rfl ?_
  intro p e s m args below meth c s₁ B hml hv
  obtain ⟨rfl, rfl, hP, hK, hD0⟩ := hv
  have hx := B.exec
  have hb := B.bytes
  have hr := B.returns
  have hts := atoms_spec (ws := (lw_ws yX0_copy cX0_copy 3 (none))) B.pre
  have hts : ∀ w ∈ lw_all, w.before _ s = true := fun w h => hts w (List.mem_cons_of_mem _ h)
  have hown : s.vm.findClass RX0 = some m.cls := findClass_of_methodNamed B.named
  have hlocks := B.notSynchronized
  have hD : ∀ s2 : dd_S, va_D (dd_A 59 ad X s.heap.size) (WC g ad s2 ++ X) := fun s2 => dd_D (dd_A_D hD0)
  have hS : va_S (dd_A 59 ad X s.heap.size) s.heap s.heap [] := va_S.rf
  have hL_7 : ∀ (n : Nat), ∀ (sg : dd_S) (v2 : Int32) (H : Heap) (locs : List Loc) (ls : Array Slot), f_X0_copy_7 d d2 n sg v2 = some (s0) → va_P g.1 vwCl (WC g ad sg ++ X) H → va_S (dd_A 59 ad X s.heap.size) s.heap H locs → lv_has ls 3 [(0, .ref (ad d)), (1, .ref (ad d2)), (2, .int v2)] → W p l e (headSpec (lw_ws yX0_copy cX0_copy 3 (none)) ({ frames := 1, cells := 0, slots := 0, locals := 21 } : Room)).room s m ([.ref (ad d), .ref (ad d2)] : List Value).toArray below meth c H locs 0 0 (MQ below (QV g (WC g ad s0 ++ X) (dd_A 59 ad X s.heap.size)) ([.ref (ad d), .ref (ad d2)] : List Value).toArray s 0 0 (dd_A 59 ad X s.heap.size)) (F0 m 7 ls []) := by
    intro n
    induction n with
    | zero =>
      intro sg v2 H locs ls hf
      rw [f_X0_copy_7] at hf
      cases hf
    | succ n ih =>
      intro sg v2 H locs ls hf hP hS hl
      rw [f_X0_copy_7] at hf
      refine lv_iload_n hx hb dX0_copy_7 rfl (lv_at hl 2 rfl) ?_
      refine lv_aload_n hx hb dX0_copy_8 rfl (lv_at hl 1 rfl) ?_
      refine gf_X0_19 hx hb hts hown hK hP hd2 dX0_copy_9 ?_
      refine lv_icmp_ge (tgt := 30) hx hb dX0_copy_12 (by decide) (fun c2 => ?_) (fun c2 => ?_)
      · have hf := if_t c2 hf
        refine lv_aload_n hx hb dX0_copy_30 rfl (lv_at hl 0 rfl) ?_
        refine lv_aload_n hx hb dX0_copy_31 rfl (lv_at hl 1 rfl) ?_
        refine gf_X0_36 hx hb hts hown hK hP hd2 dX0_copy_32 ?_
        obtain ⟨sg3, esg3, hf⟩ := lt_ex hf
        refine pf_X0_36 hx hb hts hown hK hP hD hS hd dX0_copy_35 (fun H locs hP hS => ?_)
        rw [← esg3] at hP
        refine lv_aload_n hx hb dX0_copy_38 rfl (lv_at hl 0 rfl) ?_
        refine lv_aload_n hx hb dX0_copy_39 rfl (lv_at hl 1 rfl) ?_
        refine gf_X0_39 hx hb hts hown hK hP hd2 dX0_copy_40 ?_
        obtain ⟨sg4, esg4, hf⟩ := lt_ex hf
        refine pf_X0_39 hx hb hts hown hK hP hD hS hd dX0_copy_43 (fun H locs hP hS => ?_)
        rw [← esg4] at hP
        refine lv_aload_n hx hb dX0_copy_46 rfl (lv_at hl 0 rfl) ?_
        refine lv_aload_n hx hb dX0_copy_47 rfl (lv_at hl 1 rfl) ?_
        refine gf_X0_42 hx hb hts hown hK hP hd2 dX0_copy_48 ?_
        obtain ⟨sg5, esg5, hf⟩ := lt_ex hf
        refine pf_X0_42 hx hb hts hown hK hP hD hS hd dX0_copy_51 (fun H locs hP hS => ?_)
        rw [← esg5] at hP
        refine lv_aload_n hx hb dX0_copy_54 rfl (lv_at hl 0 rfl) ?_
        refine lv_aload_n hx hb dX0_copy_55 rfl (lv_at hl 1 rfl) ?_
        refine gf_X0_45 hx hb hts hown hK hP hd2 dX0_copy_56 ?_
        obtain ⟨sg6, esg6, hf⟩ := lt_ex hf
        refine pf_X0_45 hx hb hts hown hK hP hD hS hd dX0_copy_59 (fun H locs hP hS => ?_)
        rw [← esg6] at hP
        refine lv_aload_n hx hb dX0_copy_62 rfl (lv_at hl 0 rfl) ?_
        refine lv_aload_n hx hb dX0_copy_63 rfl (lv_at hl 1 rfl) ?_
        refine gf_X0_48 hx hb hts hown hK hP hd2 dX0_copy_64 ?_
        obtain ⟨sg7, esg7, hf⟩ := lt_ex hf
        refine pf_X0_48 hx hb hts hown hK hP hD hS hd dX0_copy_67 (fun H locs hP hS => ?_)
        rw [← esg7] at hP
        refine lv_aload_n hx hb dX0_copy_70 rfl (lv_at hl 0 rfl) ?_
        refine lv_aload_n hx hb dX0_copy_71 rfl (lv_at hl 1 rfl) ?_
        refine gf_X0_51 hx hb hts hown hK hP hd2 dX0_copy_72 ?_
        obtain ⟨sg8, esg8, hf⟩ := lt_ex hf
        refine pf_X0_51 hx hb hts hown hK hP hD hS hd dX0_copy_75 (fun H locs hP hS => ?_)
        rw [← esg8] at hP
        refine lv_aload_n hx hb dX0_copy_78 rfl (lv_at hl 0 rfl) ?_
        refine lv_aload_n hx hb dX0_copy_79 rfl (lv_at hl 1 rfl) ?_
        refine gf_X0_15 hx hb hts hown hK hP hd2 dX0_copy_80 ?_
        obtain ⟨hz9, hf⟩ := gd_so hf
        obtain ⟨sg10, esg10, hf⟩ := lt_ex hf
        refine pf_X0_15 hx hb hts hown hK hP hD hS hd hz9 dX0_copy_83 (fun H locs hP hS => ?_)
        rw [← esg10] at hP
        exact W.vret hx hb hr (fun t ht hW => ⟨⟨(), rfl, trivial, P_at2 (so1 hf) ht hP⟩, hS.F ht⟩) hS.2.2 dX0_copy_86
      · have hf := if_f c2 hf
        refine lv_aload_n hx hb dX0_copy_15 rfl (lv_at hl 0 rfl) ?_
        refine lv_aload_n hx hb dX0_copy_16 rfl (lv_at hl 1 rfl) ?_
        refine lv_iload_n hx hb dX0_copy_17 rfl (lv_at hl 2 rfl) ?_
        obtain ⟨r12, q11, hf⟩ := bd_so hf
        refine cl_i (va_runV (As := [.int v2]) (rest := [.ref (ad d)]) ⟨hx, hb, hml, hown, hts⟩ (c_X0_tripIn l g ad X _ sg d2 v2 hd2 r12 q11) (cwV 1 hts gl_X0_23 rfl rfl rfl yd_X0_tripIn ⟨Nat.le_of_ble_eq_true rfl, Nat.le_of_ble_eq_true rfl⟩) (preV_of hK hP (hD sg) (dd_at (Nat.lt_trans hd2 (by decide)) (cc_duty hd2)) rfl) rfl rfl hl.1 rfl (lv_room (Nat.le_of_ble_eq_true rfl)) dX0_copy_18 ⟨Nat.le_of_ble_eq_true rfl, Nat.le_of_ble_eq_true rfl⟩) hS (fun q h => dd_A_mono hS.1 h) (fun q h => dd_A_mono hS.1 h) (fun H locs hP hS => ?_)
        obtain ⟨sg14, q13, hf⟩ := bd_so hf
        refine cl_v (va_runV (As := [.int r12]) (rest := []) ⟨hx, hb, hml, hown, hts⟩ (c_X0_append l g ad X _ sg d r12 hd sg14 q13) (cwV 1 hts gl_X0_32 rfl rfl rfl yd_X0_append ⟨Nat.le_of_ble_eq_true rfl, Nat.le_of_ble_eq_true rfl⟩) (preV_of hK hP (hD sg) (dd_at (Nat.lt_trans hd (by decide)) (cc_duty hd)) rfl) rfl rfl hl.1 rfl (lv_room (Nat.le_of_ble_eq_true rfl)) dX0_copy_21 ⟨Nat.le_of_ble_eq_true rfl, Nat.le_of_ble_eq_true rfl⟩) hS (fun q h => dd_A_mono hS.1 h) (fun q h => dd_A_mono hS.1 h) (fun H locs hP hS => ?_)
        obtain ⟨x15, ex15, hf⟩ := lt_ex hf
        refine lv_iinc (v := x15) (lv' := [(2, .int x15), (0, .ref (ad d)), (1, .ref (ad d2))]) hx hb dX0_copy_24 hl (k := 2) rfl (by rw [ex15]; rfl) (by decide) rfl (fun ls hl => ?_)
        refine lv_goto (tgt := 7) hx hb dX0_copy_27 (by decide) ?_
        exact ih sg14 x15 _ _ _ hf hP hS (lv_sub hl [1, 2, 0] rfl)
  unfold f_X0_copy at hf
  have hl := lv_entry ([.ref (ad d), .ref (ad d2)]) (n := 3) (Nat.le_of_ble_eq_true rfl)
  rw [lg_entry_eq]
  generalize (lg_sl ([.ref (ad d), .ref (ad d2)]) ++ List.replicate (3 - (lg_sl ([.ref (ad d), .ref (ad d2)])).length) Slot.unset).toArray = ls at hl ⊢
  have hl : lv_has ls 3 [(0, .ref (ad d)), (1, .ref (ad d2))] := hl
  refine lv_aload_n hx hb dX0_copy_0 rfl (lv_at hl 0 rfl) ?_
  refine lv_iconst (v := (0 : Int32)) hx hb dX0_copy_1 (by decide) ?_
  obtain ⟨sg1, esg1, hf⟩ := lt_ex hf
  refine pf_X0_19 hx hb hts hown hK hP hD hS hd dX0_copy_2 (fun H locs hP hS => ?_)
  rw [← esg1] at hP
  refine lv_iconst (v := (0 : Int32)) hx hb dX0_copy_5 (by decide) ?_
  refine lv_istore_n (lv' := [(2, .int (0 : Int32)), (0, .ref (ad d)), (1, .ref (ad d2))]) hx hb dX0_copy_6 rfl hl (by decide) rfl (fun ls hl => ?_)
  exact hL_7 64 sg1 (0 : Int32) _ _ _ hf hP hS (lv_sub hl [1, 2, 0] rfl)
set_option maxHeartbeats 4000000 in
set_option maxRecDepth 100000 in
theorem c_X0_join (l : Launch) (g : dd_G) (ad : Nat → Nat) (X : va_W) (sz : Nat) (sg : dd_S) (d : Nat) (d2 : Nat) (d3 : Nat) (a3 : Int32) (hd : d < 15) (hd2 : d2 < 15) (hd3 : d3 < 15) (s0 : dd_S) (hf : f_X0_join sg d d2 d3 a3 = some (s0)) : Met l yX0_join (lw_ws yX0_join cX0_join 6 (none)) ({ frames := 1, cells := 0, slots := 0, locals := 21 } : Room) (va_Pc [.ref (ad d), .ref (ad d2), .ref (ad d3), .int a3, .ref (ad 31)] (PreW g (WC g ad sg ++ X) sz)) (QV g (WC g ad s0 ++ X) (dd_A 59 ad X sz)) 0 0 (dd_A 59 ad X sz) := by
  refine Met.ofW (cc := cX0_join) (maxL := 6) (ret := none) (by decide) rfl ?_
  intro p e s m args below meth c s₁ B hml hv
  obtain ⟨rfl, rfl, hP, hK, hD0⟩ := hv
  have hx := B.exec
  have hb := B.bytes
  have hr := B.returns
  have hts := atoms_spec (ws := (lw_ws yX0_join cX0_join 6 (none))) B.pre
  have hts : ∀ w ∈ lw_all, w.before _ s = true := fun w h => hts w (List.mem_cons_of_mem _ h)
  have hown : s.vm.findClass RX0 = some m.cls := findClass_of_methodNamed B.named
  have hlocks := B.notSynchronized
  have hD : ∀ s2 : dd_S, va_D (dd_A 59 ad X s.heap.size) (WC g ad s2 ++ X) := fun s2 => dd_D (dd_A_D hD0)
  have hS : va_S (dd_A 59 ad X s.heap.size) s.heap s.heap [] := va_S.rf
  have hL_42 : ∀ (k_8 : dd_S → Int32 → Option (dd_S)) (hk_8 : ∀ (sg : dd_S) (v5 : Int32) (H : Heap) (locs : List Loc) (ls : Array Slot), k_8 sg v5 = some (s0) → va_P g.1 vwCl (WC g ad sg ++ X) H → va_S (dd_A 59 ad X s.heap.size) s.heap H locs → lv_has ls 6 [(0, .ref (ad d)), (1, .ref (ad d2)), (2, .ref (ad d3)), (3, .int a3), (4, .ref (ad 31)), (5, .int v5)] → W p l e (headSpec (lw_ws yX0_join cX0_join 6 (none)) ({ frames := 1, cells := 0, slots := 0, locals := 21 } : Room)).room s m ([.ref (ad d), .ref (ad d2), .ref (ad d3), .int a3, .ref (ad 31)] : List Value).toArray below meth c H locs 0 0 (MQ below (QV g (WC g ad s0 ++ X) (dd_A 59 ad X s.heap.size)) ([.ref (ad d), .ref (ad d2), .ref (ad d3), .int a3, .ref (ad 31)] : List Value).toArray s 0 0 (dd_A 59 ad X s.heap.size)) (F0 m 8 ls [])), ∀ (sg : dd_S) (v5 : Int32) (H : Heap) (locs : List Loc) (ls : Array Slot), f_X0_join_42 d d2 d3 a3 k_8 sg v5 = some (s0) → va_P g.1 vwCl (WC g ad sg ++ X) H → va_S (dd_A 59 ad X s.heap.size) s.heap H locs → lv_has ls 6 [(0, .ref (ad d)), (1, .ref (ad d2)), (2, .ref (ad d3)), (3, .int a3), (4, .ref (ad 31)), (5, .int v5)] → W p l e (headSpec (lw_ws yX0_join cX0_join 6 (none)) ({ frames := 1, cells := 0, slots := 0, locals := 21 } : Room)).room s m ([.ref (ad d), .ref (ad d2), .ref (ad d3), .int a3, .ref (ad 31)] : List Value).toArray below meth c H locs 0 0 (MQ below (QV g (WC g ad s0 ++ X) (dd_A 59 ad X s.heap.size)) ([.ref (ad d), .ref (ad d2), .ref (ad d3), .int a3, .ref (ad 31)] : List Value).toArray s 0 0 (dd_A 59 ad X s.heap.size)) (F0 m 42 ls []) := by
    intro k_8 hk_8 sg v5 H locs ls hf hP hS hl
    unfold f_X0_join_42 at hf
    obtain ⟨x22, ex22, hf⟩ := lt_ex hf
    refine lv_iinc (v := x22) (lv' := [(5, .int x22), (0, .ref (ad d)), (1, .ref (ad d2)), (2, .ref (ad d3)), (3, .int a3), (4, .ref (ad 31))]) hx hb dX0_join_42 hl (k := 5) rfl (by rw [ex22]; rfl) (by decide) rfl (fun ls hl => ?_)
    refine lv_goto (tgt := 8) hx hb dX0_join_45 (by decide) ?_
    exact hk_8 sg x22 _ _ _ hf hP hS (lv_sub hl [1, 2, 3, 4, 5, 0] rfl)
  have hL_85 : ∀ (k_51 : dd_S → Int32 → Option (dd_S)) (hk_51 : ∀ (sg : dd_S) (v5 : Int32) (H : Heap) (locs : List Loc) (ls : Array Slot), k_51 sg v5 = some (s0) → va_P g.1 vwCl (WC g ad sg ++ X) H → va_S (dd_A 59 ad X s.heap.size) s.heap H locs → lv_has ls 6 [(0, .ref (ad d)), (2, .ref (ad d3)), (3, .int a3), (4, .ref (ad 31)), (5, .int v5)] → W p l e (headSpec (lw_ws yX0_join cX0_join 6 (none)) ({ frames := 1, cells := 0, slots := 0, locals := 21 } : Room)).room s m ([.ref (ad d), .ref (ad d2), .ref (ad d3), .int a3, .ref (ad 31)] : List Value).toArray below meth c H locs 0 0 (MQ below (QV g (WC g ad s0 ++ X) (dd_A 59 ad X s.heap.size)) ([.ref (ad d), .ref (ad d2), .ref (ad d3), .int a3, .ref (ad 31)] : List Value).toArray s 0 0 (dd_A 59 ad X s.heap.size)) (F0 m 51 ls [])), ∀ (sg : dd_S) (v5 : Int32) (H : Heap) (locs : List Loc) (ls : Array Slot), f_X0_join_85 d d2 d3 a3 k_51 sg v5 = some (s0) → va_P g.1 vwCl (WC g ad sg ++ X) H → va_S (dd_A 59 ad X s.heap.size) s.heap H locs → lv_has ls 6 [(0, .ref (ad d)), (2, .ref (ad d3)), (3, .int a3), (4, .ref (ad 31)), (5, .int v5)] → W p l e (headSpec (lw_ws yX0_join cX0_join 6 (none)) ({ frames := 1, cells := 0, slots := 0, locals := 21 } : Room)).room s m ([.ref (ad d), .ref (ad d2), .ref (ad d3), .int a3, .ref (ad 31)] : List Value).toArray below meth c H locs 0 0 (MQ below (QV g (WC g ad s0 ++ X) (dd_A 59 ad X s.heap.size)) ([.ref (ad d), .ref (ad d2), .ref (ad d3), .int a3, .ref (ad 31)] : List Value).toArray s 0 0 (dd_A 59 ad X s.heap.size)) (F0 m 85 ls []) := by
    intro k_51 hk_51 sg v5 H locs ls hf hP hS hl
    unfold f_X0_join_85 at hf
    obtain ⟨x23, ex23, hf⟩ := lt_ex hf
    refine lv_iinc (v := x23) (lv' := [(5, .int x23), (0, .ref (ad d)), (2, .ref (ad d3)), (3, .int a3), (4, .ref (ad 31))]) hx hb dX0_join_85 hl (k := 4) rfl (by rw [ex23]; rfl) (by decide) rfl (fun ls hl => ?_)
    refine lv_goto (tgt := 51) hx hb dX0_join_88 (by decide) ?_
    exact hk_51 sg x23 _ _ _ hf hP hS (lv_sub hl [1, 2, 3, 4, 0] rfl)
  have hL_51 : ∀ (n : Nat), ∀ (sg : dd_S) (v5 : Int32) (H : Heap) (locs : List Loc) (ls : Array Slot), f_X0_join_51 d d2 d3 a3 n sg v5 = some (s0) → va_P g.1 vwCl (WC g ad sg ++ X) H → va_S (dd_A 59 ad X s.heap.size) s.heap H locs → lv_has ls 6 [(0, .ref (ad d)), (2, .ref (ad d3)), (3, .int a3), (4, .ref (ad 31)), (5, .int v5)] → W p l e (headSpec (lw_ws yX0_join cX0_join 6 (none)) ({ frames := 1, cells := 0, slots := 0, locals := 21 } : Room)).room s m ([.ref (ad d), .ref (ad d2), .ref (ad d3), .int a3, .ref (ad 31)] : List Value).toArray below meth c H locs 0 0 (MQ below (QV g (WC g ad s0 ++ X) (dd_A 59 ad X s.heap.size)) ([.ref (ad d), .ref (ad d2), .ref (ad d3), .int a3, .ref (ad 31)] : List Value).toArray s 0 0 (dd_A 59 ad X s.heap.size)) (F0 m 51 ls []) := by
    intro n
    induction n with
    | zero =>
      intro sg v5 H locs ls hf
      rw [f_X0_join_51] at hf
      cases hf
    | succ n ih =>
      intro sg v5 H locs ls hf hP hS hl
      rw [f_X0_join_51] at hf
      refine lv_iload hx hb dX0_join_51 (lv_at hl 4 rfl) ?_
      refine lv_aload_n hx hb dX0_join_53 rfl (lv_at hl 1 rfl) ?_
      refine gf_X0_19 hx hb hts hown hK hP hd3 dX0_join_54 ?_
      refine lv_icmp_ge (tgt := 91) hx hb dX0_join_57 (by decide) (fun c12 => ?_) (fun c12 => ?_)
      · have hf := if_t c12 hf
        exact W.vret hx hb hr (fun t ht hW => ⟨⟨(), rfl, trivial, P_at2 (so1 hf) ht hP⟩, hS.F ht⟩) hS.2.2 dX0_join_91
      · have hf := if_f c12 hf
        refine lv_aload hx hb dX0_join_60 (lv_at hl 3 rfl) ?_
        refine lv_aload_n hx hb dX0_join_62 rfl (lv_at hl 1 rfl) ?_
        refine lv_iload hx hb dX0_join_63 (lv_at hl 4 rfl) ?_
        obtain ⟨r14, q13, hf⟩ := bd_so hf
        refine cl_i (va_runV (As := [.int v5]) (rest := [.ref (ad 31)]) ⟨hx, hb, hml, hown, hts⟩ (c_X0_tripIn l g ad X _ sg d3 v5 hd3 r14 q13) (cwV 1 hts gl_X0_23 rfl rfl rfl yd_X0_tripIn ⟨Nat.le_of_ble_eq_true rfl, Nat.le_of_ble_eq_true rfl⟩) (preV_of hK hP (hD sg) (dd_at (Nat.lt_trans hd3 (by decide)) (cc_duty hd3)) rfl) rfl rfl hl.1 rfl (lv_room (Nat.le_of_ble_eq_true rfl)) dX0_join_65 ⟨Nat.le_of_ble_eq_true rfl, Nat.le_of_ble_eq_true rfl⟩) hS (fun q h => dd_A_mono hS.1 h) (fun q h => dd_A_mono hS.1 h) (fun H locs hP hS => ?_)
        obtain ⟨r16, q15, hf⟩ := bd_so hf
        refine cl_i (va_runV (As := [.int r14]) (rest := []) ⟨hx, hb, hml, hown, hts⟩ (c_X4_departureOf l g ad X _ sg r14 r16 q15) (cwV 1 hts gl_X0_27 rfl rfl rfl yd_X4_departureOf ⟨Nat.le_of_ble_eq_true rfl, Nat.le_of_ble_eq_true rfl⟩) (preV_of hK hP (hD sg) (dd_at (by decide) cc_31) rfl) rfl rfl hl.1 rfl (lv_room (Nat.le_of_ble_eq_true rfl)) dX0_join_68 ⟨Nat.le_of_ble_eq_true rfl, Nat.le_of_ble_eq_true rfl⟩) hS (fun q h => dd_A_mono hS.1 h) (fun q h => dd_A_mono hS.1 h) (fun H locs hP hS => ?_)
        refine lv_iload_n hx hb dX0_join_71 rfl (lv_at hl 2 rfl) ?_
        refine lv_icmp_lt (tgt := 85) hx hb dX0_join_72 (by decide) (fun c17 => ?_) (fun c17 => ?_)
        · have hf := if_t c17 hf
          exact hL_85 (fun zs z0 => f_X0_join_51 d d2 d3 a3 n zs z0) ih sg v5 _ _ _ hf hP hS (lv_sub hl [0, 1, 2, 3, 4] rfl)
        · have hf := if_f c17 hf
          refine lv_aload_n hx hb dX0_join_75 rfl (lv_at hl 0 rfl) ?_
          refine lv_aload_n hx hb dX0_join_76 rfl (lv_at hl 1 rfl) ?_
          refine lv_iload hx hb dX0_join_77 (lv_at hl 4 rfl) ?_
          obtain ⟨r19, q18, hf⟩ := bd_so hf
          refine cl_i (va_runV (As := [.int v5]) (rest := [.ref (ad d)]) ⟨hx, hb, hml, hown, hts⟩ (c_X0_tripIn l g ad X _ sg d3 v5 hd3 r19 q18) (cwV 1 hts gl_X0_23 rfl rfl rfl yd_X0_tripIn ⟨Nat.le_of_ble_eq_true rfl, Nat.le_of_ble_eq_true rfl⟩) (preV_of hK hP (hD sg) (dd_at (Nat.lt_trans hd3 (by decide)) (cc_duty hd3)) rfl) rfl rfl hl.1 rfl (lv_room (Nat.le_of_ble_eq_true rfl)) dX0_join_79 ⟨Nat.le_of_ble_eq_true rfl, Nat.le_of_ble_eq_true rfl⟩) hS (fun q h => dd_A_mono hS.1 h) (fun q h => dd_A_mono hS.1 h) (fun H locs hP hS => ?_)
          obtain ⟨sg21, q20, hf⟩ := bd_so hf
          refine cl_v (va_runV (As := [.int r19]) (rest := []) ⟨hx, hb, hml, hown, hts⟩ (c_X0_append l g ad X _ sg d r19 hd sg21 q20) (cwV 1 hts gl_X0_32 rfl rfl rfl yd_X0_append ⟨Nat.le_of_ble_eq_true rfl, Nat.le_of_ble_eq_true rfl⟩) (preV_of hK hP (hD sg) (dd_at (Nat.lt_trans hd (by decide)) (cc_duty hd)) rfl) rfl rfl hl.1 rfl (lv_room (Nat.le_of_ble_eq_true rfl)) dX0_join_82 ⟨Nat.le_of_ble_eq_true rfl, Nat.le_of_ble_eq_true rfl⟩) hS (fun q h => dd_A_mono hS.1 h) (fun q h => dd_A_mono hS.1 h) (fun H locs hP hS => ?_)
          exact hL_85 (fun zs z0 => f_X0_join_51 d d2 d3 a3 n zs z0) ih sg21 v5 _ _ _ hf hP hS (lv_sub hl [0, 1, 2, 3, 4] rfl)
  have hL_8 : ∀ (n : Nat), ∀ (sg : dd_S) (v5 : Int32) (H : Heap) (locs : List Loc) (ls : Array Slot), f_X0_join_8 d d2 d3 a3 n sg v5 = some (s0) → va_P g.1 vwCl (WC g ad sg ++ X) H → va_S (dd_A 59 ad X s.heap.size) s.heap H locs → lv_has ls 6 [(0, .ref (ad d)), (1, .ref (ad d2)), (2, .ref (ad d3)), (3, .int a3), (4, .ref (ad 31)), (5, .int v5)] → W p l e (headSpec (lw_ws yX0_join cX0_join 6 (none)) ({ frames := 1, cells := 0, slots := 0, locals := 21 } : Room)).room s m ([.ref (ad d), .ref (ad d2), .ref (ad d3), .int a3, .ref (ad 31)] : List Value).toArray below meth c H locs 0 0 (MQ below (QV g (WC g ad s0 ++ X) (dd_A 59 ad X s.heap.size)) ([.ref (ad d), .ref (ad d2), .ref (ad d3), .int a3, .ref (ad 31)] : List Value).toArray s 0 0 (dd_A 59 ad X s.heap.size)) (F0 m 8 ls []) := by
    intro n
    induction n with
    | zero =>
      intro sg v5 H locs ls hf
      rw [f_X0_join_8] at hf
      cases hf
    | succ n ih =>
      intro sg v5 H locs ls hf hP hS hl
      rw [f_X0_join_8] at hf
      refine lv_iload hx hb dX0_join_8 (lv_at hl 5 rfl) ?_
      refine lv_aload_n hx hb dX0_join_10 rfl (lv_at hl 1 rfl) ?_
      refine gf_X0_19 hx hb hts hown hK hP hd2 dX0_join_11 ?_
      refine lv_icmp_ge (tgt := 48) hx hb dX0_join_14 (by decide) (fun c2 => ?_) (fun c2 => ?_)
      · have hf := if_t c2 hf
        refine lv_iconst (v := (0 : Int32)) hx hb dX0_join_48 (by decide) ?_
        refine lv_istore (lv' := [(5, .int (0 : Int32)), (0, .ref (ad d)), (1, .ref (ad d2)), (2, .ref (ad d3)), (3, .int a3), (4, .ref (ad 31))]) hx hb dX0_join_49 hl (by decide) rfl (fun ls hl => ?_)
        exact hL_51 64 sg (0 : Int32) _ _ _ hf hP hS (lv_sub hl [1, 3, 4, 5, 0] rfl)
      · have hf := if_f c2 hf
        refine lv_aload hx hb dX0_join_17 (lv_at hl 4 rfl) ?_
        refine lv_aload_n hx hb dX0_join_19 rfl (lv_at hl 1 rfl) ?_
        refine lv_iload hx hb dX0_join_20 (lv_at hl 5 rfl) ?_
        obtain ⟨r4, q3, hf⟩ := bd_so hf
        refine cl_i (va_runV (As := [.int v5]) (rest := [.ref (ad 31)]) ⟨hx, hb, hml, hown, hts⟩ (c_X0_tripIn l g ad X _ sg d2 v5 hd2 r4 q3) (cwV 1 hts gl_X0_23 rfl rfl rfl yd_X0_tripIn ⟨Nat.le_of_ble_eq_true rfl, Nat.le_of_ble_eq_true rfl⟩) (preV_of hK hP (hD sg) (dd_at (Nat.lt_trans hd2 (by decide)) (cc_duty hd2)) rfl) rfl rfl hl.1 rfl (lv_room (Nat.le_of_ble_eq_true rfl)) dX0_join_22 ⟨Nat.le_of_ble_eq_true rfl, Nat.le_of_ble_eq_true rfl⟩) hS (fun q h => dd_A_mono hS.1 h) (fun q h => dd_A_mono hS.1 h) (fun H locs hP hS => ?_)
        obtain ⟨r6, q5, hf⟩ := bd_so hf
        refine cl_i (va_runV (As := [.int r4]) (rest := []) ⟨hx, hb, hml, hown, hts⟩ (c_X4_departureOf l g ad X _ sg r4 r6 q5) (cwV 1 hts gl_X0_27 rfl rfl rfl yd_X4_departureOf ⟨Nat.le_of_ble_eq_true rfl, Nat.le_of_ble_eq_true rfl⟩) (preV_of hK hP (hD sg) (dd_at (by decide) cc_31) rfl) rfl rfl hl.1 rfl (lv_room (Nat.le_of_ble_eq_true rfl)) dX0_join_25 ⟨Nat.le_of_ble_eq_true rfl, Nat.le_of_ble_eq_true rfl⟩) hS (fun q h => dd_A_mono hS.1 h) (fun q h => dd_A_mono hS.1 h) (fun H locs hP hS => ?_)
        refine lv_iload_n hx hb dX0_join_28 rfl (lv_at hl 3 rfl) ?_
        refine lv_icmp_ge (tgt := 42) hx hb dX0_join_29 (by decide) (fun c7 => ?_) (fun c7 => ?_)
        · have hf := if_t c7 hf
          exact hL_42 (fun zs z0 => f_X0_join_8 d d2 d3 a3 n zs z0) ih sg v5 _ _ _ hf hP hS (lv_sub hl [0, 1, 2, 3, 4, 5] rfl)
        · have hf := if_f c7 hf
          refine lv_aload_n hx hb dX0_join_32 rfl (lv_at hl 0 rfl) ?_
          refine lv_aload_n hx hb dX0_join_33 rfl (lv_at hl 1 rfl) ?_
          refine lv_iload hx hb dX0_join_34 (lv_at hl 5 rfl) ?_
          obtain ⟨r9, q8, hf⟩ := bd_so hf
          refine cl_i (va_runV (As := [.int v5]) (rest := [.ref (ad d)]) ⟨hx, hb, hml, hown, hts⟩ (c_X0_tripIn l g ad X _ sg d2 v5 hd2 r9 q8) (cwV 1 hts gl_X0_23 rfl rfl rfl yd_X0_tripIn ⟨Nat.le_of_ble_eq_true rfl, Nat.le_of_ble_eq_true rfl⟩) (preV_of hK hP (hD sg) (dd_at (Nat.lt_trans hd2 (by decide)) (cc_duty hd2)) rfl) rfl rfl hl.1 rfl (lv_room (Nat.le_of_ble_eq_true rfl)) dX0_join_36 ⟨Nat.le_of_ble_eq_true rfl, Nat.le_of_ble_eq_true rfl⟩) hS (fun q h => dd_A_mono hS.1 h) (fun q h => dd_A_mono hS.1 h) (fun H locs hP hS => ?_)
          obtain ⟨sg11, q10, hf⟩ := bd_so hf
          refine cl_v (va_runV (As := [.int r9]) (rest := []) ⟨hx, hb, hml, hown, hts⟩ (c_X0_append l g ad X _ sg d r9 hd sg11 q10) (cwV 1 hts gl_X0_32 rfl rfl rfl yd_X0_append ⟨Nat.le_of_ble_eq_true rfl, Nat.le_of_ble_eq_true rfl⟩) (preV_of hK hP (hD sg) (dd_at (Nat.lt_trans hd (by decide)) (cc_duty hd)) rfl) rfl rfl hl.1 rfl (lv_room (Nat.le_of_ble_eq_true rfl)) dX0_join_39 ⟨Nat.le_of_ble_eq_true rfl, Nat.le_of_ble_eq_true rfl⟩) hS (fun q h => dd_A_mono hS.1 h) (fun q h => dd_A_mono hS.1 h) (fun H locs hP hS => ?_)
          exact hL_42 (fun zs z0 => f_X0_join_8 d d2 d3 a3 n zs z0) ih sg11 v5 _ _ _ hf hP hS (lv_sub hl [0, 1, 2, 3, 4, 5] rfl)
  unfold f_X0_join at hf
  have hl := lv_entry ([.ref (ad d), .ref (ad d2), .ref (ad d3), .int a3, .ref (ad 31)]) (n := 6) (Nat.le_of_ble_eq_true rfl)
  rw [lg_entry_eq]
  generalize (lg_sl ([.ref (ad d), .ref (ad d2), .ref (ad d3), .int a3, .ref (ad 31)]) ++ List.replicate (6 - (lg_sl ([.ref (ad d), .ref (ad d2), .ref (ad d3), .int a3, .ref (ad 31)])).length) Slot.unset).toArray = ls at hl ⊢
  have hl : lv_has ls 6 [(0, .ref (ad d)), (1, .ref (ad d2)), (2, .ref (ad d3)), (3, .int a3), (4, .ref (ad 31))] := hl
  refine lv_aload_n hx hb dX0_join_0 rfl (lv_at hl 0 rfl) ?_
  refine lv_iconst (v := (0 : Int32)) hx hb dX0_join_1 (by decide) ?_
  obtain ⟨sg1, esg1, hf⟩ := lt_ex hf
  refine pf_X0_19 hx hb hts hown hK hP hD hS hd dX0_join_2 (fun H locs hP hS => ?_)
  rw [← esg1] at hP
  refine lv_iconst (v := (0 : Int32)) hx hb dX0_join_5 (by decide) ?_
  refine lv_istore (lv' := [(5, .int (0 : Int32)), (0, .ref (ad d)), (1, .ref (ad d2)), (2, .ref (ad d3)), (3, .int a3), (4, .ref (ad 31))]) hx hb dX0_join_6 hl (by decide) rfl (fun ls hl => ?_)
  exact hL_8 64 sg1 (0 : Int32) _ _ _ hf hP hS (lv_sub hl [1, 2, 3, 4, 5, 0] rfl)
set_option maxHeartbeats 4000000 in
set_option maxRecDepth 100000 in
theorem c_X0_payFor (l : Launch) (g : dd_G) (ad : Nat → Nat) (X : va_W) (sz : Nat) (sg : dd_S) (a0 : Int32) (r0 : Int32) (hf : f_X0_payFor sg a0 = some (r0)) : Met l yX0_payFor (lw_ws yX0_payFor cX0_payFor 2 (some .int)) ({ frames := 0, cells := 0, slots := 0, locals := 0 } : Room) (va_Pc [.int a0] (PreW g (WC g ad sg ++ X) sz)) (QI g (WC g ad sg ++ X) (dd_A 59 ad X sz) r0) 0 0 (dd_A 59 ad X sz) := by
  refine Met.ofW (cc := cX0_payFor) (maxL := 2) (ret := some .int) (by decide) rfl ?_
  intro p e s m args below meth c s₁ B hml hv
  obtain ⟨rfl, rfl, hP, hK, hD0⟩ := hv
  have hx := B.exec
  have hb := B.bytes
  have hr := B.returns
  have hts := atoms_spec (ws := (lw_ws yX0_payFor cX0_payFor 2 (some .int))) B.pre
  have hts : ∀ w ∈ lw_all, w.before _ s = true := fun w h => hts w (List.mem_cons_of_mem _ h)
  have hown : s.vm.findClass RX0 = some m.cls := findClass_of_methodNamed B.named
  have hlocks := B.notSynchronized
  have hD : ∀ s2 : dd_S, va_D (dd_A 59 ad X s.heap.size) (WC g ad s2 ++ X) := fun s2 => dd_D (dd_A_D hD0)
  have hS : va_S (dd_A 59 ad X s.heap.size) s.heap s.heap [] := va_S.rf
  have hL_35 : ∀ (t0 : Int32) (H : Heap) (locs : List Loc) (ls : Array Slot), f_X0_payFor_35 sg a0 t0 = some (r0) → va_P g.1 vwCl (WC g ad sg ++ X) H → va_S (dd_A 59 ad X s.heap.size) s.heap H locs → lv_has ls 2 [] → W p l e (headSpec (lw_ws yX0_payFor cX0_payFor 2 (some .int)) ({ frames := 0, cells := 0, slots := 0, locals := 0 } : Room)).room s m ([.int a0] : List Value).toArray below meth c H locs 0 0 (MQ below (QI g (WC g ad sg ++ X) (dd_A 59 ad X s.heap.size) r0) ([.int a0] : List Value).toArray s 0 0 (dd_A 59 ad X s.heap.size)) (F0 m 35 ls [.int t0]) := by
    intro t0 H locs ls hf hP hS hl
    unfold f_X0_payFor_35 at hf
    exact W.iret (v := t0) hx hb hr (fun t ht hW => ⟨⟨t0, (), rfl, so1 hf, P_at ht hP⟩, hS.F ht⟩) hS.2.2 dX0_payFor_35
  have hL_14 : ∀ (t0 : Int32) (H : Heap) (locs : List Loc) (ls : Array Slot), f_X0_payFor_14 sg a0 t0 = some (r0) → va_P g.1 vwCl (WC g ad sg ++ X) H → va_S (dd_A 59 ad X s.heap.size) s.heap H locs → lv_has ls 2 [(0, .int a0)] → W p l e (headSpec (lw_ws yX0_payFor cX0_payFor 2 (some .int)) ({ frames := 0, cells := 0, slots := 0, locals := 0 } : Room)).room s m ([.int a0] : List Value).toArray below meth c H locs 0 0 (MQ below (QI g (WC g ad sg ++ X) (dd_A 59 ad X s.heap.size) r0) ([.int a0] : List Value).toArray s 0 0 (dd_A 59 ad X s.heap.size)) (F0 m 14 ls [.int t0]) := by
    intro t0 H locs ls hf hP hS hl
    unfold f_X0_payFor_14 at hf
    refine lv_istore_n (lv' := [(1, .int t0), (0, .int a0)]) hx hb dX0_payFor_14 rfl hl (by decide) rfl (fun ls hl => ?_)
    refine lv_iload_n hx hb dX0_payFor_15 rfl (lv_at hl 1 rfl) ?_
    refine lv_sipush (v := (480 : Int32)) hx hb dX0_payFor_16 (by decide) ?_
    refine lv_icmp_le (tgt := 34) hx hb dX0_payFor_19 (by decide) (fun c2 => ?_) (fun c2 => ?_)
    · have hf := if_t c2 hf
      refine lv_iload_n hx hb dX0_payFor_34 rfl (lv_at hl 0 rfl) ?_
      exact hL_35 t0 _ _ _ hf hP hS (lv_sub hl [] rfl)
    · have hf := if_f c2 hf
      refine lv_iload_n hx hb dX0_payFor_22 rfl (lv_at hl 0 rfl) ?_
      refine lv_iload_n hx hb dX0_payFor_23 rfl (lv_at hl 1 rfl) ?_
      refine lv_sipush (v := (480 : Int32)) hx hb dX0_payFor_24 (by decide) ?_
      refine lv_isub hx hb dX0_payFor_27 ?_
      refine lv_iconst (v := (2 : Int32)) hx hb dX0_payFor_28 (by decide) ?_
      refine lv_idiv hx hb dX0_payFor_29 (by decide) ?_
      refine lv_iadd hx hb dX0_payFor_30 ?_
      refine lv_goto (tgt := 35) hx hb dX0_payFor_31 (by decide) ?_
      exact hL_35 (t0 + ((a0 - (480 : Int32)) / (2 : Int32))) _ _ _ hf hP hS (lv_sub hl [] rfl)
  unfold f_X0_payFor at hf
  have hl := lv_entry ([.int a0]) (n := 2) (Nat.le_of_ble_eq_true rfl)
  rw [lg_entry_eq]
  generalize (lg_sl ([.int a0]) ++ List.replicate (2 - (lg_sl ([.int a0])).length) Slot.unset).toArray = ls at hl ⊢
  have hl : lv_has ls 2 [(0, .int a0)] := hl
  refine lv_iload_n hx hb dX0_payFor_0 rfl (lv_at hl 0 rfl) ?_
  refine lv_sipush (v := (360 : Int32)) hx hb dX0_payFor_1 (by decide) ?_
  refine lv_icmp_ge (tgt := 13) hx hb dX0_payFor_4 (by decide) (fun c1 => ?_) (fun c1 => ?_)
  · have hf := if_t c1 hf
    refine lv_iload_n hx hb dX0_payFor_13 rfl (lv_at hl 0 rfl) ?_
    exact hL_14 a0 _ _ _ hf hP hS (lv_sub hl [0] rfl)
  · have hf := if_f c1 hf
    refine lv_sipush (v := (360 : Int32)) hx hb dX0_payFor_7 (by decide) ?_
    refine lv_goto (tgt := 14) hx hb dX0_payFor_10 (by decide) ?_
    exact hL_14 (360 : Int32) _ _ _ hf hP hS (lv_sub hl [0] rfl)
set_option maxHeartbeats 4000000 in
set_option maxRecDepth 100000 in
theorem c_X0_endStretch (l : Launch) (g : dd_G) (ad : Nat → Nat) (X : va_W) (sz : Nat) (sg : dd_S) (d : Nat) (a1 : Int32) (hd : d < 15) (s0 : dd_S) (hf : f_X0_endStretch sg d a1 = some (s0)) : Met l yX0_endStretch (lw_ws yX0_endStretch cX0_endStretch 2 (none)) ({ frames := 0, cells := 0, slots := 0, locals := 0 } : Room) (va_Pc [.ref (ad d), .int a1] (PreW g (WC g ad sg ++ X) sz)) (QV g (WC g ad s0 ++ X) (dd_A 59 ad X sz)) 0 0 (dd_A 59 ad X sz) := by
  refine Met.ofW (cc := cX0_endStretch) (maxL := 2) (ret := none) (by decide) rfl ?_
  intro p e s m args below meth c s₁ B hml hv
  obtain ⟨rfl, rfl, hP, hK, hD0⟩ := hv
  have hx := B.exec
  have hb := B.bytes
  have hr := B.returns
  have hts := atoms_spec (ws := (lw_ws yX0_endStretch cX0_endStretch 2 (none))) B.pre
  have hts : ∀ w ∈ lw_all, w.before _ s = true := fun w h => hts w (List.mem_cons_of_mem _ h)
  have hown : s.vm.findClass RX0 = some m.cls := findClass_of_methodNamed B.named
  have hlocks := B.notSynchronized
  have hD : ∀ s2 : dd_S, va_D (dd_A 59 ad X s.heap.size) (WC g ad s2 ++ X) := fun s2 => dd_D (dd_A_D hD0)
  have hS : va_S (dd_A 59 ad X s.heap.size) s.heap s.heap [] := va_S.rf
  have hL_13 : ∀ (sg : dd_S) (H : Heap) (locs : List Loc) (ls : Array Slot), f_X0_endStretch_13 d a1 sg = some (s0) → va_P g.1 vwCl (WC g ad sg ++ X) H → va_S (dd_A 59 ad X s.heap.size) s.heap H locs → lv_has ls 2 [] → W p l e (headSpec (lw_ws yX0_endStretch cX0_endStretch 2 (none)) ({ frames := 0, cells := 0, slots := 0, locals := 0 } : Room)).room s m ([.ref (ad d), .int a1] : List Value).toArray below meth c H locs 0 0 (MQ below (QV g (WC g ad s0 ++ X) (dd_A 59 ad X s.heap.size)) ([.ref (ad d), .int a1] : List Value).toArray s 0 0 (dd_A 59 ad X s.heap.size)) (F0 m 13 ls []) := by
    intro sg H locs ls hf hP hS hl
    unfold f_X0_endStretch_13 at hf
    exact W.vret hx hb hr (fun t ht hW => ⟨⟨(), rfl, trivial, P_at2 (so1 hf) ht hP⟩, hS.F ht⟩) hS.2.2 dX0_endStretch_13
  unfold f_X0_endStretch at hf
  have hl := lv_entry ([.ref (ad d), .int a1]) (n := 2) (Nat.le_of_ble_eq_true rfl)
  rw [lg_entry_eq]
  generalize (lg_sl ([.ref (ad d), .int a1]) ++ List.replicate (2 - (lg_sl ([.ref (ad d), .int a1])).length) Slot.unset).toArray = ls at hl ⊢
  have hl : lv_has ls 2 [(0, .ref (ad d)), (1, .int a1)] := hl
  refine lv_iload_n hx hb dX0_endStretch_0 rfl (lv_at hl 1 rfl) ?_
  refine lv_aload_n hx hb dX0_endStretch_1 rfl (lv_at hl 0 rfl) ?_
  refine gf_X0_51 hx hb hts hown hK hP hd dX0_endStretch_2 ?_
  refine lv_icmp_le (tgt := 13) hx hb dX0_endStretch_5 (by decide) (fun c1 => ?_) (fun c1 => ?_)
  · have hf := if_t c1 hf
    exact hL_13 sg _ _ _ hf hP hS (lv_sub hl [] rfl)
  · have hf := if_f c1 hf
    refine lv_aload_n hx hb dX0_endStretch_8 rfl (lv_at hl 0 rfl) ?_
    refine lv_iload_n hx hb dX0_endStretch_9 rfl (lv_at hl 1 rfl) ?_
    obtain ⟨sg2, esg2, hf⟩ := lt_ex hf
    refine pf_X0_51 hx hb hts hown hK hP hD hS hd dX0_endStretch_10 (fun H locs hP hS => ?_)
    rw [← esg2] at hP
    exact hL_13 sg2 _ _ _ hf hP hS (lv_sub hl [] rfl)
set_option maxHeartbeats 4000000 in
set_option maxRecDepth 100000 in
theorem c_X0_measureSpread (l : Launch) (g : dd_G) (ad : Nat → Nat) (X : va_W) (sz : Nat) (sg : dd_S) (d : Nat) (hd : d < 15) (s0 : dd_S) (hf : f_X0_measureSpread sg d = some (s0)) : Met l yX0_measureSpread (lw_ws yX0_measureSpread cX0_measureSpread 6 (none)) ({ frames := 1, cells := 0, slots := 0, locals := 22 } : Room) (va_Pc [.ref (ad d), .ref (ad 31)] (PreW g (WC g ad sg ++ X) sz)) (QV g (WC g ad s0 ++ X) (dd_A 59 ad X sz)) 0 0 (dd_A 59 ad X sz) := by
  refine Met.ofW (cc := cX0_measureSpread) (maxL := 6) (ret := none) (by decide) rfl ?_
  intro p e s m args below meth c s₁ B hml hv
  obtain ⟨rfl, rfl, hP, hK, hD0⟩ := hv
  have hx := B.exec
  have hb := B.bytes
  have hr := B.returns
  have hts := atoms_spec (ws := (lw_ws yX0_measureSpread cX0_measureSpread 6 (none))) B.pre
  have hts : ∀ w ∈ lw_all, w.before _ s = true := fun w h => hts w (List.mem_cons_of_mem _ h)
  have hown : s.vm.findClass RX0 = some m.cls := findClass_of_methodNamed B.named
  have hlocks := B.notSynchronized
  have hD : ∀ s2 : dd_S, va_D (dd_A 59 ad X s.heap.size) (WC g ad s2 ++ X) := fun s2 => dd_D (dd_A_D hD0)
  have hS : va_S (dd_A 59 ad X s.heap.size) s.heap s.heap [] := va_S.rf
  unfold f_X0_measureSpread at hf
  have hl := lv_entry ([.ref (ad d), .ref (ad 31)]) (n := 6) (Nat.le_of_ble_eq_true rfl)
  rw [lg_entry_eq]
  generalize (lg_sl ([.ref (ad d), .ref (ad 31)]) ++ List.replicate (6 - (lg_sl ([.ref (ad d), .ref (ad 31)])).length) Slot.unset).toArray = ls at hl ⊢
  have hl : lv_has ls 6 [(0, .ref (ad d)), (1, .ref (ad 31))] := hl
  refine lv_aload_n hx hb dX0_measureSpread_0 rfl (lv_at hl 0 rfl) ?_
  refine lv_iconst (v := (0 : Int32)) hx hb dX0_measureSpread_1 (by decide) ?_
  obtain ⟨r2, q1, hf⟩ := bd_so hf
  refine cl_i (va_runV (As := [.int (0 : Int32)]) (rest := []) ⟨hx, hb, hml, hown, hts⟩ (c_X0_tripIn l g ad X _ sg d (0 : Int32) hd r2 q1) (cwV 1 hts gl_X0_23 rfl rfl rfl yd_X0_tripIn ⟨Nat.le_of_ble_eq_true rfl, Nat.le_of_ble_eq_true rfl⟩) (preV_of hK hP (hD sg) (dd_at (Nat.lt_trans hd (by decide)) (cc_duty hd)) rfl) rfl rfl hl.1 rfl (lv_room (Nat.le_of_ble_eq_true rfl)) dX0_measureSpread_2 ⟨Nat.le_of_ble_eq_true rfl, Nat.le_of_ble_eq_true rfl⟩) hS (fun q h => dd_A_mono hS.1 h) (fun q h => dd_A_mono hS.1 h) (fun H locs hP hS => ?_)
  refine lv_istore_n (lv' := [(2, .int r2), (0, .ref (ad d)), (1, .ref (ad 31))]) hx hb dX0_measureSpread_5 rfl hl (by decide) rfl (fun ls hl => ?_)
  refine lv_aload_n hx hb dX0_measureSpread_6 rfl (lv_at hl 1 rfl) ?_
  refine lv_aload_n hx hb dX0_measureSpread_7 rfl (lv_at hl 1 rfl) ?_
  refine gf_X0_19 hx hb hts hown hK hP hd dX0_measureSpread_8 ?_
  refine lv_iconst (v := (1 : Int32)) hx hb dX0_measureSpread_11 (by decide) ?_
  refine lv_isub hx hb dX0_measureSpread_12 ?_
  obtain ⟨r4, q3, hf⟩ := bd_so hf
  refine cl_i (va_runV (As := [.int ((sg d 1) - (1 : Int32))]) (rest := []) ⟨hx, hb, hml, hown, hts⟩ (c_X0_tripIn l g ad X _ sg d ((sg d 1) - (1 : Int32)) hd r4 q3) (cwV 1 hts gl_X0_23 rfl rfl rfl yd_X0_tripIn ⟨Nat.le_of_ble_eq_true rfl, Nat.le_of_ble_eq_true rfl⟩) (preV_of hK hP (hD sg) (dd_at (Nat.lt_trans hd (by decide)) (cc_duty hd)) rfl) rfl rfl hl.1 rfl (lv_room (Nat.le_of_ble_eq_true rfl)) dX0_measureSpread_13 ⟨Nat.le_of_ble_eq_true rfl, Nat.le_of_ble_eq_true rfl⟩) hS (fun q h => dd_A_mono hS.1 h) (fun q h => dd_A_mono hS.1 h) (fun H locs hP hS => ?_)
  refine lv_istore_n (lv' := [(3, .int r4), (2, .int r2), (0, .ref (ad d)), (1, .ref (ad 31))]) hx hb dX0_measureSpread_16 rfl hl (by decide) rfl (fun ls hl => ?_)
  refine lv_aload_n hx hb dX0_measureSpread_17 rfl (lv_at hl 3 rfl) ?_
  refine lv_iconst (v := (0 : Int32)) hx hb dX0_measureSpread_18 (by decide) ?_
  refine lv_aload_n hx hb dX0_measureSpread_19 rfl (lv_at hl 3 rfl) ?_
  refine lv_iload_n hx hb dX0_measureSpread_20 rfl (lv_at hl 1 rfl) ?_
  obtain ⟨r6, q5, hf⟩ := bd_so hf
  refine cl_i (va_runV (As := [.int r2]) (rest := [.int (0 : Int32), .ref (ad 31)]) ⟨hx, hb, hml, hown, hts⟩ (c_X4_fromOf l g ad X _ sg r2 r6 q5) (cwV 1 hts gl_X0_73 rfl rfl rfl yd_X4_fromOf ⟨Nat.le_of_ble_eq_true rfl, Nat.le_of_ble_eq_true rfl⟩) (preV_of hK hP (hD sg) (dd_at (by decide) cc_31) rfl) rfl rfl hl.1 rfl (lv_room (Nat.le_of_ble_eq_true rfl)) dX0_measureSpread_21 ⟨Nat.le_of_ble_eq_true rfl, Nat.le_of_ble_eq_true rfl⟩) hS (fun q h => dd_A_mono hS.1 h) (fun q h => dd_A_mono hS.1 h) (fun H locs hP hS => ?_)
  obtain ⟨r8, q7, hf⟩ := bd_so hf
  refine cl_i (va_runV (As := [.int (0 : Int32), .int r6]) (rest := []) ⟨hx, hb, hml, hown, hts⟩ (c_X4_wayFrom l g ad X _ sg (0 : Int32) r6 r8 q7) (cwV 2 hts gl_X0_76 rfl rfl rfl yd_X4_wayFrom ⟨Nat.le_of_ble_eq_true rfl, Nat.le_of_ble_eq_true rfl⟩) (preV_of hK hP (hD sg) (dd_at (by decide) cc_31) rfl) rfl rfl hl.1 rfl (lv_room (Nat.le_of_ble_eq_true rfl)) dX0_measureSpread_24 ⟨Nat.le_of_ble_eq_true rfl, Nat.le_of_ble_eq_true rfl⟩) hS (fun q h => dd_A_mono hS.1 h) (fun q h => dd_A_mono hS.1 h) (fun H locs hP hS => ?_)
  refine lv_istore (lv' := [(4, .int r8), (3, .int r4), (2, .int r2), (0, .ref (ad d)), (1, .ref (ad 31))]) hx hb dX0_measureSpread_27 hl (by decide) rfl (fun ls hl => ?_)
  refine lv_aload_n hx hb dX0_measureSpread_29 rfl (lv_at hl 4 rfl) ?_
  refine lv_aload_n hx hb dX0_measureSpread_30 rfl (lv_at hl 4 rfl) ?_
  refine lv_iload_n hx hb dX0_measureSpread_31 rfl (lv_at hl 1 rfl) ?_
  obtain ⟨r10, q9, hf⟩ := bd_so hf
  refine cl_i (va_runV (As := [.int r4]) (rest := [.ref (ad 31)]) ⟨hx, hb, hml, hown, hts⟩ (c_X4_toOf l g ad X _ sg r4 r10 q9) (cwV 1 hts gl_X0_80 rfl rfl rfl yd_X4_toOf ⟨Nat.le_of_ble_eq_true rfl, Nat.le_of_ble_eq_true rfl⟩) (preV_of hK hP (hD sg) (dd_at (by decide) cc_31) rfl) rfl rfl hl.1 rfl (lv_room (Nat.le_of_ble_eq_true rfl)) dX0_measureSpread_32 ⟨Nat.le_of_ble_eq_true rfl, Nat.le_of_ble_eq_true rfl⟩) hS (fun q h => dd_A_mono hS.1 h) (fun q h => dd_A_mono hS.1 h) (fun H locs hP hS => ?_)
  refine lv_iconst (v := (0 : Int32)) hx hb dX0_measureSpread_35 (by decide) ?_
  obtain ⟨r12, q11, hf⟩ := bd_so hf
  refine cl_i (va_runV (As := [.int r10, .int (0 : Int32)]) (rest := []) ⟨hx, hb, hml, hown, hts⟩ (c_X4_wayFrom l g ad X _ sg r10 (0 : Int32) r12 q11) (cwV 2 hts gl_X0_76 rfl rfl rfl yd_X4_wayFrom ⟨Nat.le_of_ble_eq_true rfl, Nat.le_of_ble_eq_true rfl⟩) (preV_of hK hP (hD sg) (dd_at (by decide) cc_31) rfl) rfl rfl hl.1 rfl (lv_room (Nat.le_of_ble_eq_true rfl)) dX0_measureSpread_36 ⟨Nat.le_of_ble_eq_true rfl, Nat.le_of_ble_eq_true rfl⟩) hS (fun q h => dd_A_mono hS.1 h) (fun q h => dd_A_mono hS.1 h) (fun H locs hP hS => ?_)
  refine lv_istore (lv' := [(5, .int r12), (4, .int r8), (3, .int r4), (2, .int r2), (0, .ref (ad d)), (1, .ref (ad 31))]) hx hb dX0_measureSpread_39 hl (by decide) rfl (fun ls hl => ?_)
  refine lv_aload_n hx hb dX0_measureSpread_41 rfl (lv_at hl 4 rfl) ?_
  refine lv_aload_n hx hb dX0_measureSpread_42 rfl (lv_at hl 5 rfl) ?_
  refine lv_iload_n hx hb dX0_measureSpread_43 rfl (lv_at hl 3 rfl) ?_
  obtain ⟨r14, q13, hf⟩ := bd_so hf
  refine cl_i (va_runV (As := [.int r2]) (rest := [.ref (ad d)]) ⟨hx, hb, hml, hown, hts⟩ (c_X4_departureOf l g ad X _ sg r2 r14 q13) (cwV 1 hts gl_X0_27 rfl rfl rfl yd_X4_departureOf ⟨Nat.le_of_ble_eq_true rfl, Nat.le_of_ble_eq_true rfl⟩) (preV_of hK hP (hD sg) (dd_at (by decide) cc_31) rfl) rfl rfl hl.1 rfl (lv_room (Nat.le_of_ble_eq_true rfl)) dX0_measureSpread_44 ⟨Nat.le_of_ble_eq_true rfl, Nat.le_of_ble_eq_true rfl⟩) hS (fun q h => dd_A_mono hS.1 h) (fun q h => dd_A_mono hS.1 h) (fun H locs hP hS => ?_)
  refine lv_iload hx hb dX0_measureSpread_47 (lv_at hl 1 rfl) ?_
  refine lv_isub hx hb dX0_measureSpread_49 ?_
  refine lv_bipush (v := (10 : Int32)) hx hb dX0_measureSpread_50 (by decide) ?_
  refine lv_isub hx hb dX0_measureSpread_52 ?_
  obtain ⟨sg15, esg15, hf⟩ := lt_ex hf
  refine pf_X0_36 hx hb hts hown hK hP hD hS hd dX0_measureSpread_53 (fun H locs hP hS => ?_)
  rw [← esg15] at hP
  refine lv_aload_n hx hb dX0_measureSpread_56 rfl (lv_at hl 4 rfl) ?_
  refine lv_aload_n hx hb dX0_measureSpread_57 rfl (lv_at hl 5 rfl) ?_
  refine lv_iload_n hx hb dX0_measureSpread_58 rfl (lv_at hl 2 rfl) ?_
  obtain ⟨r17, q16, hf⟩ := bd_so hf
  refine cl_i (va_runV (As := [.int r4]) (rest := [.ref (ad d)]) ⟨hx, hb, hml, hown, hts⟩ (c_X4_arrivalOf l g ad X _ sg15 r4 r17 q16) (cwV 1 hts gl_X0_83 rfl rfl rfl yd_X4_arrivalOf ⟨Nat.le_of_ble_eq_true rfl, Nat.le_of_ble_eq_true rfl⟩) (preV_of hK hP (hD sg15) (dd_at (by decide) cc_31) rfl) rfl rfl hl.1 rfl (lv_room (Nat.le_of_ble_eq_true rfl)) dX0_measureSpread_59 ⟨Nat.le_of_ble_eq_true rfl, Nat.le_of_ble_eq_true rfl⟩) hS (fun q h => dd_A_mono hS.1 h) (fun q h => dd_A_mono hS.1 h) (fun H locs hP hS => ?_)
  refine lv_iload hx hb dX0_measureSpread_62 (lv_at hl 0 rfl) ?_
  refine lv_iadd hx hb dX0_measureSpread_64 ?_
  refine lv_iconst (v := (5 : Int32)) hx hb dX0_measureSpread_65 (by decide) ?_
  refine lv_iadd hx hb dX0_measureSpread_66 ?_
  obtain ⟨sg18, esg18, hf⟩ := lt_ex hf
  refine pf_X0_39 hx hb hts hown hK hP hD hS hd dX0_measureSpread_67 (fun H locs hP hS => ?_)
  rw [← esg18] at hP
  refine lv_aload_n hx hb dX0_measureSpread_70 rfl (lv_at hl 4 rfl) ?_
  refine lv_aload_n hx hb dX0_measureSpread_71 rfl (lv_at hl 4 rfl) ?_
  refine gf_X0_39 hx hb hts hown hK hP hd dX0_measureSpread_72 ?_
  refine lv_aload_n hx hb dX0_measureSpread_75 rfl (lv_at hl 4 rfl) ?_
  refine gf_X0_36 hx hb hts hown hK hP hd dX0_measureSpread_76 ?_
  refine lv_isub hx hb dX0_measureSpread_79 ?_
  obtain ⟨sg19, esg19, hf⟩ := lt_ex hf
  refine pf_X0_42 hx hb hts hown hK hP hD hS hd dX0_measureSpread_80 (fun H locs hP hS => ?_)
  rw [← esg19] at hP
  exact W.vret hx hb hr (fun t ht hW => ⟨⟨(), rfl, trivial, P_at2 (so1 hf) ht hP⟩, hS.F ht⟩) hS.2.2 dX0_measureSpread_83
set_option maxHeartbeats 4000000 in
set_option maxRecDepth 100000 in
theorem c_X0_measureStretches (l : Launch) (g : dd_G) (ad : Nat → Nat) (X : va_W) (sz : Nat) (sg : dd_S) (d : Nat) (hd : d < 15) (s0 : dd_S) (hf : f_X0_measureStretches sg d = some (s0)) : Met l yX0_measureStretches (lw_ws yX0_measureStretches cX0_measureStretches 9 (none)) ({ frames := 1, cells := 0, slots := 0, locals := 22 } : Room) (va_Pc [.ref (ad d), .ref (ad 31), .ref (ad 32)] (PreW g (WC g ad sg ++ X) sz)) (QV g (WC g ad s0 ++ X) (dd_A 59 ad X sz)) 0 0 (dd_A 59 ad X sz) := by
  refine Met.ofW (cc := cX0_measureStretches) (maxL := 9) (ret := none) (by decide) rfl ?_
  intro p e s m args below meth c s₁ B hml hv
  obtain ⟨rfl, rfl, hP, hK, hD0⟩ := hv
  have hx := B.exec
  have hb := B.bytes
  have hr := B.returns
  have hts := atoms_spec (ws := (lw_ws yX0_measureStretches cX0_measureStretches 9 (none))) B.pre
  have hts : ∀ w ∈ lw_all, w.before _ s = true := fun w h => hts w (List.mem_cons_of_mem _ h)
  have hown : s.vm.findClass RX0 = some m.cls := findClass_of_methodNamed B.named
  have hlocks := B.notSynchronized
  have hD : ∀ s2 : dd_S, va_D (dd_A 59 ad X s.heap.size) (WC g ad s2 ++ X) := fun s2 => dd_D (dd_A_D hD0)
  have hS : va_S (dd_A 59 ad X s.heap.size) s.heap s.heap [] := va_S.rf
  have hL_127 : ∀ (k_27 : dd_S → Int32 → Int32 → Int32 → Option (dd_S)) (hk_27 : ∀ (sg : dd_S) (v3 : Int32) (v4 : Int32) (v5 : Int32) (H : Heap) (locs : List Loc) (ls : Array Slot), k_27 sg v3 v4 v5 = some (s0) → va_P g.1 vwCl (WC g ad sg ++ X) H → va_S (dd_A 59 ad X s.heap.size) s.heap H locs → lv_has ls 9 [(0, .ref (ad d)), (1, .ref (ad 31)), (2, .ref (ad 32)), (3, .int v3), (4, .int v4), (5, .int v5)] → W p l e (headSpec (lw_ws yX0_measureStretches cX0_measureStretches 9 (none)) ({ frames := 1, cells := 0, slots := 0, locals := 22 } : Room)).room s m ([.ref (ad d), .ref (ad 31), .ref (ad 32)] : List Value).toArray below meth c H locs 0 0 (MQ below (QV g (WC g ad s0 ++ X) (dd_A 59 ad X s.heap.size)) ([.ref (ad d), .ref (ad 31), .ref (ad 32)] : List Value).toArray s 0 0 (dd_A 59 ad X s.heap.size)) (F0 m 27 ls [])), ∀ (sg : dd_S) (v4 : Int32) (v5 : Int32) (v6 : Int32) (v7 : Int32) (H : Heap) (locs : List Loc) (ls : Array Slot), f_X0_measureStretches_127 d k_27 sg v4 v5 v6 v7 = some (s0) → va_P g.1 vwCl (WC g ad sg ++ X) H → va_S (dd_A 59 ad X s.heap.size) s.heap H locs → lv_has ls 9 [(0, .ref (ad d)), (1, .ref (ad 31)), (2, .ref (ad 32)), (4, .int v4), (5, .int v5), (6, .int v6), (7, .int v7)] → W p l e (headSpec (lw_ws yX0_measureStretches cX0_measureStretches 9 (none)) ({ frames := 1, cells := 0, slots := 0, locals := 22 } : Room)).room s m ([.ref (ad d), .ref (ad 31), .ref (ad 32)] : List Value).toArray below meth c H locs 0 0 (MQ below (QV g (WC g ad s0 ++ X) (dd_A 59 ad X s.heap.size)) ([.ref (ad d), .ref (ad 31), .ref (ad 32)] : List Value).toArray s 0 0 (dd_A 59 ad X s.heap.size)) (F0 m 127 ls []) := by
    intro k_27 hk_27 sg v4 v5 v6 v7 H locs ls hf hP hS hl
    unfold f_X0_measureStretches_127 at hf
    refine lv_iload hx hb dX0_measureStretches_127 (lv_at hl 3 rfl) ?_
    refine lv_iload hx hb dX0_measureStretches_129 (lv_at hl 6 rfl) ?_
    refine lv_aload_n hx hb dX0_measureStretches_131 rfl (lv_at hl 1 rfl) ?_
    refine lv_iload hx hb dX0_measureStretches_132 (lv_at hl 5 rfl) ?_
    obtain ⟨r38, q37, hf⟩ := bd_so hf
    refine cl_i (va_runV (As := [.int v6]) (rest := [.int v7, .int v4]) ⟨hx, hb, hml, hown, hts⟩ (c_X4_minutesOf l g ad X _ sg v6 r38 q37) (cwV 1 hts gl_X0_86 rfl rfl rfl yd_X4_minutesOf ⟨Nat.le_of_ble_eq_true rfl, Nat.le_of_ble_eq_true rfl⟩) (preV_of hK hP (hD sg) (dd_at (by decide) cc_31) rfl) rfl rfl hl.1 rfl (lv_room (Nat.le_of_ble_eq_true rfl)) dX0_measureStretches_134 ⟨Nat.le_of_ble_eq_true rfl, Nat.le_of_ble_eq_true rfl⟩) hS (fun q h => dd_A_mono hS.1 h) (fun q h => dd_A_mono hS.1 h) (fun H locs hP hS => ?_)
    refine lv_iadd hx hb dX0_measureStretches_137 ?_
    refine lv_iadd hx hb dX0_measureStretches_138 ?_
    refine lv_topi (fun x39 ex39 => ?_)
    have hf := lt_so ex39 hf
    refine lv_istore (lv' := [(4, .int x39), (0, .ref (ad d)), (1, .ref (ad 31)), (2, .ref (ad 32)), (5, .int v5), (6, .int v6), (7, .int v7)]) hx hb dX0_measureStretches_139 hl (by decide) rfl (fun ls hl => ?_)
    refine lv_iload hx hb dX0_measureStretches_141 (lv_at hl 5 rfl) ?_
    refine lv_istore_n (lv' := [(3, .int v6), (4, .int x39), (0, .ref (ad d)), (1, .ref (ad 31)), (2, .ref (ad 32)), (5, .int v5), (6, .int v6), (7, .int v7)]) hx hb dX0_measureStretches_143 rfl hl (by decide) rfl (fun ls hl => ?_)
    obtain ⟨x40, ex40, hf⟩ := lt_ex hf
    refine lv_iinc (v := x40) (lv' := [(5, .int x40), (3, .int v6), (4, .int x39), (0, .ref (ad d)), (1, .ref (ad 31)), (2, .ref (ad 32)), (6, .int v6), (7, .int v7)]) hx hb dX0_measureStretches_144 hl (k := 5) rfl (by rw [ex40]; rfl) (by decide) rfl (fun ls hl => ?_)
    refine lv_goto (tgt := 27) hx hb dX0_measureStretches_147 (by decide) ?_
    exact hk_27 sg v6 x39 x40 _ _ _ hf hP hS (lv_sub hl [3, 4, 5, 1, 2, 0] rfl)
  have hL_88 : ∀ (k_27 : dd_S → Int32 → Int32 → Int32 → Option (dd_S)) (hk_27 : ∀ (sg : dd_S) (v3 : Int32) (v4 : Int32) (v5 : Int32) (H : Heap) (locs : List Loc) (ls : Array Slot), k_27 sg v3 v4 v5 = some (s0) → va_P g.1 vwCl (WC g ad sg ++ X) H → va_S (dd_A 59 ad X s.heap.size) s.heap H locs → lv_has ls 9 [(0, .ref (ad d)), (1, .ref (ad 31)), (2, .ref (ad 32)), (3, .int v3), (4, .int v4), (5, .int v5)] → W p l e (headSpec (lw_ws yX0_measureStretches cX0_measureStretches 9 (none)) ({ frames := 1, cells := 0, slots := 0, locals := 22 } : Room)).room s m ([.ref (ad d), .ref (ad 31), .ref (ad 32)] : List Value).toArray below meth c H locs 0 0 (MQ below (QV g (WC g ad s0 ++ X) (dd_A 59 ad X s.heap.size)) ([.ref (ad d), .ref (ad 31), .ref (ad 32)] : List Value).toArray s 0 0 (dd_A 59 ad X s.heap.size)) (F0 m 27 ls [])), ∀ (sg : dd_S) (v4 : Int32) (v5 : Int32) (v6 : Int32) (v7 : Int32) (v8 : Int32) (H : Heap) (locs : List Loc) (ls : Array Slot), f_X0_measureStretches_88 d k_27 sg v4 v5 v6 v7 v8 = some (s0) → va_P g.1 vwCl (WC g ad sg ++ X) H → va_S (dd_A 59 ad X s.heap.size) s.heap H locs → lv_has ls 9 [(0, .ref (ad d)), (1, .ref (ad 31)), (2, .ref (ad 32)), (4, .int v4), (5, .int v5), (6, .int v6), (7, .int v7), (8, .int v8)] → W p l e (headSpec (lw_ws yX0_measureStretches cX0_measureStretches 9 (none)) ({ frames := 1, cells := 0, slots := 0, locals := 22 } : Room)).room s m ([.ref (ad d), .ref (ad 31), .ref (ad 32)] : List Value).toArray below meth c H locs 0 0 (MQ below (QV g (WC g ad s0 ++ X) (dd_A 59 ad X s.heap.size)) ([.ref (ad d), .ref (ad 31), .ref (ad 32)] : List Value).toArray s 0 0 (dd_A 59 ad X s.heap.size)) (F0 m 88 ls []) := by
    intro k_27 hk_27 sg v4 v5 v6 v7 v8 H locs ls hf hP hS hl
    unfold f_X0_measureStretches_88 at hf
    refine lv_iload hx hb dX0_measureStretches_88 (lv_at hl 7 rfl) ?_
    refine lv_aload_n hx hb dX0_measureStretches_90 rfl (lv_at hl 2 rfl) ?_
    refine gf_X0_89 hx hb hts hown hK hP dX0_measureStretches_91 ?_
    refine lv_icmp_lt (tgt := 127) hx hb dX0_measureStretches_94 (by decide) (fun c32 => ?_) (fun c32 => ?_)
    · have hf := if_t c32 hf
      exact hL_127 k_27 hk_27 sg v4 v5 v6 v7 _ _ _ hf hP hS (lv_sub hl [0, 1, 2, 3, 4, 5, 6] rfl)
    · have hf := if_f c32 hf
      refine lv_aload_n hx hb dX0_measureStretches_97 rfl (lv_at hl 0 rfl) ?_
      refine lv_dup hx hb dX0_measureStretches_98 rfl ?_
      refine gf_X0_48 hx hb hts hown hK hP hd dX0_measureStretches_99 ?_
      refine lv_iconst (v := (1 : Int32)) hx hb dX0_measureStretches_102 (by decide) ?_
      refine lv_iadd hx hb dX0_measureStretches_103 ?_
      obtain ⟨sg33, esg33, hf⟩ := lt_ex hf
      refine pf_X0_48 hx hb hts hown hK hP hD hS hd dX0_measureStretches_104 (fun H locs hP hS => ?_)
      rw [← esg33] at hP
      refine lv_aload_n hx hb dX0_measureStretches_107 rfl (lv_at hl 0 rfl) ?_
      refine lv_dup hx hb dX0_measureStretches_108 rfl ?_
      refine gf_X0_42 hx hb hts hown hK hP hd dX0_measureStretches_109 ?_
      refine lv_iload hx hb dX0_measureStretches_112 (lv_at hl 7 rfl) ?_
      refine lv_isub hx hb dX0_measureStretches_114 ?_
      obtain ⟨sg34, esg34, hf⟩ := lt_ex hf
      refine pf_X0_42 hx hb hts hown hK hP hD hS hd dX0_measureStretches_115 (fun H locs hP hS => ?_)
      rw [← esg34] at hP
      refine lv_aload_n hx hb dX0_measureStretches_118 rfl (lv_at hl 0 rfl) ?_
      refine lv_iload hx hb dX0_measureStretches_119 (lv_at hl 3 rfl) ?_
      obtain ⟨sg36, q35, hf⟩ := bd_so hf
      refine cl_v (va_runV (As := [.int v4]) (rest := []) ⟨hx, hb, hml, hown, hts⟩ (c_X0_endStretch l g ad X _ sg34 d v4 hd sg36 q35) (cwV 1 hts gl_X0_92 rfl rfl rfl yd_X0_endStretch ⟨Nat.le_of_ble_eq_true rfl, Nat.le_of_ble_eq_true rfl⟩) (preV_of hK hP (hD sg34) (dd_at (Nat.lt_trans hd (by decide)) (cc_duty hd)) rfl) rfl rfl hl.1 rfl (lv_room (Nat.le_of_ble_eq_true rfl)) dX0_measureStretches_121 ⟨Nat.le_of_ble_eq_true rfl, Nat.le_of_ble_eq_true rfl⟩) hS (fun q h => dd_A_mono hS.1 h) (fun q h => dd_A_mono hS.1 h) (fun H locs hP hS => ?_)
      refine lv_iconst (v := (0 : Int32)) hx hb dX0_measureStretches_124 (by decide) ?_
      refine lv_istore (lv' := [(4, .int (0 : Int32)), (0, .ref (ad d)), (1, .ref (ad 31)), (2, .ref (ad 32)), (5, .int v5), (6, .int v6), (7, .int v7), (8, .int v8)]) hx hb dX0_measureStretches_125 hl (by decide) rfl (fun ls hl => ?_)
      exact hL_127 k_27 hk_27 sg36 (0 : Int32) v5 v6 v7 _ _ _ hf hP hS (lv_sub hl [1, 2, 3, 0, 4, 5, 6] rfl)
  have hL_27 : ∀ (n : Nat), ∀ (sg : dd_S) (v3 : Int32) (v4 : Int32) (v5 : Int32) (H : Heap) (locs : List Loc) (ls : Array Slot), f_X0_measureStretches_27 d n sg v3 v4 v5 = some (s0) → va_P g.1 vwCl (WC g ad sg ++ X) H → va_S (dd_A 59 ad X s.heap.size) s.heap H locs → lv_has ls 9 [(0, .ref (ad d)), (1, .ref (ad 31)), (2, .ref (ad 32)), (3, .int v3), (4, .int v4), (5, .int v5)] → W p l e (headSpec (lw_ws yX0_measureStretches cX0_measureStretches 9 (none)) ({ frames := 1, cells := 0, slots := 0, locals := 22 } : Room)).room s m ([.ref (ad d), .ref (ad 31), .ref (ad 32)] : List Value).toArray below meth c H locs 0 0 (MQ below (QV g (WC g ad s0 ++ X) (dd_A 59 ad X s.heap.size)) ([.ref (ad d), .ref (ad 31), .ref (ad 32)] : List Value).toArray s 0 0 (dd_A 59 ad X s.heap.size)) (F0 m 27 ls []) := by
    intro n
    induction n with
    | zero =>
      intro sg v3 v4 v5 H locs ls hf
      rw [f_X0_measureStretches_27] at hf
      cases hf
    | succ n ih =>
      intro sg v3 v4 v5 H locs ls hf hP hS hl
      rw [f_X0_measureStretches_27] at hf
      refine lv_iload hx hb dX0_measureStretches_27 (lv_at hl 5 rfl) ?_
      refine lv_aload_n hx hb dX0_measureStretches_29 rfl (lv_at hl 0 rfl) ?_
      refine gf_X0_19 hx hb hts hown hK hP hd dX0_measureStretches_30 ?_
      refine lv_icmp_ge (tgt := 150) hx hb dX0_measureStretches_33 (by decide) (fun c10 => ?_) (fun c10 => ?_)
      · have hf := if_t c10 hf
        refine lv_aload_n hx hb dX0_measureStretches_150 rfl (lv_at hl 0 rfl) ?_
        refine lv_iload hx hb dX0_measureStretches_151 (lv_at hl 4 rfl) ?_
        refine lv_aload_n hx hb dX0_measureStretches_153 rfl (lv_at hl 1 rfl) ?_
        refine lv_aload_n hx hb dX0_measureStretches_154 rfl (lv_at hl 1 rfl) ?_
        refine lv_iload_n hx hb dX0_measureStretches_155 rfl (lv_at hl 3 rfl) ?_
        obtain ⟨r12, q11, hf⟩ := bd_so hf
        refine cl_i (va_runV (As := [.int v3]) (rest := [.ref (ad 31), .int v4, .ref (ad d)]) ⟨hx, hb, hml, hown, hts⟩ (c_X4_toOf l g ad X _ sg v3 r12 q11) (cwV 1 hts gl_X0_80 rfl rfl rfl yd_X4_toOf ⟨Nat.le_of_ble_eq_true rfl, Nat.le_of_ble_eq_true rfl⟩) (preV_of hK hP (hD sg) (dd_at (by decide) cc_31) rfl) rfl rfl hl.1 rfl (lv_room (Nat.le_of_ble_eq_true rfl)) dX0_measureStretches_156 ⟨Nat.le_of_ble_eq_true rfl, Nat.le_of_ble_eq_true rfl⟩) hS (fun q h => dd_A_mono hS.1 h) (fun q h => dd_A_mono hS.1 h) (fun H locs hP hS => ?_)
        refine lv_iconst (v := (0 : Int32)) hx hb dX0_measureStretches_159 (by decide) ?_
        obtain ⟨r14, q13, hf⟩ := bd_so hf
        refine cl_i (va_runV (As := [.int r12, .int (0 : Int32)]) (rest := [.int v4, .ref (ad d)]) ⟨hx, hb, hml, hown, hts⟩ (c_X4_wayFrom l g ad X _ sg r12 (0 : Int32) r14 q13) (cwV 2 hts gl_X0_76 rfl rfl rfl yd_X4_wayFrom ⟨Nat.le_of_ble_eq_true rfl, Nat.le_of_ble_eq_true rfl⟩) (preV_of hK hP (hD sg) (dd_at (by decide) cc_31) rfl) rfl rfl hl.1 rfl (lv_room (Nat.le_of_ble_eq_true rfl)) dX0_measureStretches_160 ⟨Nat.le_of_ble_eq_true rfl, Nat.le_of_ble_eq_true rfl⟩) hS (fun q h => dd_A_mono hS.1 h) (fun q h => dd_A_mono hS.1 h) (fun H locs hP hS => ?_)
        refine lv_iadd hx hb dX0_measureStretches_163 ?_
        obtain ⟨sg16, q15, hf⟩ := bd_so hf
        refine cl_v (va_runV (As := [.int (v4 + r14)]) (rest := []) ⟨hx, hb, hml, hown, hts⟩ (c_X0_endStretch l g ad X _ sg d (v4 + r14) hd sg16 q15) (cwV 1 hts gl_X0_92 rfl rfl rfl yd_X0_endStretch ⟨Nat.le_of_ble_eq_true rfl, Nat.le_of_ble_eq_true rfl⟩) (preV_of hK hP (hD sg) (dd_at (Nat.lt_trans hd (by decide)) (cc_duty hd)) rfl) rfl rfl hl.1 rfl (lv_room (Nat.le_of_ble_eq_true rfl)) dX0_measureStretches_164 ⟨Nat.le_of_ble_eq_true rfl, Nat.le_of_ble_eq_true rfl⟩) hS (fun q h => dd_A_mono hS.1 h) (fun q h => dd_A_mono hS.1 h) (fun H locs hP hS => ?_)
        exact W.vret hx hb hr (fun t ht hW => ⟨⟨(), rfl, trivial, P_at2 (so1 hf) ht hP⟩, hS.F ht⟩) hS.2.2 dX0_measureStretches_167
      · have hf := if_f c10 hf
        refine lv_aload_n hx hb dX0_measureStretches_36 rfl (lv_at hl 0 rfl) ?_
        refine lv_iload hx hb dX0_measureStretches_37 (lv_at hl 5 rfl) ?_
        obtain ⟨r18, q17, hf⟩ := bd_so hf
        refine cl_i (va_runV (As := [.int v5]) (rest := []) ⟨hx, hb, hml, hown, hts⟩ (c_X0_tripIn l g ad X _ sg d v5 hd r18 q17) (cwV 1 hts gl_X0_23 rfl rfl rfl yd_X0_tripIn ⟨Nat.le_of_ble_eq_true rfl, Nat.le_of_ble_eq_true rfl⟩) (preV_of hK hP (hD sg) (dd_at (Nat.lt_trans hd (by decide)) (cc_duty hd)) rfl) rfl rfl hl.1 rfl (lv_room (Nat.le_of_ble_eq_true rfl)) dX0_measureStretches_39 ⟨Nat.le_of_ble_eq_true rfl, Nat.le_of_ble_eq_true rfl⟩) hS (fun q h => dd_A_mono hS.1 h) (fun q h => dd_A_mono hS.1 h) (fun H locs hP hS => ?_)
        refine lv_istore (lv' := [(6, .int r18), (0, .ref (ad d)), (1, .ref (ad 31)), (2, .ref (ad 32)), (3, .int v3), (4, .int v4), (5, .int v5)]) hx hb dX0_measureStretches_42 hl (by decide) rfl (fun ls hl => ?_)
        refine lv_aload_n hx hb dX0_measureStretches_44 rfl (lv_at hl 2 rfl) ?_
        refine lv_aload_n hx hb dX0_measureStretches_45 rfl (lv_at hl 2 rfl) ?_
        refine lv_iload_n hx hb dX0_measureStretches_46 rfl (lv_at hl 4 rfl) ?_
        obtain ⟨r20, q19, hf⟩ := bd_so hf
        refine cl_i (va_runV (As := [.int v3]) (rest := [.ref (ad 31)]) ⟨hx, hb, hml, hown, hts⟩ (c_X4_toOf l g ad X _ sg v3 r20 q19) (cwV 1 hts gl_X0_80 rfl rfl rfl yd_X4_toOf ⟨Nat.le_of_ble_eq_true rfl, Nat.le_of_ble_eq_true rfl⟩) (preV_of hK hP (hD sg) (dd_at (by decide) cc_31) rfl) rfl rfl hl.1 rfl (lv_room (Nat.le_of_ble_eq_true rfl)) dX0_measureStretches_47 ⟨Nat.le_of_ble_eq_true rfl, Nat.le_of_ble_eq_true rfl⟩) hS (fun q h => dd_A_mono hS.1 h) (fun q h => dd_A_mono hS.1 h) (fun H locs hP hS => ?_)
        refine lv_aload_n hx hb dX0_measureStretches_50 rfl (lv_at hl 2 rfl) ?_
        refine lv_iload hx hb dX0_measureStretches_51 (lv_at hl 0 rfl) ?_
        obtain ⟨r22, q21, hf⟩ := bd_so hf
        refine cl_i (va_runV (As := [.int r18]) (rest := [.int r20, .ref (ad 31)]) ⟨hx, hb, hml, hown, hts⟩ (c_X4_fromOf l g ad X _ sg r18 r22 q21) (cwV 1 hts gl_X0_73 rfl rfl rfl yd_X4_fromOf ⟨Nat.le_of_ble_eq_true rfl, Nat.le_of_ble_eq_true rfl⟩) (preV_of hK hP (hD sg) (dd_at (by decide) cc_31) rfl) rfl rfl hl.1 rfl (lv_room (Nat.le_of_ble_eq_true rfl)) dX0_measureStretches_53 ⟨Nat.le_of_ble_eq_true rfl, Nat.le_of_ble_eq_true rfl⟩) hS (fun q h => dd_A_mono hS.1 h) (fun q h => dd_A_mono hS.1 h) (fun H locs hP hS => ?_)
        obtain ⟨r24, q23, hf⟩ := bd_so hf
        refine cl_i (va_runV (As := [.int r20, .int r22]) (rest := []) ⟨hx, hb, hml, hown, hts⟩ (c_X4_wayFrom l g ad X _ sg r20 r22 r24 q23) (cwV 2 hts gl_X0_76 rfl rfl rfl yd_X4_wayFrom ⟨Nat.le_of_ble_eq_true rfl, Nat.le_of_ble_eq_true rfl⟩) (preV_of hK hP (hD sg) (dd_at (by decide) cc_31) rfl) rfl rfl hl.1 rfl (lv_room (Nat.le_of_ble_eq_true rfl)) dX0_measureStretches_56 ⟨Nat.le_of_ble_eq_true rfl, Nat.le_of_ble_eq_true rfl⟩) hS (fun q h => dd_A_mono hS.1 h) (fun q h => dd_A_mono hS.1 h) (fun H locs hP hS => ?_)
        refine lv_istore (lv' := [(7, .int r24), (6, .int r18), (0, .ref (ad d)), (1, .ref (ad 31)), (2, .ref (ad 32)), (3, .int v3), (4, .int v4), (5, .int v5)]) hx hb dX0_measureStretches_59 hl (by decide) rfl (fun ls hl => ?_)
        refine lv_aload_n hx hb dX0_measureStretches_61 rfl (lv_at hl 3 rfl) ?_
        refine lv_iload hx hb dX0_measureStretches_62 (lv_at hl 1 rfl) ?_
        obtain ⟨r26, q25, hf⟩ := bd_so hf
        refine cl_i (va_runV (As := [.int r18]) (rest := []) ⟨hx, hb, hml, hown, hts⟩ (c_X4_departureOf l g ad X _ sg r18 r26 q25) (cwV 1 hts gl_X0_27 rfl rfl rfl yd_X4_departureOf ⟨Nat.le_of_ble_eq_true rfl, Nat.le_of_ble_eq_true rfl⟩) (preV_of hK hP (hD sg) (dd_at (by decide) cc_31) rfl) rfl rfl hl.1 rfl (lv_room (Nat.le_of_ble_eq_true rfl)) dX0_measureStretches_64 ⟨Nat.le_of_ble_eq_true rfl, Nat.le_of_ble_eq_true rfl⟩) hS (fun q h => dd_A_mono hS.1 h) (fun q h => dd_A_mono hS.1 h) (fun H locs hP hS => ?_)
        refine lv_aload_n hx hb dX0_measureStretches_67 rfl (lv_at hl 3 rfl) ?_
        refine lv_iload_n hx hb dX0_measureStretches_68 rfl (lv_at hl 5 rfl) ?_
        obtain ⟨r28, q27, hf⟩ := bd_so hf
        refine cl_i (va_runV (As := [.int v3]) (rest := [.int r26]) ⟨hx, hb, hml, hown, hts⟩ (c_X4_arrivalOf l g ad X _ sg v3 r28 q27) (cwV 1 hts gl_X0_83 rfl rfl rfl yd_X4_arrivalOf ⟨Nat.le_of_ble_eq_true rfl, Nat.le_of_ble_eq_true rfl⟩) (preV_of hK hP (hD sg) (dd_at (by decide) cc_31) rfl) rfl rfl hl.1 rfl (lv_room (Nat.le_of_ble_eq_true rfl)) dX0_measureStretches_69 ⟨Nat.le_of_ble_eq_true rfl, Nat.le_of_ble_eq_true rfl⟩) hS (fun q h => dd_A_mono hS.1 h) (fun q h => dd_A_mono hS.1 h) (fun H locs hP hS => ?_)
        refine lv_isub hx hb dX0_measureStretches_72 ?_
        refine lv_iload hx hb dX0_measureStretches_73 (lv_at hl 0 rfl) ?_
        refine lv_isub hx hb dX0_measureStretches_75 ?_
        refine lv_topi (fun x29 ex29 => ?_)
        have hf := lt_so ex29 hf
        refine lv_istore (lv' := [(8, .int x29), (7, .int r24), (6, .int r18), (0, .ref (ad d)), (1, .ref (ad 31)), (2, .ref (ad 32)), (3, .int v3), (4, .int v4), (5, .int v5)]) hx hb dX0_measureStretches_76 hl (by decide) rfl (fun ls hl => ?_)
        refine lv_iload hx hb dX0_measureStretches_78 (lv_at hl 0 rfl) ?_
        refine lv_if_ge (tgt := 88) hx hb dX0_measureStretches_80 (by decide) (fun c30 => ?_) (fun c30 => ?_)
        · have hf := if_t c30 hf
          exact hL_88 (fun zs z0 z1 z2 => f_X0_measureStretches_27 d n zs z0 z1 z2) ih sg v4 v5 r18 r24 x29 _ _ _ hf hP hS (lv_sub hl [3, 4, 5, 7, 8, 2, 1, 0] rfl)
        · have hf := if_f c30 hf
          refine lv_aload_n hx hb dX0_measureStretches_83 rfl (lv_at hl 3 rfl) ?_
          refine lv_iconst (v := (0 : Int32)) hx hb dX0_measureStretches_84 (by decide) ?_
          obtain ⟨sg31, esg31, hf⟩ := lt_ex hf
          refine pf_X0_15 hx hb hts hown hK hP hD hS hd (by decide) dX0_measureStretches_85 (fun H locs hP hS => ?_)
          rw [← esg31] at hP
          exact hL_88 (fun zs z0 z1 z2 => f_X0_measureStretches_27 d n zs z0 z1 z2) ih sg31 v4 v5 r18 r24 x29 _ _ _ hf hP hS (lv_sub hl [3, 4, 5, 7, 8, 2, 1, 0] rfl)
  unfold f_X0_measureStretches at hf
  have hl := lv_entry ([.ref (ad d), .ref (ad 31), .ref (ad 32)]) (n := 9) (Nat.le_of_ble_eq_true rfl)
  rw [lg_entry_eq]
  generalize (lg_sl ([.ref (ad d), .ref (ad 31), .ref (ad 32)]) ++ List.replicate (9 - (lg_sl ([.ref (ad d), .ref (ad 31), .ref (ad 32)])).length) Slot.unset).toArray = ls at hl ⊢
  have hl : lv_has ls 9 [(0, .ref (ad d)), (1, .ref (ad 31)), (2, .ref (ad 32))] := hl
  refine lv_aload_n hx hb dX0_measureStretches_0 rfl (lv_at hl 0 rfl) ?_
  refine lv_iconst (v := (0 : Int32)) hx hb dX0_measureStretches_1 (by decide) ?_
  obtain ⟨r2, q1, hf⟩ := bd_so hf
  refine cl_i (va_runV (As := [.int (0 : Int32)]) (rest := []) ⟨hx, hb, hml, hown, hts⟩ (c_X0_tripIn l g ad X _ sg d (0 : Int32) hd r2 q1) (cwV 1 hts gl_X0_23 rfl rfl rfl yd_X0_tripIn ⟨Nat.le_of_ble_eq_true rfl, Nat.le_of_ble_eq_true rfl⟩) (preV_of hK hP (hD sg) (dd_at (Nat.lt_trans hd (by decide)) (cc_duty hd)) rfl) rfl rfl hl.1 rfl (lv_room (Nat.le_of_ble_eq_true rfl)) dX0_measureStretches_2 ⟨Nat.le_of_ble_eq_true rfl, Nat.le_of_ble_eq_true rfl⟩) hS (fun q h => dd_A_mono hS.1 h) (fun q h => dd_A_mono hS.1 h) (fun H locs hP hS => ?_)
  refine lv_istore_n (lv' := [(3, .int r2), (0, .ref (ad d)), (1, .ref (ad 31)), (2, .ref (ad 32))]) hx hb dX0_measureStretches_5 rfl hl (by decide) rfl (fun ls hl => ?_)
  refine lv_aload_n hx hb dX0_measureStretches_6 rfl (lv_at hl 2 rfl) ?_
  refine lv_iconst (v := (0 : Int32)) hx hb dX0_measureStretches_7 (by decide) ?_
  refine lv_aload_n hx hb dX0_measureStretches_8 rfl (lv_at hl 2 rfl) ?_
  refine lv_iload_n hx hb dX0_measureStretches_9 rfl (lv_at hl 0 rfl) ?_
  obtain ⟨r4, q3, hf⟩ := bd_so hf
  refine cl_i (va_runV (As := [.int r2]) (rest := [.int (0 : Int32), .ref (ad 31)]) ⟨hx, hb, hml, hown, hts⟩ (c_X4_fromOf l g ad X _ sg r2 r4 q3) (cwV 1 hts gl_X0_73 rfl rfl rfl yd_X4_fromOf ⟨Nat.le_of_ble_eq_true rfl, Nat.le_of_ble_eq_true rfl⟩) (preV_of hK hP (hD sg) (dd_at (by decide) cc_31) rfl) rfl rfl hl.1 rfl (lv_room (Nat.le_of_ble_eq_true rfl)) dX0_measureStretches_10 ⟨Nat.le_of_ble_eq_true rfl, Nat.le_of_ble_eq_true rfl⟩) hS (fun q h => dd_A_mono hS.1 h) (fun q h => dd_A_mono hS.1 h) (fun H locs hP hS => ?_)
  obtain ⟨r6, q5, hf⟩ := bd_so hf
  refine cl_i (va_runV (As := [.int (0 : Int32), .int r4]) (rest := []) ⟨hx, hb, hml, hown, hts⟩ (c_X4_wayFrom l g ad X _ sg (0 : Int32) r4 r6 q5) (cwV 2 hts gl_X0_76 rfl rfl rfl yd_X4_wayFrom ⟨Nat.le_of_ble_eq_true rfl, Nat.le_of_ble_eq_true rfl⟩) (preV_of hK hP (hD sg) (dd_at (by decide) cc_31) rfl) rfl rfl hl.1 rfl (lv_room (Nat.le_of_ble_eq_true rfl)) dX0_measureStretches_13 ⟨Nat.le_of_ble_eq_true rfl, Nat.le_of_ble_eq_true rfl⟩) hS (fun q h => dd_A_mono hS.1 h) (fun q h => dd_A_mono hS.1 h) (fun H locs hP hS => ?_)
  refine lv_aload_n hx hb dX0_measureStretches_16 rfl (lv_at hl 2 rfl) ?_
  refine lv_iload_n hx hb dX0_measureStretches_17 rfl (lv_at hl 0 rfl) ?_
  obtain ⟨r8, q7, hf⟩ := bd_so hf
  refine cl_i (va_runV (As := [.int r2]) (rest := [.int r6]) ⟨hx, hb, hml, hown, hts⟩ (c_X4_minutesOf l g ad X _ sg r2 r8 q7) (cwV 1 hts gl_X0_86 rfl rfl rfl yd_X4_minutesOf ⟨Nat.le_of_ble_eq_true rfl, Nat.le_of_ble_eq_true rfl⟩) (preV_of hK hP (hD sg) (dd_at (by decide) cc_31) rfl) rfl rfl hl.1 rfl (lv_room (Nat.le_of_ble_eq_true rfl)) dX0_measureStretches_18 ⟨Nat.le_of_ble_eq_true rfl, Nat.le_of_ble_eq_true rfl⟩) hS (fun q h => dd_A_mono hS.1 h) (fun q h => dd_A_mono hS.1 h) (fun H locs hP hS => ?_)
  refine lv_iadd hx hb dX0_measureStretches_21 ?_
  refine lv_topi (fun x9 ex9 => ?_)
  have hf := lt_so ex9 hf
  refine lv_istore (lv' := [(4, .int x9), (3, .int r2), (0, .ref (ad d)), (1, .ref (ad 31)), (2, .ref (ad 32))]) hx hb dX0_measureStretches_22 hl (by decide) rfl (fun ls hl => ?_)
  refine lv_iconst (v := (1 : Int32)) hx hb dX0_measureStretches_24 (by decide) ?_
  refine lv_istore (lv' := [(5, .int (1 : Int32)), (4, .int x9), (3, .int r2), (0, .ref (ad d)), (1, .ref (ad 31)), (2, .ref (ad 32))]) hx hb dX0_measureStretches_25 hl (by decide) rfl (fun ls hl => ?_)
  exact hL_27 64 sg r2 x9 (1 : Int32) _ _ _ hf hP hS (lv_sub hl [3, 4, 5, 2, 1, 0] rfl)
set_option maxHeartbeats 4000000 in
set_option maxRecDepth 100000 in
theorem c_X0_measure (l : Launch) (g : dd_G) (ad : Nat → Nat) (X : va_W) (sz : Nat) (sg : dd_S) (d : Nat) (hd : d < 15) (s0 : dd_S) (hf : f_X0_measure sg d = some (s0)) : Met l yX0_measure (lw_ws yX0_measure cX0_measure 3 (none)) ({ frames := 2, cells := 0, slots := 0, locals := 50 } : Room) (va_Pc [.ref (ad d), .ref (ad 31), .ref (ad 32)] (PreW g (WC g ad sg ++ X) sz)) (QV g (WC g ad s0 ++ X) (dd_A 59 ad X sz)) 0 0 (dd_A 59 ad X sz) := by
  refine Met.ofW (cc := cX0_measure) (maxL := 3) (ret := none) (by decide) rfl ?_
  intro p e s m args below meth c s₁ B hml hv
  obtain ⟨rfl, rfl, hP, hK, hD0⟩ := hv
  have hx := B.exec
  have hb := B.bytes
  have hr := B.returns
  have hts := atoms_spec (ws := (lw_ws yX0_measure cX0_measure 3 (none))) B.pre
  have hts : ∀ w ∈ lw_all, w.before _ s = true := fun w h => hts w (List.mem_cons_of_mem _ h)
  have hown : s.vm.findClass RX0 = some m.cls := findClass_of_methodNamed B.named
  have hlocks := B.notSynchronized
  have hD : ∀ s2 : dd_S, va_D (dd_A 59 ad X s.heap.size) (WC g ad s2 ++ X) := fun s2 => dd_D (dd_A_D hD0)
  have hS : va_S (dd_A 59 ad X s.heap.size) s.heap s.heap [] := va_S.rf
  have hL_96 : ∀ (sg : dd_S) (H : Heap) (locs : List Loc) (ls : Array Slot), f_X0_measure_96 d sg = some (s0) → va_P g.1 vwCl (WC g ad sg ++ X) H → va_S (dd_A 59 ad X s.heap.size) s.heap H locs → lv_has ls 3 [] → W p l e (headSpec (lw_ws yX0_measure cX0_measure 3 (none)) ({ frames := 2, cells := 0, slots := 0, locals := 50 } : Room)).room s m ([.ref (ad d), .ref (ad 31), .ref (ad 32)] : List Value).toArray below meth c H locs 0 0 (MQ below (QV g (WC g ad s0 ++ X) (dd_A 59 ad X s.heap.size)) ([.ref (ad d), .ref (ad 31), .ref (ad 32)] : List Value).toArray s 0 0 (dd_A 59 ad X s.heap.size)) (F0 m 96 ls []) := by
    intro sg H locs ls hf hP hS hl
    unfold f_X0_measure_96 at hf
    exact W.vret hx hb hr (fun t ht hW => ⟨⟨(), rfl, trivial, P_at2 (so1 hf) ht hP⟩, hS.F ht⟩) hS.2.2 dX0_measure_96
  have hL_91 : ∀ (sg : dd_S) (H : Heap) (locs : List Loc) (ls : Array Slot), f_X0_measure_91 d sg = some (s0) → va_P g.1 vwCl (WC g ad sg ++ X) H → va_S (dd_A 59 ad X s.heap.size) s.heap H locs → lv_has ls 3 [(0, .ref (ad d))] → W p l e (headSpec (lw_ws yX0_measure cX0_measure 3 (none)) ({ frames := 2, cells := 0, slots := 0, locals := 50 } : Room)).room s m ([.ref (ad d), .ref (ad 31), .ref (ad 32)] : List Value).toArray below meth c H locs 0 0 (MQ below (QV g (WC g ad s0 ++ X) (dd_A 59 ad X s.heap.size)) ([.ref (ad d), .ref (ad 31), .ref (ad 32)] : List Value).toArray s 0 0 (dd_A 59 ad X s.heap.size)) (F0 m 91 ls []) := by
    intro sg H locs ls hf hP hS hl
    unfold f_X0_measure_91 at hf
    refine lv_aload_n hx hb dX0_measure_91 rfl (lv_at hl 0 rfl) ?_
    refine lv_iconst (v := (0 : Int32)) hx hb dX0_measure_92 (by decide) ?_
    obtain ⟨sg18, esg18, hf⟩ := lt_ex hf
    refine pf_X0_15 hx hb hts hown hK hP hD hS hd (by decide) dX0_measure_93 (fun H locs hP hS => ?_)
    rw [← esg18] at hP
    exact hL_96 sg18 _ _ _ hf hP hS (lv_sub hl [] rfl)
  unfold f_X0_measure at hf
  have hl := lv_entry ([.ref (ad d), .ref (ad 31), .ref (ad 32)]) (n := 3) (Nat.le_of_ble_eq_true rfl)
  rw [lg_entry_eq]
  generalize (lg_sl ([.ref (ad d), .ref (ad 31), .ref (ad 32)]) ++ List.replicate (3 - (lg_sl ([.ref (ad d), .ref (ad 31), .ref (ad 32)])).length) Slot.unset).toArray = ls at hl ⊢
  have hl : lv_has ls 3 [(0, .ref (ad d)), (1, .ref (ad 31)), (2, .ref (ad 32))] := hl
  refine lv_aload_n hx hb dX0_measure_0 rfl (lv_at hl 0 rfl) ?_
  refine lv_iconst (v := (0 : Int32)) hx hb dX0_measure_1 (by decide) ?_
  obtain ⟨sg1, esg1, hf⟩ := lt_ex hf
  refine pf_X0_36 hx hb hts hown hK hP hD hS hd dX0_measure_2 (fun H locs hP hS => ?_)
  rw [← esg1] at hP
  refine lv_aload_n hx hb dX0_measure_5 rfl (lv_at hl 0 rfl) ?_
  refine lv_iconst (v := (0 : Int32)) hx hb dX0_measure_6 (by decide) ?_
  obtain ⟨sg2, esg2, hf⟩ := lt_ex hf
  refine pf_X0_39 hx hb hts hown hK hP hD hS hd dX0_measure_7 (fun H locs hP hS => ?_)
  rw [← esg2] at hP
  refine lv_aload_n hx hb dX0_measure_10 rfl (lv_at hl 0 rfl) ?_
  refine lv_iconst (v := (0 : Int32)) hx hb dX0_measure_11 (by decide) ?_
  obtain ⟨sg3, esg3, hf⟩ := lt_ex hf
  refine pf_X0_42 hx hb hts hown hK hP hD hS hd dX0_measure_12 (fun H locs hP hS => ?_)
  rw [← esg3] at hP
  refine lv_aload_n hx hb dX0_measure_15 rfl (lv_at hl 0 rfl) ?_
  refine lv_iconst (v := (0 : Int32)) hx hb dX0_measure_16 (by decide) ?_
  obtain ⟨sg4, esg4, hf⟩ := lt_ex hf
  refine pf_X0_45 hx hb hts hown hK hP hD hS hd dX0_measure_17 (fun H locs hP hS => ?_)
  rw [← esg4] at hP
  refine lv_aload_n hx hb dX0_measure_20 rfl (lv_at hl 0 rfl) ?_
  refine lv_iconst (v := (0 : Int32)) hx hb dX0_measure_21 (by decide) ?_
  obtain ⟨sg5, esg5, hf⟩ := lt_ex hf
  refine pf_X0_48 hx hb hts hown hK hP hD hS hd dX0_measure_22 (fun H locs hP hS => ?_)
  rw [← esg5] at hP
  refine lv_aload_n hx hb dX0_measure_25 rfl (lv_at hl 0 rfl) ?_
  refine lv_iconst (v := (0 : Int32)) hx hb dX0_measure_26 (by decide) ?_
  obtain ⟨sg6, esg6, hf⟩ := lt_ex hf
  refine pf_X0_51 hx hb hts hown hK hP hD hS hd dX0_measure_27 (fun H locs hP hS => ?_)
  rw [← esg6] at hP
  refine lv_aload_n hx hb dX0_measure_30 rfl (lv_at hl 0 rfl) ?_
  refine lv_iconst (v := (1 : Int32)) hx hb dX0_measure_31 (by decide) ?_
  obtain ⟨sg7, esg7, hf⟩ := lt_ex hf
  refine pf_X0_15 hx hb hts hown hK hP hD hS hd (by decide) dX0_measure_32 (fun H locs hP hS => ?_)
  rw [← esg7] at hP
  refine lv_aload_n hx hb dX0_measure_35 rfl (lv_at hl 0 rfl) ?_
  refine gf_X0_19 hx hb hts hown hK hP hd dX0_measure_36 ?_
  refine lv_if_le (tgt := 96) hx hb dX0_measure_39 (by decide) (fun c8 => ?_) (fun c8 => ?_)
  · have hf := if_t c8 hf
    exact hL_96 sg7 _ _ _ hf hP hS (lv_sub hl [] rfl)
  · have hf := if_f c8 hf
    refine lv_aload_n hx hb dX0_measure_42 rfl (lv_at hl 0 rfl) ?_
    refine lv_aload_n hx hb dX0_measure_43 rfl (lv_at hl 1 rfl) ?_
    obtain ⟨sg10, q9, hf⟩ := bd_so hf
    refine cl_v (va_runV (As := [.ref (ad 31)]) (rest := []) ⟨hx, hb, hml, hown, hts⟩ (c_X0_measureSpread l g ad X _ sg7 d hd sg10 q9) (cwV 1 hts gl_X0_54 rfl rfl rfl yd_X0_measureSpread ⟨Nat.le_of_ble_eq_true rfl, Nat.le_of_ble_eq_true rfl⟩) (preV_of hK hP (hD sg7) (dd_at (Nat.lt_trans hd (by decide)) (cc_duty hd)) rfl) rfl rfl hl.1 rfl (lv_room (Nat.le_of_ble_eq_true rfl)) dX0_measure_44 ⟨Nat.le_of_ble_eq_true rfl, Nat.le_of_ble_eq_true rfl⟩) hS (fun q h => dd_A_mono hS.1 h) (fun q h => dd_A_mono hS.1 h) (fun H locs hP hS => ?_)
    refine lv_aload_n hx hb dX0_measure_47 rfl (lv_at hl 0 rfl) ?_
    refine lv_aload_n hx hb dX0_measure_48 rfl (lv_at hl 1 rfl) ?_
    refine lv_aload_n hx hb dX0_measure_49 rfl (lv_at hl 2 rfl) ?_
    obtain ⟨sg12, q11, hf⟩ := bd_so hf
    refine cl_v (va_runV (As := [.ref (ad 31), .ref (ad 32)]) (rest := []) ⟨hx, hb, hml, hown, hts⟩ (c_X0_measureStretches l g ad X _ sg10 d hd sg12 q11) (cwV 2 hts gl_X0_58 rfl rfl rfl yd_X0_measureStretches ⟨Nat.le_of_ble_eq_true rfl, Nat.le_of_ble_eq_true rfl⟩) (preV_of hK hP (hD sg10) (dd_at (Nat.lt_trans hd (by decide)) (cc_duty hd)) rfl) rfl rfl hl.1 rfl (lv_room (Nat.le_of_ble_eq_true rfl)) dX0_measure_50 ⟨Nat.le_of_ble_eq_true rfl, Nat.le_of_ble_eq_true rfl⟩) hS (fun q h => dd_A_mono hS.1 h) (fun q h => dd_A_mono hS.1 h) (fun H locs hP hS => ?_)
    refine lv_aload_n hx hb dX0_measure_53 rfl (lv_at hl 0 rfl) ?_
    refine lv_aload_n hx hb dX0_measure_54 rfl (lv_at hl 0 rfl) ?_
    refine gf_X0_42 hx hb hts hown hK hP hd dX0_measure_55 ?_
    obtain ⟨r14, q13, hf⟩ := bd_so hf
    refine cl_i (va_runS (As := [.int (sg12 d 4)]) (rest := [.ref (ad d)]) ⟨hx, hb, hml, hown, hts⟩ (c_X0_payFor l g ad X _ sg12 (sg12 d 4) r14 q13) (cwS 1 hts gl_X0_62 rfl rfl rfl yd_X0_payFor ⟨Nat.le_of_ble_eq_true rfl, Nat.le_of_ble_eq_true rfl⟩) (preS_of hK hP (hD sg12)) rfl rfl hl.1 rfl (lv_room (Nat.le_of_ble_eq_true rfl)) dX0_measure_58 ⟨Nat.le_of_ble_eq_true rfl, Nat.le_of_ble_eq_true rfl⟩) hS (fun q h => dd_A_mono hS.1 h) (fun q h => dd_A_mono hS.1 h) (fun H locs hP hS => ?_)
    obtain ⟨sg15, esg15, hf⟩ := lt_ex hf
    refine pf_X0_45 hx hb hts hown hK hP hD hS hd dX0_measure_61 (fun H locs hP hS => ?_)
    rw [← esg15] at hP
    refine lv_aload_n hx hb dX0_measure_64 rfl (lv_at hl 0 rfl) ?_
    refine gf_X0_51 hx hb hts hown hK hP hd dX0_measure_65 ?_
    refine lv_aload_n hx hb dX0_measure_68 rfl (lv_at hl 2 rfl) ?_
    refine gf_X0_65 hx hb hts hown hK hP dX0_measure_69 ?_
    refine lv_icmp_gt (tgt := 91) hx hb dX0_measure_72 (by decide) (fun c16 => ?_) (fun c16 => ?_)
    · have hf := if_t c16 hf
      exact hL_91 sg15 _ _ _ hf hP hS (lv_sub hl [0] rfl)
    · have hf := if_f c16 hf
      refine lv_aload_n hx hb dX0_measure_75 rfl (lv_at hl 0 rfl) ?_
      refine gf_X0_39 hx hb hts hown hK hP hd dX0_measure_76 ?_
      refine lv_aload_n hx hb dX0_measure_79 rfl (lv_at hl 0 rfl) ?_
      refine gf_X0_36 hx hb hts hown hK hP hd dX0_measure_80 ?_
      refine lv_isub hx hb dX0_measure_83 ?_
      refine lv_aload_n hx hb dX0_measure_84 rfl (lv_at hl 2 rfl) ?_
      refine gf_X0_70 hx hb hts hown hK hP dX0_measure_85 ?_
      refine lv_icmp_le (tgt := 96) hx hb dX0_measure_88 (by decide) (fun c17 => ?_) (fun c17 => ?_)
      · have hf := if_t c17 hf
        exact hL_96 sg15 _ _ _ hf hP hS (lv_sub hl [] rfl)
      · have hf := if_f c17 hf
        exact hL_91 sg15 _ _ _ hf hP hS (lv_sub hl [0] rfl)
set_option maxHeartbeats 4000000 in
set_option maxRecDepth 100000 in
theorem c_X1_clear (l : Launch) (g : dd_G) (ad : Nat → Nat) (X : va_W) (sz : Nat) (sg : dd_S) (s0 : dd_S) (hf : f_X1_clear sg = some (s0)) : Met l yX1_clear (lw_ws yX1_clear cX1_clear 1 (none)) ({ frames := 0, cells := 0, slots := 0, locals := 0 } : Room) (va_Pc [.ref (ad 39)] (PreW g (WC g ad sg ++ X) sz)) (QV g (WC g ad s0 ++ X) (dd_A 59 ad X sz)) 0 0 (dd_A 59 ad X sz) := by
  refine Met.ofW (cc := cX1_clear) (maxL := 1) (ret := none) (by decide) rfl ?_
  intro p e s m args below meth c s₁ B hml hv
  obtain ⟨rfl, rfl, hP, hK, hD0⟩ := hv
  have hx := B.exec
  have hb := B.bytes
  have hr := B.returns
  have hts := atoms_spec (ws := (lw_ws yX1_clear cX1_clear 1 (none))) B.pre
  have hts : ∀ w ∈ lw_all, w.before _ s = true := fun w h => hts w (List.mem_cons_of_mem _ h)
  have hown : s.vm.findClass RX1 = some m.cls := findClass_of_methodNamed B.named
  have hlocks := B.notSynchronized
  have hD : ∀ s2 : dd_S, va_D (dd_A 59 ad X s.heap.size) (WC g ad s2 ++ X) := fun s2 => dd_D (dd_A_D hD0)
  have hS : va_S (dd_A 59 ad X s.heap.size) s.heap s.heap [] := va_S.rf
  unfold f_X1_clear at hf
  have hl := lv_entry ([.ref (ad 39)]) (n := 1) (Nat.le_of_ble_eq_true rfl)
  rw [lg_entry_eq]
  generalize (lg_sl ([.ref (ad 39)]) ++ List.replicate (1 - (lg_sl ([.ref (ad 39)])).length) Slot.unset).toArray = ls at hl ⊢
  have hl : lv_has ls 1 [(0, .ref (ad 39))] := hl
  refine lv_aload_n hx hb dX1_clear_0 rfl (lv_at hl 0 rfl) ?_
  refine lv_iconst (v := (-1 : Int32)) hx hb dX1_clear_1 (by decide) ?_
  obtain ⟨sg1, esg1, hf⟩ := lt_ex hf
  refine pf_X1_9 hx hb hts hown hK hP hD hS dX1_clear_2 (fun H locs hP hS => ?_)
  rw [← esg1] at hP
  refine lv_aload_n hx hb dX1_clear_5 rfl (lv_at hl 0 rfl) ?_
  refine lv_iconst (v := (-1 : Int32)) hx hb dX1_clear_6 (by decide) ?_
  obtain ⟨sg2, esg2, hf⟩ := lt_ex hf
  refine pf_X1_15 hx hb hts hown hK hP hD hS dX1_clear_7 (fun H locs hP hS => ?_)
  rw [← esg2] at hP
  refine lv_aload_n hx hb dX1_clear_10 rfl (lv_at hl 0 rfl) ?_
  refine lv_iconst (v := (0 : Int32)) hx hb dX1_clear_11 (by decide) ?_
  obtain ⟨sg3, esg3, hf⟩ := lt_ex hf
  refine pf_X1_18 hx hb hts hown hK hP hD hS dX1_clear_12 (fun H locs hP hS => ?_)
  rw [← esg3] at hP
  refine lv_aload_n hx hb dX1_clear_15 rfl (lv_at hl 0 rfl) ?_
  refine lv_iconst (v := (0 : Int32)) hx hb dX1_clear_16 (by decide) ?_
  obtain ⟨sg4, esg4, hf⟩ := lt_ex hf
  refine pf_X1_21 hx hb hts hown hK hP hD hS dX1_clear_17 (fun H locs hP hS => ?_)
  rw [← esg4] at hP
  exact W.vret hx hb hr (fun t ht hW => ⟨⟨(), rfl, trivial, P_at2 (so1 hf) ht hP⟩, hS.F ht⟩) hS.2.2 dX1_clear_20
set_option maxHeartbeats 4000000 in
set_option maxRecDepth 100000 in
theorem c_X1_offer (l : Launch) (g : dd_G) (ad : Nat → Nat) (X : va_W) (sz : Nat) (sg : dd_S) (a1 : Int32) (a2 : Int32) (a3 : Int32) (a4 : Int32) (s0 : dd_S) (hf : f_X1_offer sg a1 a2 a3 a4 = some (s0)) : Met l yX1_offer (lw_ws yX1_offer cX1_offer 6 (none)) ({ frames := 0, cells := 0, slots := 0, locals := 0 } : Room) (va_Pc [.ref (ad 39), .int a1, .int a2, .int a3, .int a4] (PreW g (WC g ad sg ++ X) sz)) (QV g (WC g ad s0 ++ X) (dd_A 59 ad X sz)) 0 0 (dd_A 59 ad X sz) := by
  refine Met.ofW (cc := cX1_offer) (maxL := 6) (ret := none) (by decide) rfl ?_
  intro p e s m args below meth c s₁ B hml hv
  obtain ⟨rfl, rfl, hP, hK, hD0⟩ := hv
  have hx := B.exec
  have hb := B.bytes
  have hr := B.returns
  have hts := atoms_spec (ws := (lw_ws yX1_offer cX1_offer 6 (none))) B.pre
  have hts : ∀ w ∈ lw_all, w.before _ s = true := fun w h => hts w (List.mem_cons_of_mem _ h)
  have hown : s.vm.findClass RX1 = some m.cls := findClass_of_methodNamed B.named
  have hlocks := B.notSynchronized
  have hD : ∀ s2 : dd_S, va_D (dd_A 59 ad X s.heap.size) (WC g ad s2 ++ X) := fun s2 => dd_D (dd_A_D hD0)
  have hS : va_S (dd_A 59 ad X s.heap.size) s.heap s.heap [] := va_S.rf
  have hL_75 : ∀ (sg : dd_S) (H : Heap) (locs : List Loc) (ls : Array Slot), f_X1_offer_75 a1 a2 a3 a4 sg = some (s0) → va_P g.1 vwCl (WC g ad sg ++ X) H → va_S (dd_A 59 ad X s.heap.size) s.heap H locs → lv_has ls 6 [] → W p l e (headSpec (lw_ws yX1_offer cX1_offer 6 (none)) ({ frames := 0, cells := 0, slots := 0, locals := 0 } : Room)).room s m ([.ref (ad 39), .int a1, .int a2, .int a3, .int a4] : List Value).toArray below meth c H locs 0 0 (MQ below (QV g (WC g ad s0 ++ X) (dd_A 59 ad X s.heap.size)) ([.ref (ad 39), .int a1, .int a2, .int a3, .int a4] : List Value).toArray s 0 0 (dd_A 59 ad X s.heap.size)) (F0 m 75 ls []) := by
    intro sg H locs ls hf hP hS hl
    unfold f_X1_offer_75 at hf
    exact W.vret hx hb hr (fun t ht hW => ⟨⟨(), rfl, trivial, P_at2 (so1 hf) ht hP⟩, hS.F ht⟩) hS.2.2 dX1_offer_75
  have hL_54 : ∀ (sg : dd_S) (H : Heap) (locs : List Loc) (ls : Array Slot), f_X1_offer_54 a1 a2 a3 a4 sg = some (s0) → va_P g.1 vwCl (WC g ad sg ++ X) H → va_S (dd_A 59 ad X s.heap.size) s.heap H locs → lv_has ls 6 [(0, .ref (ad 39)), (1, .int a1), (2, .int a2), (3, .int a3), (4, .int a4)] → W p l e (headSpec (lw_ws yX1_offer cX1_offer 6 (none)) ({ frames := 0, cells := 0, slots := 0, locals := 0 } : Room)).room s m ([.ref (ad 39), .int a1, .int a2, .int a3, .int a4] : List Value).toArray below meth c H locs 0 0 (MQ below (QV g (WC g ad s0 ++ X) (dd_A 59 ad X s.heap.size)) ([.ref (ad 39), .int a1, .int a2, .int a3, .int a4] : List Value).toArray s 0 0 (dd_A 59 ad X s.heap.size)) (F0 m 54 ls []) := by
    intro sg H locs ls hf hP hS hl
    unfold f_X1_offer_54 at hf
    refine lv_aload_n hx hb dX1_offer_54 rfl (lv_at hl 0 rfl) ?_
    refine lv_iload_n hx hb dX1_offer_55 rfl (lv_at hl 1 rfl) ?_
    obtain ⟨sg7, esg7, hf⟩ := lt_ex hf
    refine pf_X1_9 hx hb hts hown hK hP hD hS dX1_offer_56 (fun H locs hP hS => ?_)
    rw [← esg7] at hP
    refine lv_aload_n hx hb dX1_offer_59 rfl (lv_at hl 0 rfl) ?_
    refine lv_iload_n hx hb dX1_offer_60 rfl (lv_at hl 2 rfl) ?_
    obtain ⟨sg8, esg8, hf⟩ := lt_ex hf
    refine pf_X1_15 hx hb hts hown hK hP hD hS dX1_offer_61 (fun H locs hP hS => ?_)
    rw [← esg8] at hP
    refine lv_aload_n hx hb dX1_offer_64 rfl (lv_at hl 0 rfl) ?_
    refine lv_iload_n hx hb dX1_offer_65 rfl (lv_at hl 3 rfl) ?_
    obtain ⟨sg9, esg9, hf⟩ := lt_ex hf
    refine pf_X1_18 hx hb hts hown hK hP hD hS dX1_offer_66 (fun H locs hP hS => ?_)
    rw [← esg9] at hP
    refine lv_aload_n hx hb dX1_offer_69 rfl (lv_at hl 0 rfl) ?_
    refine lv_iload hx hb dX1_offer_70 (lv_at hl 4 rfl) ?_
    obtain ⟨sg10, esg10, hf⟩ := lt_ex hf
    refine pf_X1_21 hx hb hts hown hK hP hD hS dX1_offer_72 (fun H locs hP hS => ?_)
    rw [← esg10] at hP
    exact hL_75 sg10 _ _ _ hf hP hS (lv_sub hl [] rfl)
  have hL_38 : ∀ (sg : dd_S) (t0 : Int32) (H : Heap) (locs : List Loc) (ls : Array Slot), f_X1_offer_38 a1 a2 a3 a4 sg t0 = some (s0) → va_P g.1 vwCl (WC g ad sg ++ X) H → va_S (dd_A 59 ad X s.heap.size) s.heap H locs → lv_has ls 6 [(0, .ref (ad 39)), (1, .int a1), (2, .int a2), (3, .int a3), (4, .int a4)] → W p l e (headSpec (lw_ws yX1_offer cX1_offer 6 (none)) ({ frames := 0, cells := 0, slots := 0, locals := 0 } : Room)).room s m ([.ref (ad 39), .int a1, .int a2, .int a3, .int a4] : List Value).toArray below meth c H locs 0 0 (MQ below (QV g (WC g ad s0 ++ X) (dd_A 59 ad X s.heap.size)) ([.ref (ad 39), .int a1, .int a2, .int a3, .int a4] : List Value).toArray s 0 0 (dd_A 59 ad X s.heap.size)) (F0 m 38 ls [.int t0]) := by
    intro sg t0 H locs ls hf hP hS hl
    unfold f_X1_offer_38 at hf
    refine lv_istore (lv' := [(5, .int t0), (0, .ref (ad 39)), (1, .int a1), (2, .int a2), (3, .int a3), (4, .int a4)]) hx hb dX1_offer_38 hl (by decide) rfl (fun ls hl => ?_)
    refine lv_iload hx hb dX1_offer_40 (lv_at hl 5 rfl) ?_
    refine lv_aload_n hx hb dX1_offer_42 rfl (lv_at hl 1 rfl) ?_
    refine gf_X1_21 hx hb hts hown hK hP dX1_offer_43 ?_
    refine lv_icmp_lt (tgt := 54) hx hb dX1_offer_46 (by decide) (fun c5 => ?_) (fun c5 => ?_)
    · have hf := if_t c5 hf
      exact hL_54 sg _ _ _ hf hP hS (lv_sub hl [1, 2, 3, 4, 5] rfl)
    · have hf := if_f c5 hf
      refine lv_iload hx hb dX1_offer_49 (lv_at hl 0 rfl) ?_
      refine lv_if_eq (tgt := 75) hx hb dX1_offer_51 (by decide) (fun c6 => ?_) (fun c6 => ?_)
      · have hf := if_t c6 hf
        exact hL_75 sg _ _ _ hf hP hS (lv_sub hl [] rfl)
      · have hf := if_f c6 hf
        exact hL_54 sg _ _ _ hf hP hS (lv_sub hl [1, 2, 3, 4, 5] rfl)
  have hL_37 : ∀ (sg : dd_S) (H : Heap) (locs : List Loc) (ls : Array Slot), f_X1_offer_37 a1 a2 a3 a4 sg = some (s0) → va_P g.1 vwCl (WC g ad sg ++ X) H → va_S (dd_A 59 ad X s.heap.size) s.heap H locs → lv_has ls 6 [(0, .ref (ad 39)), (1, .int a1), (2, .int a2), (3, .int a3), (4, .int a4)] → W p l e (headSpec (lw_ws yX1_offer cX1_offer 6 (none)) ({ frames := 0, cells := 0, slots := 0, locals := 0 } : Room)).room s m ([.ref (ad 39), .int a1, .int a2, .int a3, .int a4] : List Value).toArray below meth c H locs 0 0 (MQ below (QV g (WC g ad s0 ++ X) (dd_A 59 ad X s.heap.size)) ([.ref (ad 39), .int a1, .int a2, .int a3, .int a4] : List Value).toArray s 0 0 (dd_A 59 ad X s.heap.size)) (F0 m 37 ls []) := by
    intro sg H locs ls hf hP hS hl
    unfold f_X1_offer_37 at hf
    refine lv_iconst (v := (0 : Int32)) hx hb dX1_offer_37 (by decide) ?_
    exact hL_38 sg (0 : Int32) _ _ _ hf hP hS (lv_sub hl [0, 1, 2, 3, 4] rfl)
  unfold f_X1_offer at hf
  have hl := lv_entry ([.ref (ad 39), .int a1, .int a2, .int a3, .int a4]) (n := 6) (Nat.le_of_ble_eq_true rfl)
  rw [lg_entry_eq]
  generalize (lg_sl ([.ref (ad 39), .int a1, .int a2, .int a3, .int a4]) ++ List.replicate (6 - (lg_sl ([.ref (ad 39), .int a1, .int a2, .int a3, .int a4])).length) Slot.unset).toArray = ls at hl ⊢
  have hl : lv_has ls 6 [(0, .ref (ad 39)), (1, .int a1), (2, .int a2), (3, .int a3), (4, .int a4)] := hl
  refine lv_iload hx hb dX1_offer_0 (lv_at hl 4 rfl) ?_
  refine lv_aload_n hx hb dX1_offer_2 rfl (lv_at hl 0 rfl) ?_
  refine gf_X1_21 hx hb hts hown hK hP dX1_offer_3 ?_
  refine lv_icmp_ne (tgt := 37) hx hb dX1_offer_6 (by decide) (fun c1 => ?_) (fun c1 => ?_)
  · have hf := if_f c1 hf
    exact hL_37 sg _ _ _ hf hP hS (lv_sub hl [0, 1, 2, 3, 4] rfl)
  · have hf := if_t c1 hf
    refine lv_iload_n hx hb dX1_offer_9 rfl (lv_at hl 1 rfl) ?_
    refine lv_aload_n hx hb dX1_offer_10 rfl (lv_at hl 0 rfl) ?_
    refine gf_X1_9 hx hb hts hown hK hP dX1_offer_11 ?_
    refine lv_icmp_ne (tgt := 37) hx hb dX1_offer_14 (by decide) (fun c2 => ?_) (fun c2 => ?_)
    · have hf := if_f c2 hf
      exact hL_37 sg _ _ _ hf hP hS (lv_sub hl [0, 1, 2, 3, 4] rfl)
    · have hf := if_t c2 hf
      refine lv_iload_n hx hb dX1_offer_17 rfl (lv_at hl 2 rfl) ?_
      refine lv_aload_n hx hb dX1_offer_18 rfl (lv_at hl 0 rfl) ?_
      refine gf_X1_15 hx hb hts hown hK hP dX1_offer_19 ?_
      refine lv_icmp_ne (tgt := 37) hx hb dX1_offer_22 (by decide) (fun c3 => ?_) (fun c3 => ?_)
      · have hf := if_f c3 hf
        exact hL_37 sg _ _ _ hf hP hS (lv_sub hl [0, 1, 2, 3, 4] rfl)
      · have hf := if_t c3 hf
        refine lv_iload_n hx hb dX1_offer_25 rfl (lv_at hl 3 rfl) ?_
        refine lv_aload_n hx hb dX1_offer_26 rfl (lv_at hl 0 rfl) ?_
        refine gf_X1_18 hx hb hts hown hK hP dX1_offer_27 ?_
        refine lv_icmp_ge (tgt := 37) hx hb dX1_offer_30 (by decide) (fun c4 => ?_) (fun c4 => ?_)
        · have hf := if_t c4 hf
          exact hL_37 sg _ _ _ hf hP hS (lv_sub hl [0, 1, 2, 3, 4] rfl)
        · have hf := if_f c4 hf
          refine lv_iconst (v := (1 : Int32)) hx hb dX1_offer_33 (by decide) ?_
          refine lv_goto (tgt := 38) hx hb dX1_offer_34 (by decide) ?_
          exact hL_38 sg (1 : Int32) _ _ _ hf hP hS (lv_sub hl [0, 1, 2, 3, 4] rfl)
set_option maxHeartbeats 4000000 in
set_option maxRecDepth 100000 in
theorem c_X2_clear (l : Launch) (g : dd_G) (ad : Nat → Nat) (X : va_W) (sz : Nat) (sg : dd_S) (s0 : dd_S) (hf : f_X2_clear sg = some (s0)) : Met l yX2_clear (lw_ws yX2_clear cX2_clear 1 (none)) ({ frames := 0, cells := 0, slots := 0, locals := 0 } : Room) (va_Pc [.ref (ad 36)] (PreW g (WC g ad sg ++ X) sz)) (QV g (WC g ad s0 ++ X) (dd_A 59 ad X sz)) 0 0 (dd_A 59 ad X sz) := by
  refine Met.ofW (cc := cX2_clear) (maxL := 1) (ret := none) (by decide) rfl ?_
  intro p e s m args below meth c s₁ B hml hv
  obtain ⟨rfl, rfl, hP, hK, hD0⟩ := hv
  have hx := B.exec
  have hb := B.bytes
  have hr := B.returns
  have hts := atoms_spec (ws := (lw_ws yX2_clear cX2_clear 1 (none))) B.pre
  have hts : ∀ w ∈ lw_all, w.before _ s = true := fun w h => hts w (List.mem_cons_of_mem _ h)
  have hown : s.vm.findClass RX2 = some m.cls := findClass_of_methodNamed B.named
  have hlocks := B.notSynchronized
  have hD : ∀ s2 : dd_S, va_D (dd_A 59 ad X s.heap.size) (WC g ad s2 ++ X) := fun s2 => dd_D (dd_A_D hD0)
  have hS : va_S (dd_A 59 ad X s.heap.size) s.heap s.heap [] := va_S.rf
  unfold f_X2_clear at hf
  have hl := lv_entry ([.ref (ad 36)]) (n := 1) (Nat.le_of_ble_eq_true rfl)
  rw [lg_entry_eq]
  generalize (lg_sl ([.ref (ad 36)]) ++ List.replicate (1 - (lg_sl ([.ref (ad 36)])).length) Slot.unset).toArray = ls at hl ⊢
  have hl : lv_has ls 1 [(0, .ref (ad 36))] := hl
  refine lv_aload_n hx hb dX2_clear_0 rfl (lv_at hl 0 rfl) ?_
  refine lv_iconst (v := (0 : Int32)) hx hb dX2_clear_1 (by decide) ?_
  obtain ⟨sg1, esg1, hf⟩ := lt_ex hf
  refine pf_X2_18 hx hb hts hown hK hP hD hS dX2_clear_2 (fun H locs hP hS => ?_)
  rw [← esg1] at hP
  exact W.vret hx hb hr (fun t ht hW => ⟨⟨(), rfl, trivial, P_at2 (so1 hf) ht hP⟩, hS.F ht⟩) hS.2.2 dX2_clear_5
set_option maxHeartbeats 4000000 in
set_option maxRecDepth 100000 in
theorem c_X2_numberIn (l : Launch) (g : dd_G) (ad : Nat → Nat) (X : va_W) (sz : Nat) (sg : dd_S) (a1 : Int32) (r0 : Int32) (hf : f_X2_numberIn sg a1 = some (r0)) : Met l yX2_numberIn (lw_ws yX2_numberIn cX2_numberIn 2 (some .int)) ({ frames := 0, cells := 0, slots := 0, locals := 0 } : Room) (va_Pc [.ref (ad 36), .int a1] (PreW g (WC g ad sg ++ X) sz)) (QI g (WC g ad sg ++ X) (dd_A 59 ad X sz) r0) 0 0 (dd_A 59 ad X sz) := by
  refine Met.ofW (cc := cX2_numberIn) (maxL := 2) (ret := some .int) (by decide) rfl ?_
  intro p e s m args below meth c s₁ B hml hv
  obtain ⟨rfl, rfl, hP, hK, hD0⟩ := hv
  have hx := B.exec
  have hb := B.bytes
  have hr := B.returns
  have hts := atoms_spec (ws := (lw_ws yX2_numberIn cX2_numberIn 2 (some .int))) B.pre
  have hts : ∀ w ∈ lw_all, w.before _ s = true := fun w h => hts w (List.mem_cons_of_mem _ h)
  have hown : s.vm.findClass RX2 = some m.cls := findClass_of_methodNamed B.named
  have hlocks := B.notSynchronized
  have hD : ∀ s2 : dd_S, va_D (dd_A 59 ad X s.heap.size) (WC g ad s2 ++ X) := fun s2 => dd_D (dd_A_D hD0)
  have hS : va_S (dd_A 59 ad X s.heap.size) s.heap s.heap [] := va_S.rf
  have hL_23 : ∀ (t0 : Int32) (H : Heap) (locs : List Loc) (ls : Array Slot), f_X2_numberIn_23 sg a1 t0 = some (r0) → va_P g.1 vwCl (WC g ad sg ++ X) H → va_S (dd_A 59 ad X s.heap.size) s.heap H locs → lv_has ls 2 [] → W p l e (headSpec (lw_ws yX2_numberIn cX2_numberIn 2 (some .int)) ({ frames := 0, cells := 0, slots := 0, locals := 0 } : Room)).room s m ([.ref (ad 36), .int a1] : List Value).toArray below meth c H locs 0 0 (MQ below (QI g (WC g ad sg ++ X) (dd_A 59 ad X s.heap.size) r0) ([.ref (ad 36), .int a1] : List Value).toArray s 0 0 (dd_A 59 ad X s.heap.size)) (F0 m 23 ls [.int t0]) := by
    intro t0 H locs ls hf hP hS hl
    unfold f_X2_numberIn_23 at hf
    exact W.iret (v := t0) hx hb hr (fun t ht hW => ⟨⟨t0, (), rfl, so1 hf, P_at ht hP⟩, hS.F ht⟩) hS.2.2 dX2_numberIn_23
  have hL_22 : ∀ (H : Heap) (locs : List Loc) (ls : Array Slot), f_X2_numberIn_22 sg a1 = some (r0) → va_P g.1 vwCl (WC g ad sg ++ X) H → va_S (dd_A 59 ad X s.heap.size) s.heap H locs → lv_has ls 2 [] → W p l e (headSpec (lw_ws yX2_numberIn cX2_numberIn 2 (some .int)) ({ frames := 0, cells := 0, slots := 0, locals := 0 } : Room)).room s m ([.ref (ad 36), .int a1] : List Value).toArray below meth c H locs 0 0 (MQ below (QI g (WC g ad sg ++ X) (dd_A 59 ad X s.heap.size) r0) ([.ref (ad 36), .int a1] : List Value).toArray s 0 0 (dd_A 59 ad X s.heap.size)) (F0 m 22 ls []) := by
    intro H locs ls hf hP hS hl
    unfold f_X2_numberIn_22 at hf
    refine lv_iconst (v := (-1 : Int32)) hx hb dX2_numberIn_22 (by decide) ?_
    exact hL_23 (-1 : Int32) _ _ _ hf hP hS (lv_sub hl [] rfl)
  unfold f_X2_numberIn at hf
  have hl := lv_entry ([.ref (ad 36), .int a1]) (n := 2) (Nat.le_of_ble_eq_true rfl)
  rw [lg_entry_eq]
  generalize (lg_sl ([.ref (ad 36), .int a1]) ++ List.replicate (2 - (lg_sl ([.ref (ad 36), .int a1])).length) Slot.unset).toArray = ls at hl ⊢
  have hl : lv_has ls 2 [(0, .ref (ad 36)), (1, .int a1)] := hl
  refine lv_iload_n hx hb dX2_numberIn_0 rfl (lv_at hl 1 rfl) ?_
  refine lv_if_lt (tgt := 22) hx hb dX2_numberIn_1 (by decide) (fun c1 => ?_) (fun c1 => ?_)
  · have hf := if_t c1 hf
    exact hL_22 _ _ _ hf hP hS (lv_sub hl [] rfl)
  · have hf := if_f c1 hf
    refine lv_iload_n hx hb dX2_numberIn_4 rfl (lv_at hl 1 rfl) ?_
    refine lv_aload_n hx hb dX2_numberIn_5 rfl (lv_at hl 0 rfl) ?_
    refine gf_X2_15 hx hb hts hown hK hP dX2_numberIn_6 ?_
    refine W_alen (v := (40 : Int32)) hx hb hK hP 38 (by decide) cc_38 0 rfl (by decide) dX2_numberIn_9 ?_
    refine lv_icmp_ge (tgt := 22) hx hb dX2_numberIn_10 (by decide) (fun c2 => ?_) (fun c2 => ?_)
    · have hf := if_t c2 hf
      exact hL_22 _ _ _ hf hP hS (lv_sub hl [] rfl)
    · have hf := if_f c2 hf
      refine lv_aload_n hx hb dX2_numberIn_13 rfl (lv_at hl 0 rfl) ?_
      refine gf_X2_15 hx hb hts hown hK hP dX2_numberIn_14 ?_
      refine lv_iload_n hx hb dX2_numberIn_17 rfl (lv_at hl 1 rfl) ?_
      obtain ⟨hi3, hf⟩ := gd_so hf
      refine W_iald hx hb hK hP 38 (by decide) cc_38 (ix_in hi3) dX2_numberIn_18 ?_
      refine lv_goto (tgt := 23) hx hb dX2_numberIn_19 (by decide) ?_
      exact hL_23 (sg 38 a1.toNatClampNeg) _ _ _ hf hP hS (lv_sub hl [] rfl)
set_option maxHeartbeats 4000000 in
set_option maxRecDepth 100000 in
theorem c_X2_insert (l : Launch) (g : dd_G) (ad : Nat → Nat) (X : va_W) (sz : Nat) (sg : dd_S) (a1 : Int32) (a2 : Int32) (s0 : dd_S) (hf : f_X2_insert sg a1 a2 = some (s0)) : Met l yX2_insert (lw_ws yX2_insert cX2_insert 4 (none)) ({ frames := 0, cells := 0, slots := 0, locals := 0 } : Room) (va_Pc [.ref (ad 36), .int a1, .int a2] (PreW g (WC g ad sg ++ X) sz)) (QV g (WC g ad s0 ++ X) (dd_A 59 ad X sz)) 0 0 (dd_A 59 ad X sz) := by
  refine Met.ofW (cc := cX2_insert) (maxL := 4) (ret := none) (by decide) rfl ?_
  intro p e s m args below meth c s₁ B hml hv
  obtain ⟨rfl, rfl, hP, hK, hD0⟩ := hv
  have hx := B.exec
  have hb := B.bytes
  have hr := B.returns
  have hts := atoms_spec (ws := (lw_ws yX2_insert cX2_insert 4 (none))) B.pre
  have hts : ∀ w ∈ lw_all, w.before _ s = true := fun w h => hts w (List.mem_cons_of_mem _ h)
  have hown : s.vm.findClass RX2 = some m.cls := findClass_of_methodNamed B.named
  have hlocks := B.notSynchronized
  have hD : ∀ s2 : dd_S, va_D (dd_A 59 ad X s.heap.size) (WC g ad s2 ++ X) := fun s2 => dd_D (dd_A_D hD0)
  have hS : va_S (dd_A 59 ad X s.heap.size) s.heap s.heap [] := va_S.rf
  have hL_68 : ∀ (sg : dd_S) (v3 : Int32) (H : Heap) (locs : List Loc) (ls : Array Slot), f_X2_insert_68 a1 a2 sg v3 = some (s0) → va_P g.1 vwCl (WC g ad sg ++ X) H → va_S (dd_A 59 ad X s.heap.size) s.heap H locs → lv_has ls 4 [(0, .ref (ad 36)), (1, .int a1), (2, .int a2), (3, .int v3)] → W p l e (headSpec (lw_ws yX2_insert cX2_insert 4 (none)) ({ frames := 0, cells := 0, slots := 0, locals := 0 } : Room)).room s m ([.ref (ad 36), .int a1, .int a2] : List Value).toArray below meth c H locs 0 0 (MQ below (QV g (WC g ad s0 ++ X) (dd_A 59 ad X s.heap.size)) ([.ref (ad 36), .int a1, .int a2] : List Value).toArray s 0 0 (dd_A 59 ad X s.heap.size)) (F0 m 68 ls []) := by
    intro sg v3 H locs ls hf hP hS hl
    unfold f_X2_insert_68 at hf
    refine lv_aload_n hx hb dX2_insert_68 rfl (lv_at hl 0 rfl) ?_
    refine gf_X2_9 hx hb hts hown hK hP dX2_insert_69 ?_
    refine lv_iload_n hx hb dX2_insert_72 rfl (lv_at hl 3 rfl) ?_
    refine lv_iload_n hx hb dX2_insert_73 rfl (lv_at hl 1 rfl) ?_
    obtain ⟨hi12, hf⟩ := gd_so hf
    obtain ⟨sg13, esg13, hf⟩ := lt_ex hf
    refine W_iast hx hb hK hP hD hS 37 (by decide) (fun _ => cc_37) (ix_in hi12) dX2_insert_74 (fun H locs hP hS => ?_)
    rw [← esg13] at hP
    refine lv_aload_n hx hb dX2_insert_75 rfl (lv_at hl 0 rfl) ?_
    refine gf_X2_15 hx hb hts hown hK hP dX2_insert_76 ?_
    refine lv_iload_n hx hb dX2_insert_79 rfl (lv_at hl 3 rfl) ?_
    refine lv_iload_n hx hb dX2_insert_80 rfl (lv_at hl 2 rfl) ?_
    obtain ⟨hi14, hf⟩ := gd_so hf
    obtain ⟨sg15, esg15, hf⟩ := lt_ex hf
    refine W_iast hx hb hK hP hD hS 38 (by decide) (fun _ => cc_38) (ix_in hi14) dX2_insert_81 (fun H locs hP hS => ?_)
    rw [← esg15] at hP
    refine lv_aload_n hx hb dX2_insert_82 rfl (lv_at hl 0 rfl) ?_
    refine lv_dup hx hb dX2_insert_83 rfl ?_
    refine gf_X2_18 hx hb hts hown hK hP dX2_insert_84 ?_
    refine lv_iconst (v := (1 : Int32)) hx hb dX2_insert_87 (by decide) ?_
    refine lv_iadd hx hb dX2_insert_88 ?_
    obtain ⟨sg16, esg16, hf⟩ := lt_ex hf
    refine pf_X2_18 hx hb hts hown hK hP hD hS dX2_insert_89 (fun H locs hP hS => ?_)
    rw [← esg16] at hP
    exact W.vret hx hb hr (fun t ht hW => ⟨⟨(), rfl, trivial, P_at2 (so1 hf) ht hP⟩, hS.F ht⟩) hS.2.2 dX2_insert_92
  have hL_18 : ∀ (n : Nat), ∀ (sg : dd_S) (v3 : Int32) (H : Heap) (locs : List Loc) (ls : Array Slot), f_X2_insert_18 a1 a2 n sg v3 = some (s0) → va_P g.1 vwCl (WC g ad sg ++ X) H → va_S (dd_A 59 ad X s.heap.size) s.heap H locs → lv_has ls 4 [(0, .ref (ad 36)), (1, .int a1), (2, .int a2), (3, .int v3)] → W p l e (headSpec (lw_ws yX2_insert cX2_insert 4 (none)) ({ frames := 0, cells := 0, slots := 0, locals := 0 } : Room)).room s m ([.ref (ad 36), .int a1, .int a2] : List Value).toArray below meth c H locs 0 0 (MQ below (QV g (WC g ad s0 ++ X) (dd_A 59 ad X s.heap.size)) ([.ref (ad 36), .int a1, .int a2] : List Value).toArray s 0 0 (dd_A 59 ad X s.heap.size)) (F0 m 18 ls []) := by
    intro n
    induction n with
    | zero =>
      intro sg v3 H locs ls hf
      rw [f_X2_insert_18] at hf
      cases hf
    | succ n ih =>
      intro sg v3 H locs ls hf hP hS hl
      rw [f_X2_insert_18] at hf
      refine lv_iload_n hx hb dX2_insert_18 rfl (lv_at hl 3 rfl) ?_
      refine lv_if_le (tgt := 68) hx hb dX2_insert_19 (by decide) (fun c2 => ?_) (fun c2 => ?_)
      · have hf := if_t c2 hf
        exact hL_68 sg v3 _ _ _ hf hP hS (lv_sub hl [0, 1, 2, 3] rfl)
      · have hf := if_f c2 hf
        refine lv_aload_n hx hb dX2_insert_22 rfl (lv_at hl 0 rfl) ?_
        refine gf_X2_9 hx hb hts hown hK hP dX2_insert_23 ?_
        refine lv_iload_n hx hb dX2_insert_26 rfl (lv_at hl 3 rfl) ?_
        refine lv_iconst (v := (1 : Int32)) hx hb dX2_insert_27 (by decide) ?_
        refine lv_isub hx hb dX2_insert_28 ?_
        obtain ⟨hi3, hf⟩ := gd_so hf
        refine W_iald hx hb hK hP 37 (by decide) cc_37 (ix_in hi3) dX2_insert_29 ?_
        refine lv_iload_n hx hb dX2_insert_30 rfl (lv_at hl 1 rfl) ?_
        refine lv_icmp_le (tgt := 68) hx hb dX2_insert_31 (by decide) (fun c4 => ?_) (fun c4 => ?_)
        · have hf := if_t c4 hf
          exact hL_68 sg v3 _ _ _ hf hP hS (lv_sub hl [0, 1, 2, 3] rfl)
        · have hf := if_f c4 hf
          refine lv_aload_n hx hb dX2_insert_34 rfl (lv_at hl 0 rfl) ?_
          refine gf_X2_9 hx hb hts hown hK hP dX2_insert_35 ?_
          refine lv_iload_n hx hb dX2_insert_38 rfl (lv_at hl 3 rfl) ?_
          refine lv_aload_n hx hb dX2_insert_39 rfl (lv_at hl 0 rfl) ?_
          refine gf_X2_9 hx hb hts hown hK hP dX2_insert_40 ?_
          refine lv_iload_n hx hb dX2_insert_43 rfl (lv_at hl 3 rfl) ?_
          refine lv_iconst (v := (1 : Int32)) hx hb dX2_insert_44 (by decide) ?_
          refine lv_isub hx hb dX2_insert_45 ?_
          obtain ⟨hi5, hf⟩ := gd_so hf
          refine W_iald hx hb hK hP 37 (by decide) cc_37 (ix_in hi5) dX2_insert_46 ?_
          obtain ⟨hi6, hf⟩ := gd_so hf
          obtain ⟨sg7, esg7, hf⟩ := lt_ex hf
          refine W_iast hx hb hK hP hD hS 37 (by decide) (fun _ => cc_37) (ix_in hi6) dX2_insert_47 (fun H locs hP hS => ?_)
          rw [← esg7] at hP
          refine lv_aload_n hx hb dX2_insert_48 rfl (lv_at hl 0 rfl) ?_
          refine gf_X2_15 hx hb hts hown hK hP dX2_insert_49 ?_
          refine lv_iload_n hx hb dX2_insert_52 rfl (lv_at hl 3 rfl) ?_
          refine lv_aload_n hx hb dX2_insert_53 rfl (lv_at hl 0 rfl) ?_
          refine gf_X2_15 hx hb hts hown hK hP dX2_insert_54 ?_
          refine lv_iload_n hx hb dX2_insert_57 rfl (lv_at hl 3 rfl) ?_
          refine lv_iconst (v := (1 : Int32)) hx hb dX2_insert_58 (by decide) ?_
          refine lv_isub hx hb dX2_insert_59 ?_
          obtain ⟨hi8, hf⟩ := gd_so hf
          refine W_iald hx hb hK hP 38 (by decide) cc_38 (ix_in hi8) dX2_insert_60 ?_
          obtain ⟨hi9, hf⟩ := gd_so hf
          obtain ⟨sg10, esg10, hf⟩ := lt_ex hf
          refine W_iast hx hb hK hP hD hS 38 (by decide) (fun _ => cc_38) (ix_in hi9) dX2_insert_61 (fun H locs hP hS => ?_)
          rw [← esg10] at hP
          obtain ⟨x11, ex11, hf⟩ := lt_ex hf
          refine lv_iinc (v := x11) (lv' := [(3, .int x11), (0, .ref (ad 36)), (1, .int a1), (2, .int a2)]) hx hb dX2_insert_62 hl (k := 3) rfl (by rw [ex11]; rfl) (by decide) rfl (fun ls hl => ?_)
          refine lv_goto (tgt := 18) hx hb dX2_insert_65 (by decide) ?_
          exact ih sg10 x11 _ _ _ hf hP hS (lv_sub hl [1, 2, 3, 0] rfl)
  unfold f_X2_insert at hf
  have hl := lv_entry ([.ref (ad 36), .int a1, .int a2]) (n := 4) (Nat.le_of_ble_eq_true rfl)
  rw [lg_entry_eq]
  generalize (lg_sl ([.ref (ad 36), .int a1, .int a2]) ++ List.replicate (4 - (lg_sl ([.ref (ad 36), .int a1, .int a2])).length) Slot.unset).toArray = ls at hl ⊢
  have hl : lv_has ls 4 [(0, .ref (ad 36)), (1, .int a1), (2, .int a2)] := hl
  refine lv_aload_n hx hb dX2_insert_0 rfl (lv_at hl 0 rfl) ?_
  refine gf_X2_18 hx hb hts hown hK hP dX2_insert_1 ?_
  refine lv_aload_n hx hb dX2_insert_4 rfl (lv_at hl 0 rfl) ?_
  refine gf_X2_9 hx hb hts hown hK hP dX2_insert_5 ?_
  refine W_alen (v := (40 : Int32)) hx hb hK hP 37 (by decide) cc_37 0 rfl (by decide) dX2_insert_8 ?_
  refine lv_icmp_lt (tgt := 13) hx hb dX2_insert_9 (by decide) (fun c1 => ?_) (fun c1 => ?_)
  · have hf := if_t c1 hf
    refine lv_aload_n hx hb dX2_insert_13 rfl (lv_at hl 0 rfl) ?_
    refine gf_X2_18 hx hb hts hown hK hP dX2_insert_14 ?_
    refine lv_istore_n (lv' := [(3, .int (sg 36 2)), (0, .ref (ad 36)), (1, .int a1), (2, .int a2)]) hx hb dX2_insert_17 rfl hl (by decide) rfl (fun ls hl => ?_)
    exact hL_18 64 sg (sg 36 2) _ _ _ hf hP hS (lv_sub hl [1, 2, 3, 0] rfl)
  · have hf := if_f c1 hf
    exact W.vret hx hb hr (fun t ht hW => ⟨⟨(), rfl, trivial, P_at2 (so1 hf) ht hP⟩, hS.F ht⟩) hS.2.2 dX2_insert_12
set_option maxHeartbeats 4000000 in
set_option maxRecDepth 100000 in
theorem c_X4_append (l : Launch) (g : dd_G) (ad : Nat → Nat) (X : va_W) (sz : Nat) (sg : dd_S) (a1 : Int32) (a2 : Int32) (a3 : Int32) (a4 : Int32) (r0 : Int32) (s0 : dd_S) (hf : f_X4_append sg a1 a2 a3 a4 = some (r0, s0)) : Met l yX4_append (lw_ws yX4_append cX4_append 5 (some .int)) ({ frames := 0, cells := 0, slots := 0, locals := 0 } : Room) (va_Pc [.ref (ad 31), .int a1, .int a2, .int a3, .int a4] (PreW g (WC g ad sg ++ X) sz)) (QI g (WC g ad s0 ++ X) (dd_A 59 ad X sz) r0) 0 0 (dd_A 59 ad X sz) := by
  refine Met.ofW (cc := cX4_append) (maxL := 5) (ret := some .int) (by decide) rfl ?_
  intro p e s m args below meth c s₁ B hml hv
  obtain ⟨rfl, rfl, hP, hK, hD0⟩ := hv
  have hx := B.exec
  have hb := B.bytes
  have hr := B.returns
  have hts := atoms_spec (ws := (lw_ws yX4_append cX4_append 5 (some .int))) B.pre
  have hts : ∀ w ∈ lw_all, w.before _ s = true := fun w h => hts w (List.mem_cons_of_mem _ h)
  have hown : s.vm.findClass RX4 = some m.cls := findClass_of_methodNamed B.named
  have hlocks := B.notSynchronized
  have hD : ∀ s2 : dd_S, va_D (dd_A 59 ad X s.heap.size) (WC g ad s2 ++ X) := fun s2 => dd_D (dd_A_D hD0)
  have hS : va_S (dd_A 59 ad X s.heap.size) s.heap s.heap [] := va_S.rf
  unfold f_X4_append at hf
  have hl := lv_entry ([.ref (ad 31), .int a1, .int a2, .int a3, .int a4]) (n := 5) (Nat.le_of_ble_eq_true rfl)
  rw [lg_entry_eq]
  generalize (lg_sl ([.ref (ad 31), .int a1, .int a2, .int a3, .int a4]) ++ List.replicate (5 - (lg_sl ([.ref (ad 31), .int a1, .int a2, .int a3, .int a4])).length) Slot.unset).toArray = ls at hl ⊢
  have hl : lv_has ls 5 [(0, .ref (ad 31)), (1, .int a1), (2, .int a2), (3, .int a3), (4, .int a4)] := hl
  refine lv_aload_n hx hb dX4_append_0 rfl (lv_at hl 0 rfl) ?_
  refine gf_X4_29 hx hb hts hown hK hP dX4_append_1 ?_
  refine lv_bipush (v := (40 : Int32)) hx hb dX4_append_4 (by decide) ?_
  refine lv_icmp_lt (tgt := 11) hx hb dX4_append_6 (by decide) (fun c1 => ?_) (fun c1 => ?_)
  · have hf := if_t c1 hf
    refine lv_aload_n hx hb dX4_append_11 rfl (lv_at hl 0 rfl) ?_
    refine gf_X4_16 hx hb hts hown hK hP dX4_append_12 ?_
    refine lv_aload_n hx hb dX4_append_15 rfl (lv_at hl 0 rfl) ?_
    refine gf_X4_29 hx hb hts hown hK hP dX4_append_16 ?_
    refine lv_iload_n hx hb dX4_append_19 rfl (lv_at hl 1 rfl) ?_
    obtain ⟨hi2, hf⟩ := gd_so hf
    obtain ⟨sg3, esg3, hf⟩ := lt_ex hf
    refine W_iast hx hb hK hP hD hS 41 (by decide) (fun _ => cc_41) (ix_in hi2) dX4_append_20 (fun H locs hP hS => ?_)
    rw [← esg3] at hP
    refine lv_aload_n hx hb dX4_append_21 rfl (lv_at hl 0 rfl) ?_
    refine gf_X4_20 hx hb hts hown hK hP dX4_append_22 ?_
    refine lv_aload_n hx hb dX4_append_25 rfl (lv_at hl 0 rfl) ?_
    refine gf_X4_29 hx hb hts hown hK hP dX4_append_26 ?_
    refine lv_iload_n hx hb dX4_append_29 rfl (lv_at hl 2 rfl) ?_
    obtain ⟨hi4, hf⟩ := gd_so hf
    obtain ⟨sg5, esg5, hf⟩ := lt_ex hf
    refine W_iast hx hb hK hP hD hS 42 (by decide) (fun _ => cc_42) (ix_in hi4) dX4_append_30 (fun H locs hP hS => ?_)
    rw [← esg5] at hP
    refine lv_aload_n hx hb dX4_append_31 rfl (lv_at hl 0 rfl) ?_
    refine gf_X4_23 hx hb hts hown hK hP dX4_append_32 ?_
    refine lv_aload_n hx hb dX4_append_35 rfl (lv_at hl 0 rfl) ?_
    refine gf_X4_29 hx hb hts hown hK hP dX4_append_36 ?_
    refine lv_iload_n hx hb dX4_append_39 rfl (lv_at hl 3 rfl) ?_
    obtain ⟨hi6, hf⟩ := gd_so hf
    obtain ⟨sg7, esg7, hf⟩ := lt_ex hf
    refine W_iast hx hb hK hP hD hS 43 (by decide) (fun _ => cc_43) (ix_in hi6) dX4_append_40 (fun H locs hP hS => ?_)
    rw [← esg7] at hP
    refine lv_aload_n hx hb dX4_append_41 rfl (lv_at hl 0 rfl) ?_
    refine gf_X4_26 hx hb hts hown hK hP dX4_append_42 ?_
    refine lv_aload_n hx hb dX4_append_45 rfl (lv_at hl 0 rfl) ?_
    refine gf_X4_29 hx hb hts hown hK hP dX4_append_46 ?_
    refine lv_iload hx hb dX4_append_49 (lv_at hl 4 rfl) ?_
    obtain ⟨hi8, hf⟩ := gd_so hf
    obtain ⟨sg9, esg9, hf⟩ := lt_ex hf
    refine W_iast hx hb hK hP hD hS 44 (by decide) (fun _ => cc_44) (ix_in hi8) dX4_append_51 (fun H locs hP hS => ?_)
    rw [← esg9] at hP
    refine lv_aload_n hx hb dX4_append_52 rfl (lv_at hl 0 rfl) ?_
    refine lv_dup hx hb dX4_append_53 rfl ?_
    refine gf_X4_29 hx hb hts hown hK hP dX4_append_54 ?_
    refine lv_dup_x1 hx hb dX4_append_57 rfl rfl ?_
    refine lv_iconst (v := (1 : Int32)) hx hb dX4_append_58 (by decide) ?_
    refine lv_iadd hx hb dX4_append_59 ?_
    obtain ⟨sg10, esg10, hf⟩ := lt_ex hf
    refine pf_X4_29 hx hb hts hown hK hP hD hS dX4_append_60 (fun H locs hP hS => ?_)
    rw [← esg10] at hP
    exact W.iret (v := (sg9 31 5)) hx hb hr (fun t ht hW => ⟨⟨(sg9 31 5), (), rfl, (so2 hf).1, P_at2 (so2 hf).2 ht hP⟩, hS.F ht⟩) hS.2.2 dX4_append_63
  · have hf := if_f c1 hf
    refine lv_iconst (v := (-1 : Int32)) hx hb dX4_append_9 (by decide) ?_
    exact W.iret (v := (-1 : Int32)) hx hb hr (fun t ht hW => ⟨⟨(-1 : Int32), (), rfl, (so2 hf).1, P_at2 (so2 hf).2 ht hP⟩, hS.F ht⟩) hS.2.2 dX4_append_10
