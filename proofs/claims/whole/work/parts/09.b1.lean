set_option maxHeartbeats 4000000 in
set_option maxRecDepth 100000 in
theorem c_X4_departureOf (l : Launch) (g : dd_G) (ad : Nat → Nat) (X : va_W) (sz : Nat) (sg : dd_S) (a1 : Int32) (r0 : Int32) (hf : f_X4_departureOf sg a1 = some (r0)) : Met l yX4_departureOf (lw_ws yX4_departureOf cX4_departureOf 2 (some .int)) ({ frames := 0, cells := 0, slots := 0, locals := 0 } : Room) (va_Pc [.ref (ad 31), .int a1] (PreW g (WC g ad sg ++ X) sz)) (QI g (WC g ad sg ++ X) (dd_A 59 ad X sz) r0) 0 0 (dd_A 59 ad X sz) := by
  refine Met.ofW (cc := cX4_departureOf) (maxL := 2) (ret := some .int) (by decide) rfl ?_
  intro p e s m args below meth c s₁ B hml hv
  obtain ⟨rfl, rfl, hP, hK, hD0⟩ := hv
  have hx := B.exec
  have hb := B.bytes
  have hr := B.returns
  have hts := atoms_spec (ws := (lw_ws yX4_departureOf cX4_departureOf 2 (some .int))) B.pre
  have hts : ∀ w ∈ lw_all, w.before _ s = true := fun w h => hts w (List.mem_cons_of_mem _ h)
  have hown : s.vm.findClass RX4 = some m.cls := findClass_of_methodNamed B.named
  have hlocks := B.notSynchronized
  have hD : ∀ s2 : dd_S, va_D (dd_A 59 ad X s.heap.size) (WC g ad s2 ++ X) := fun s2 => dd_D (dd_A_D hD0)
  have hS : va_S (dd_A 59 ad X s.heap.size) s.heap s.heap [] := va_S.rf
  have hL_23 : ∀ (t0 : Int32) (H : Heap) (locs : List Loc) (ls : Array Slot), f_X4_departureOf_23 sg a1 t0 = some (r0) → va_P g.1 vwCl (WC g ad sg ++ X) H → va_S (dd_A 59 ad X s.heap.size) s.heap H locs → lv_has ls 2 [] → W p l e (headSpec (lw_ws yX4_departureOf cX4_departureOf 2 (some .int)) ({ frames := 0, cells := 0, slots := 0, locals := 0 } : Room)).room s m ([.ref (ad 31), .int a1] : List Value).toArray below meth c H locs 0 0 (MQ below (QI g (WC g ad sg ++ X) (dd_A 59 ad X s.heap.size) r0) ([.ref (ad 31), .int a1] : List Value).toArray s 0 0 (dd_A 59 ad X s.heap.size)) (F0 m 23 ls [.int t0]) := by
    intro t0 H locs ls hf hP hS hl
    unfold f_X4_departureOf_23 at hf
    exact W.iret (v := t0) hx hb hr (fun t ht hW => ⟨⟨t0, (), rfl, so1 hf, P_at ht hP⟩, hS.F ht⟩) hS.2.2 dX4_departureOf_23
  have hL_22 : ∀ (H : Heap) (locs : List Loc) (ls : Array Slot), f_X4_departureOf_22 sg a1 = some (r0) → va_P g.1 vwCl (WC g ad sg ++ X) H → va_S (dd_A 59 ad X s.heap.size) s.heap H locs → lv_has ls 2 [] → W p l e (headSpec (lw_ws yX4_departureOf cX4_departureOf 2 (some .int)) ({ frames := 0, cells := 0, slots := 0, locals := 0 } : Room)).room s m ([.ref (ad 31), .int a1] : List Value).toArray below meth c H locs 0 0 (MQ below (QI g (WC g ad sg ++ X) (dd_A 59 ad X s.heap.size) r0) ([.ref (ad 31), .int a1] : List Value).toArray s 0 0 (dd_A 59 ad X s.heap.size)) (F0 m 22 ls []) := by
    intro H locs ls hf hP hS hl
    unfold f_X4_departureOf_22 at hf
    refine lv_iconst (v := (0 : Int32)) hx hb dX4_departureOf_22 (by decide) ?_
    exact hL_23 (0 : Int32) _ _ _ hf hP hS (lv_sub hl [] rfl)
  unfold f_X4_departureOf at hf
  have hl := lv_entry ([.ref (ad 31), .int a1]) (n := 2) (Nat.le_of_ble_eq_true rfl)
  rw [lg_entry_eq]
  generalize (lg_sl ([.ref (ad 31), .int a1]) ++ List.replicate (2 - (lg_sl ([.ref (ad 31), .int a1])).length) Slot.unset).toArray = ls at hl ⊢
  have hl : lv_has ls 2 [(0, .ref (ad 31)), (1, .int a1)] := hl
  refine lv_iload_n hx hb dX4_departureOf_0 rfl (lv_at hl 1 rfl) ?_
  refine lv_if_lt (tgt := 22) hx hb dX4_departureOf_1 (by decide) (fun c1 => ?_) (fun c1 => ?_)
  · have hf := if_t c1 hf
    exact hL_22 _ _ _ hf hP hS (lv_sub hl [] rfl)
  · have hf := if_f c1 hf
    refine lv_iload_n hx hb dX4_departureOf_4 rfl (lv_at hl 1 rfl) ?_
    refine lv_aload_n hx hb dX4_departureOf_5 rfl (lv_at hl 0 rfl) ?_
    refine gf_X4_23 hx hb hts hown hK hP dX4_departureOf_6 ?_
    refine W_alen (v := (40 : Int32)) hx hb hK hP 43 (by decide) cc_43 0 rfl (by decide) dX4_departureOf_9 ?_
    refine lv_icmp_ge (tgt := 22) hx hb dX4_departureOf_10 (by decide) (fun c2 => ?_) (fun c2 => ?_)
    · have hf := if_t c2 hf
      exact hL_22 _ _ _ hf hP hS (lv_sub hl [] rfl)
    · have hf := if_f c2 hf
      refine lv_aload_n hx hb dX4_departureOf_13 rfl (lv_at hl 0 rfl) ?_
      refine gf_X4_23 hx hb hts hown hK hP dX4_departureOf_14 ?_
      refine lv_iload_n hx hb dX4_departureOf_17 rfl (lv_at hl 1 rfl) ?_
      obtain ⟨hi3, hf⟩ := gd_so hf
      refine W_iald hx hb hK hP 43 (by decide) cc_43 (ix_in hi3) dX4_departureOf_18 ?_
      refine lv_goto (tgt := 23) hx hb dX4_departureOf_19 (by decide) ?_
      exact hL_23 (sg 43 a1.toNatClampNeg) _ _ _ hf hP hS (lv_sub hl [] rfl)
set_option maxHeartbeats 4000000 in
set_option maxRecDepth 100000 in
theorem c_X4_fromOf (l : Launch) (g : dd_G) (ad : Nat → Nat) (X : va_W) (sz : Nat) (sg : dd_S) (a1 : Int32) (r0 : Int32) (hf : f_X4_fromOf sg a1 = some (r0)) : Met l yX4_fromOf (lw_ws yX4_fromOf cX4_fromOf 2 (some .int)) ({ frames := 0, cells := 0, slots := 0, locals := 0 } : Room) (va_Pc [.ref (ad 31), .int a1] (PreW g (WC g ad sg ++ X) sz)) (QI g (WC g ad sg ++ X) (dd_A 59 ad X sz) r0) 0 0 (dd_A 59 ad X sz) := by
  refine Met.ofW (cc := cX4_fromOf) (maxL := 2) (ret := some .int) (by decide) rfl ?_
  intro p e s m args below meth c s₁ B hml hv
  obtain ⟨rfl, rfl, hP, hK, hD0⟩ := hv
  have hx := B.exec
  have hb := B.bytes
  have hr := B.returns
  have hts := atoms_spec (ws := (lw_ws yX4_fromOf cX4_fromOf 2 (some .int))) B.pre
  have hts : ∀ w ∈ lw_all, w.before _ s = true := fun w h => hts w (List.mem_cons_of_mem _ h)
  have hown : s.vm.findClass RX4 = some m.cls := findClass_of_methodNamed B.named
  have hlocks := B.notSynchronized
  have hD : ∀ s2 : dd_S, va_D (dd_A 59 ad X s.heap.size) (WC g ad s2 ++ X) := fun s2 => dd_D (dd_A_D hD0)
  have hS : va_S (dd_A 59 ad X s.heap.size) s.heap s.heap [] := va_S.rf
  have hL_23 : ∀ (t0 : Int32) (H : Heap) (locs : List Loc) (ls : Array Slot), f_X4_fromOf_23 sg a1 t0 = some (r0) → va_P g.1 vwCl (WC g ad sg ++ X) H → va_S (dd_A 59 ad X s.heap.size) s.heap H locs → lv_has ls 2 [] → W p l e (headSpec (lw_ws yX4_fromOf cX4_fromOf 2 (some .int)) ({ frames := 0, cells := 0, slots := 0, locals := 0 } : Room)).room s m ([.ref (ad 31), .int a1] : List Value).toArray below meth c H locs 0 0 (MQ below (QI g (WC g ad sg ++ X) (dd_A 59 ad X s.heap.size) r0) ([.ref (ad 31), .int a1] : List Value).toArray s 0 0 (dd_A 59 ad X s.heap.size)) (F0 m 23 ls [.int t0]) := by
    intro t0 H locs ls hf hP hS hl
    unfold f_X4_fromOf_23 at hf
    exact W.iret (v := t0) hx hb hr (fun t ht hW => ⟨⟨t0, (), rfl, so1 hf, P_at ht hP⟩, hS.F ht⟩) hS.2.2 dX4_fromOf_23
  have hL_22 : ∀ (H : Heap) (locs : List Loc) (ls : Array Slot), f_X4_fromOf_22 sg a1 = some (r0) → va_P g.1 vwCl (WC g ad sg ++ X) H → va_S (dd_A 59 ad X s.heap.size) s.heap H locs → lv_has ls 2 [] → W p l e (headSpec (lw_ws yX4_fromOf cX4_fromOf 2 (some .int)) ({ frames := 0, cells := 0, slots := 0, locals := 0 } : Room)).room s m ([.ref (ad 31), .int a1] : List Value).toArray below meth c H locs 0 0 (MQ below (QI g (WC g ad sg ++ X) (dd_A 59 ad X s.heap.size) r0) ([.ref (ad 31), .int a1] : List Value).toArray s 0 0 (dd_A 59 ad X s.heap.size)) (F0 m 22 ls []) := by
    intro H locs ls hf hP hS hl
    unfold f_X4_fromOf_22 at hf
    refine lv_iconst (v := (0 : Int32)) hx hb dX4_fromOf_22 (by decide) ?_
    exact hL_23 (0 : Int32) _ _ _ hf hP hS (lv_sub hl [] rfl)
  unfold f_X4_fromOf at hf
  have hl := lv_entry ([.ref (ad 31), .int a1]) (n := 2) (Nat.le_of_ble_eq_true rfl)
  rw [lg_entry_eq]
  generalize (lg_sl ([.ref (ad 31), .int a1]) ++ List.replicate (2 - (lg_sl ([.ref (ad 31), .int a1])).length) Slot.unset).toArray = ls at hl ⊢
  have hl : lv_has ls 2 [(0, .ref (ad 31)), (1, .int a1)] := hl
  refine lv_iload_n hx hb dX4_fromOf_0 rfl (lv_at hl 1 rfl) ?_
  refine lv_if_lt (tgt := 22) hx hb dX4_fromOf_1 (by decide) (fun c1 => ?_) (fun c1 => ?_)
  · have hf := if_t c1 hf
    exact hL_22 _ _ _ hf hP hS (lv_sub hl [] rfl)
  · have hf := if_f c1 hf
    refine lv_iload_n hx hb dX4_fromOf_4 rfl (lv_at hl 1 rfl) ?_
    refine lv_aload_n hx hb dX4_fromOf_5 rfl (lv_at hl 0 rfl) ?_
    refine gf_X4_16 hx hb hts hown hK hP dX4_fromOf_6 ?_
    refine W_alen (v := (40 : Int32)) hx hb hK hP 41 (by decide) cc_41 0 rfl (by decide) dX4_fromOf_9 ?_
    refine lv_icmp_ge (tgt := 22) hx hb dX4_fromOf_10 (by decide) (fun c2 => ?_) (fun c2 => ?_)
    · have hf := if_t c2 hf
      exact hL_22 _ _ _ hf hP hS (lv_sub hl [] rfl)
    · have hf := if_f c2 hf
      refine lv_aload_n hx hb dX4_fromOf_13 rfl (lv_at hl 0 rfl) ?_
      refine gf_X4_16 hx hb hts hown hK hP dX4_fromOf_14 ?_
      refine lv_iload_n hx hb dX4_fromOf_17 rfl (lv_at hl 1 rfl) ?_
      obtain ⟨hi3, hf⟩ := gd_so hf
      refine W_iald hx hb hK hP 41 (by decide) cc_41 (ix_in hi3) dX4_fromOf_18 ?_
      refine lv_goto (tgt := 23) hx hb dX4_fromOf_19 (by decide) ?_
      exact hL_23 (sg 41 a1.toNatClampNeg) _ _ _ hf hP hS (lv_sub hl [] rfl)
set_option maxHeartbeats 4000000 in
set_option maxRecDepth 100000 in
theorem c_X4_toOf (l : Launch) (g : dd_G) (ad : Nat → Nat) (X : va_W) (sz : Nat) (sg : dd_S) (a1 : Int32) (r0 : Int32) (hf : f_X4_toOf sg a1 = some (r0)) : Met l yX4_toOf (lw_ws yX4_toOf cX4_toOf 2 (some .int)) ({ frames := 0, cells := 0, slots := 0, locals := 0 } : Room) (va_Pc [.ref (ad 31), .int a1] (PreW g (WC g ad sg ++ X) sz)) (QI g (WC g ad sg ++ X) (dd_A 59 ad X sz) r0) 0 0 (dd_A 59 ad X sz) := by
  refine Met.ofW (cc := cX4_toOf) (maxL := 2) (ret := some .int) (by decide) rfl ?_
  intro p e s m args below meth c s₁ B hml hv
  obtain ⟨rfl, rfl, hP, hK, hD0⟩ := hv
  have hx := B.exec
  have hb := B.bytes
  have hr := B.returns
  have hts := atoms_spec (ws := (lw_ws yX4_toOf cX4_toOf 2 (some .int))) B.pre
  have hts : ∀ w ∈ lw_all, w.before _ s = true := fun w h => hts w (List.mem_cons_of_mem _ h)
  have hown : s.vm.findClass RX4 = some m.cls := findClass_of_methodNamed B.named
  have hlocks := B.notSynchronized
  have hD : ∀ s2 : dd_S, va_D (dd_A 59 ad X s.heap.size) (WC g ad s2 ++ X) := fun s2 => dd_D (dd_A_D hD0)
  have hS : va_S (dd_A 59 ad X s.heap.size) s.heap s.heap [] := va_S.rf
  have hL_23 : ∀ (t0 : Int32) (H : Heap) (locs : List Loc) (ls : Array Slot), f_X4_toOf_23 sg a1 t0 = some (r0) → va_P g.1 vwCl (WC g ad sg ++ X) H → va_S (dd_A 59 ad X s.heap.size) s.heap H locs → lv_has ls 2 [] → W p l e (headSpec (lw_ws yX4_toOf cX4_toOf 2 (some .int)) ({ frames := 0, cells := 0, slots := 0, locals := 0 } : Room)).room s m ([.ref (ad 31), .int a1] : List Value).toArray below meth c H locs 0 0 (MQ below (QI g (WC g ad sg ++ X) (dd_A 59 ad X s.heap.size) r0) ([.ref (ad 31), .int a1] : List Value).toArray s 0 0 (dd_A 59 ad X s.heap.size)) (F0 m 23 ls [.int t0]) := by
    intro t0 H locs ls hf hP hS hl
    unfold f_X4_toOf_23 at hf
    exact W.iret (v := t0) hx hb hr (fun t ht hW => ⟨⟨t0, (), rfl, so1 hf, P_at ht hP⟩, hS.F ht⟩) hS.2.2 dX4_toOf_23
  have hL_22 : ∀ (H : Heap) (locs : List Loc) (ls : Array Slot), f_X4_toOf_22 sg a1 = some (r0) → va_P g.1 vwCl (WC g ad sg ++ X) H → va_S (dd_A 59 ad X s.heap.size) s.heap H locs → lv_has ls 2 [] → W p l e (headSpec (lw_ws yX4_toOf cX4_toOf 2 (some .int)) ({ frames := 0, cells := 0, slots := 0, locals := 0 } : Room)).room s m ([.ref (ad 31), .int a1] : List Value).toArray below meth c H locs 0 0 (MQ below (QI g (WC g ad sg ++ X) (dd_A 59 ad X s.heap.size) r0) ([.ref (ad 31), .int a1] : List Value).toArray s 0 0 (dd_A 59 ad X s.heap.size)) (F0 m 22 ls []) := by
    intro H locs ls hf hP hS hl
    unfold f_X4_toOf_22 at hf
    refine lv_iconst (v := (0 : Int32)) hx hb dX4_toOf_22 (by decide) ?_
    exact hL_23 (0 : Int32) _ _ _ hf hP hS (lv_sub hl [] rfl)
  unfold f_X4_toOf at hf
  have hl := lv_entry ([.ref (ad 31), .int a1]) (n := 2) (Nat.le_of_ble_eq_true rfl)
  rw [lg_entry_eq]
  generalize (lg_sl ([.ref (ad 31), .int a1]) ++ List.replicate (2 - (lg_sl ([.ref (ad 31), .int a1])).length) Slot.unset).toArray = ls at hl ⊢
  have hl : lv_has ls 2 [(0, .ref (ad 31)), (1, .int a1)] := hl
  refine lv_iload_n hx hb dX4_toOf_0 rfl (lv_at hl 1 rfl) ?_
  refine lv_if_lt (tgt := 22) hx hb dX4_toOf_1 (by decide) (fun c1 => ?_) (fun c1 => ?_)
  · have hf := if_t c1 hf
    exact hL_22 _ _ _ hf hP hS (lv_sub hl [] rfl)
  · have hf := if_f c1 hf
    refine lv_iload_n hx hb dX4_toOf_4 rfl (lv_at hl 1 rfl) ?_
    refine lv_aload_n hx hb dX4_toOf_5 rfl (lv_at hl 0 rfl) ?_
    refine gf_X4_20 hx hb hts hown hK hP dX4_toOf_6 ?_
    refine W_alen (v := (40 : Int32)) hx hb hK hP 42 (by decide) cc_42 0 rfl (by decide) dX4_toOf_9 ?_
    refine lv_icmp_ge (tgt := 22) hx hb dX4_toOf_10 (by decide) (fun c2 => ?_) (fun c2 => ?_)
    · have hf := if_t c2 hf
      exact hL_22 _ _ _ hf hP hS (lv_sub hl [] rfl)
    · have hf := if_f c2 hf
      refine lv_aload_n hx hb dX4_toOf_13 rfl (lv_at hl 0 rfl) ?_
      refine gf_X4_20 hx hb hts hown hK hP dX4_toOf_14 ?_
      refine lv_iload_n hx hb dX4_toOf_17 rfl (lv_at hl 1 rfl) ?_
      obtain ⟨hi3, hf⟩ := gd_so hf
      refine W_iald hx hb hK hP 42 (by decide) cc_42 (ix_in hi3) dX4_toOf_18 ?_
      refine lv_goto (tgt := 23) hx hb dX4_toOf_19 (by decide) ?_
      exact hL_23 (sg 42 a1.toNatClampNeg) _ _ _ hf hP hS (lv_sub hl [] rfl)
set_option maxHeartbeats 4000000 in
set_option maxRecDepth 100000 in
theorem c_X4_arrivalOf (l : Launch) (g : dd_G) (ad : Nat → Nat) (X : va_W) (sz : Nat) (sg : dd_S) (a1 : Int32) (r0 : Int32) (hf : f_X4_arrivalOf sg a1 = some (r0)) : Met l yX4_arrivalOf (lw_ws yX4_arrivalOf cX4_arrivalOf 2 (some .int)) ({ frames := 0, cells := 0, slots := 0, locals := 0 } : Room) (va_Pc [.ref (ad 31), .int a1] (PreW g (WC g ad sg ++ X) sz)) (QI g (WC g ad sg ++ X) (dd_A 59 ad X sz) r0) 0 0 (dd_A 59 ad X sz) := by
  refine Met.ofW (cc := cX4_arrivalOf) (maxL := 2) (ret := some .int) (by decide) rfl ?_
  intro p e s m args below meth c s₁ B hml hv
  obtain ⟨rfl, rfl, hP, hK, hD0⟩ := hv
  have hx := B.exec
  have hb := B.bytes
  have hr := B.returns
  have hts := atoms_spec (ws := (lw_ws yX4_arrivalOf cX4_arrivalOf 2 (some .int))) B.pre
  have hts : ∀ w ∈ lw_all, w.before _ s = true := fun w h => hts w (List.mem_cons_of_mem _ h)
  have hown : s.vm.findClass RX4 = some m.cls := findClass_of_methodNamed B.named
  have hlocks := B.notSynchronized
  have hD : ∀ s2 : dd_S, va_D (dd_A 59 ad X s.heap.size) (WC g ad s2 ++ X) := fun s2 => dd_D (dd_A_D hD0)
  have hS : va_S (dd_A 59 ad X s.heap.size) s.heap s.heap [] := va_S.rf
  have hL_23 : ∀ (t0 : Int32) (H : Heap) (locs : List Loc) (ls : Array Slot), f_X4_arrivalOf_23 sg a1 t0 = some (r0) → va_P g.1 vwCl (WC g ad sg ++ X) H → va_S (dd_A 59 ad X s.heap.size) s.heap H locs → lv_has ls 2 [] → W p l e (headSpec (lw_ws yX4_arrivalOf cX4_arrivalOf 2 (some .int)) ({ frames := 0, cells := 0, slots := 0, locals := 0 } : Room)).room s m ([.ref (ad 31), .int a1] : List Value).toArray below meth c H locs 0 0 (MQ below (QI g (WC g ad sg ++ X) (dd_A 59 ad X s.heap.size) r0) ([.ref (ad 31), .int a1] : List Value).toArray s 0 0 (dd_A 59 ad X s.heap.size)) (F0 m 23 ls [.int t0]) := by
    intro t0 H locs ls hf hP hS hl
    unfold f_X4_arrivalOf_23 at hf
    exact W.iret (v := t0) hx hb hr (fun t ht hW => ⟨⟨t0, (), rfl, so1 hf, P_at ht hP⟩, hS.F ht⟩) hS.2.2 dX4_arrivalOf_23
  have hL_22 : ∀ (H : Heap) (locs : List Loc) (ls : Array Slot), f_X4_arrivalOf_22 sg a1 = some (r0) → va_P g.1 vwCl (WC g ad sg ++ X) H → va_S (dd_A 59 ad X s.heap.size) s.heap H locs → lv_has ls 2 [] → W p l e (headSpec (lw_ws yX4_arrivalOf cX4_arrivalOf 2 (some .int)) ({ frames := 0, cells := 0, slots := 0, locals := 0 } : Room)).room s m ([.ref (ad 31), .int a1] : List Value).toArray below meth c H locs 0 0 (MQ below (QI g (WC g ad sg ++ X) (dd_A 59 ad X s.heap.size) r0) ([.ref (ad 31), .int a1] : List Value).toArray s 0 0 (dd_A 59 ad X s.heap.size)) (F0 m 22 ls []) := by
    intro H locs ls hf hP hS hl
    unfold f_X4_arrivalOf_22 at hf
    refine lv_iconst (v := (0 : Int32)) hx hb dX4_arrivalOf_22 (by decide) ?_
    exact hL_23 (0 : Int32) _ _ _ hf hP hS (lv_sub hl [] rfl)
  unfold f_X4_arrivalOf at hf
  have hl := lv_entry ([.ref (ad 31), .int a1]) (n := 2) (Nat.le_of_ble_eq_true rfl)
  rw [lg_entry_eq]
  generalize (lg_sl ([.ref (ad 31), .int a1]) ++ List.replicate (2 - (lg_sl ([.ref (ad 31), .int a1])).length) Slot.unset).toArray = ls at hl ⊢
  have hl : lv_has ls 2 [(0, .ref (ad 31)), (1, .int a1)] := hl
  refine lv_iload_n hx hb dX4_arrivalOf_0 rfl (lv_at hl 1 rfl) ?_
  refine lv_if_lt (tgt := 22) hx hb dX4_arrivalOf_1 (by decide) (fun c1 => ?_) (fun c1 => ?_)
  · have hf := if_t c1 hf
    exact hL_22 _ _ _ hf hP hS (lv_sub hl [] rfl)
  · have hf := if_f c1 hf
    refine lv_iload_n hx hb dX4_arrivalOf_4 rfl (lv_at hl 1 rfl) ?_
    refine lv_aload_n hx hb dX4_arrivalOf_5 rfl (lv_at hl 0 rfl) ?_
    refine gf_X4_26 hx hb hts hown hK hP dX4_arrivalOf_6 ?_
    refine W_alen (v := (40 : Int32)) hx hb hK hP 44 (by decide) cc_44 0 rfl (by decide) dX4_arrivalOf_9 ?_
    refine lv_icmp_ge (tgt := 22) hx hb dX4_arrivalOf_10 (by decide) (fun c2 => ?_) (fun c2 => ?_)
    · have hf := if_t c2 hf
      exact hL_22 _ _ _ hf hP hS (lv_sub hl [] rfl)
    · have hf := if_f c2 hf
      refine lv_aload_n hx hb dX4_arrivalOf_13 rfl (lv_at hl 0 rfl) ?_
      refine gf_X4_26 hx hb hts hown hK hP dX4_arrivalOf_14 ?_
      refine lv_iload_n hx hb dX4_arrivalOf_17 rfl (lv_at hl 1 rfl) ?_
      obtain ⟨hi3, hf⟩ := gd_so hf
      refine W_iald hx hb hK hP 44 (by decide) cc_44 (ix_in hi3) dX4_arrivalOf_18 ?_
      refine lv_goto (tgt := 23) hx hb dX4_arrivalOf_19 (by decide) ?_
      exact hL_23 (sg 44 a1.toNatClampNeg) _ _ _ hf hP hS (lv_sub hl [] rfl)
set_option maxHeartbeats 4000000 in
set_option maxRecDepth 100000 in
theorem c_X4_minutesOf (l : Launch) (g : dd_G) (ad : Nat → Nat) (X : va_W) (sz : Nat) (sg : dd_S) (a1 : Int32) (r0 : Int32) (hf : f_X4_minutesOf sg a1 = some (r0)) : Met l yX4_minutesOf (lw_ws yX4_minutesOf cX4_minutesOf 2 (some .int)) ({ frames := 1, cells := 0, slots := 0, locals := 21 } : Room) (va_Pc [.ref (ad 31), .int a1] (PreW g (WC g ad sg ++ X) sz)) (QI g (WC g ad sg ++ X) (dd_A 59 ad X sz) r0) 0 0 (dd_A 59 ad X sz) := by
  refine Met.ofW (cc := cX4_minutesOf) (maxL := 2) (ret := some .int) (by decide) rfl ?_
  intro p e s m args below meth c s₁ B hml hv
  obtain ⟨rfl, rfl, hP, hK, hD0⟩ := hv
  have hx := B.exec
  have hb := B.bytes
  have hr := B.returns
  have hts := atoms_spec (ws := (lw_ws yX4_minutesOf cX4_minutesOf 2 (some .int))) B.pre
  have hts : ∀ w ∈ lw_all, w.before _ s = true := fun w h => hts w (List.mem_cons_of_mem _ h)
  have hown : s.vm.findClass RX4 = some m.cls := findClass_of_methodNamed B.named
  have hlocks := B.notSynchronized
  have hD : ∀ s2 : dd_S, va_D (dd_A 59 ad X s.heap.size) (WC g ad s2 ++ X) := fun s2 => dd_D (dd_A_D hD0)
  have hS : va_S (dd_A 59 ad X s.heap.size) s.heap s.heap [] := va_S.rf
  unfold f_X4_minutesOf at hf
  have hl := lv_entry ([.ref (ad 31), .int a1]) (n := 2) (Nat.le_of_ble_eq_true rfl)
  rw [lg_entry_eq]
  generalize (lg_sl ([.ref (ad 31), .int a1]) ++ List.replicate (2 - (lg_sl ([.ref (ad 31), .int a1])).length) Slot.unset).toArray = ls at hl ⊢
  have hl : lv_has ls 2 [(0, .ref (ad 31)), (1, .int a1)] := hl
  refine lv_aload_n hx hb dX4_minutesOf_0 rfl (lv_at hl 0 rfl) ?_
  refine lv_iload_n hx hb dX4_minutesOf_1 rfl (lv_at hl 1 rfl) ?_
  obtain ⟨r2, q1, hf⟩ := bd_so hf
  refine cl_i (va_runV (As := [.int a1]) (rest := []) ⟨hx, hb, hml, hown, hts⟩ (c_X4_arrivalOf l g ad X _ sg a1 r2 q1) (cwV 1 hts gl_X4_33 rfl rfl rfl yd_X4_arrivalOf ⟨Nat.le_of_ble_eq_true rfl, Nat.le_of_ble_eq_true rfl⟩) (preV_of hK hP (hD sg) (dd_at (by decide) cc_31) rfl) rfl rfl hl.1 rfl (lv_room (Nat.le_of_ble_eq_true rfl)) dX4_minutesOf_2 ⟨Nat.le_of_ble_eq_true rfl, Nat.le_of_ble_eq_true rfl⟩) hS (fun q h => dd_A_mono hS.1 h) (fun q h => dd_A_mono hS.1 h) (fun H locs hP hS => ?_)
  refine lv_aload_n hx hb dX4_minutesOf_5 rfl (lv_at hl 0 rfl) ?_
  refine lv_iload_n hx hb dX4_minutesOf_6 rfl (lv_at hl 1 rfl) ?_
  obtain ⟨r4, q3, hf⟩ := bd_so hf
  refine cl_i (va_runV (As := [.int a1]) (rest := [.int r2]) ⟨hx, hb, hml, hown, hts⟩ (c_X4_departureOf l g ad X _ sg a1 r4 q3) (cwV 1 hts gl_X4_37 rfl rfl rfl yd_X4_departureOf ⟨Nat.le_of_ble_eq_true rfl, Nat.le_of_ble_eq_true rfl⟩) (preV_of hK hP (hD sg) (dd_at (by decide) cc_31) rfl) rfl rfl hl.1 rfl (lv_room (Nat.le_of_ble_eq_true rfl)) dX4_minutesOf_7 ⟨Nat.le_of_ble_eq_true rfl, Nat.le_of_ble_eq_true rfl⟩) hS (fun q h => dd_A_mono hS.1 h) (fun q h => dd_A_mono hS.1 h) (fun H locs hP hS => ?_)
  refine lv_isub hx hb dX4_minutesOf_10 ?_
  exact W.iret (v := (r2 - r4)) hx hb hr (fun t ht hW => ⟨⟨(r2 - r4), (), rfl, so1 hf, P_at ht hP⟩, hS.F ht⟩) hS.2.2 dX4_minutesOf_11
set_option maxHeartbeats 4000000 in
set_option maxRecDepth 100000 in
theorem c_X4_wayFrom (l : Launch) (g : dd_G) (ad : Nat → Nat) (X : va_W) (sz : Nat) (sg : dd_S) (a1 : Int32) (a2 : Int32) (r0 : Int32) (hf : f_X4_wayFrom sg a1 a2 = some (r0)) : Met l yX4_wayFrom (lw_ws yX4_wayFrom cX4_wayFrom 3 (some .int)) ({ frames := 0, cells := 0, slots := 0, locals := 0 } : Room) (va_Pc [.ref (ad 31), .int a1, .int a2] (PreW g (WC g ad sg ++ X) sz)) (QI g (WC g ad sg ++ X) (dd_A 59 ad X sz) r0) 0 0 (dd_A 59 ad X sz) := by
  refine Met.ofW (cc := cX4_wayFrom) (maxL := 3) (ret := some .int) (by decide) rfl ?_
  intro p e s m args below meth c s₁ B hml hv
  obtain ⟨rfl, rfl, hP, hK, hD0⟩ := hv
  have hx := B.exec
  have hb := B.bytes
  have hr := B.returns
  have hts := atoms_spec (ws := (lw_ws yX4_wayFrom cX4_wayFrom 3 (some .int))) B.pre
  have hts : ∀ w ∈ lw_all, w.before _ s = true := fun w h => hts w (List.mem_cons_of_mem _ h)
  have hown : s.vm.findClass RX4 = some m.cls := findClass_of_methodNamed B.named
  have hlocks := B.notSynchronized
  have hD : ∀ s2 : dd_S, va_D (dd_A 59 ad X s.heap.size) (WC g ad s2 ++ X) := fun s2 => dd_D (dd_A_D hD0)
  have hS : va_S (dd_A 59 ad X s.heap.size) s.heap s.heap [] := va_S.rf
  have hL_32 : ∀ (t0 : Int32) (H : Heap) (locs : List Loc) (ls : Array Slot), f_X4_wayFrom_32 sg a1 a2 t0 = some (r0) → va_P g.1 vwCl (WC g ad sg ++ X) H → va_S (dd_A 59 ad X s.heap.size) s.heap H locs → lv_has ls 3 [] → W p l e (headSpec (lw_ws yX4_wayFrom cX4_wayFrom 3 (some .int)) ({ frames := 0, cells := 0, slots := 0, locals := 0 } : Room)).room s m ([.ref (ad 31), .int a1, .int a2] : List Value).toArray below meth c H locs 0 0 (MQ below (QI g (WC g ad sg ++ X) (dd_A 59 ad X s.heap.size) r0) ([.ref (ad 31), .int a1, .int a2] : List Value).toArray s 0 0 (dd_A 59 ad X s.heap.size)) (F0 m 32 ls [.int t0]) := by
    intro t0 H locs ls hf hP hS hl
    unfold f_X4_wayFrom_32 at hf
    exact W.iret (v := t0) hx hb hr (fun t ht hW => ⟨⟨t0, (), rfl, so1 hf, P_at ht hP⟩, hS.F ht⟩) hS.2.2 dX4_wayFrom_32
  have hL_31 : ∀ (H : Heap) (locs : List Loc) (ls : Array Slot), f_X4_wayFrom_31 sg a1 a2 = some (r0) → va_P g.1 vwCl (WC g ad sg ++ X) H → va_S (dd_A 59 ad X s.heap.size) s.heap H locs → lv_has ls 3 [] → W p l e (headSpec (lw_ws yX4_wayFrom cX4_wayFrom 3 (some .int)) ({ frames := 0, cells := 0, slots := 0, locals := 0 } : Room)).room s m ([.ref (ad 31), .int a1, .int a2] : List Value).toArray below meth c H locs 0 0 (MQ below (QI g (WC g ad sg ++ X) (dd_A 59 ad X s.heap.size) r0) ([.ref (ad 31), .int a1, .int a2] : List Value).toArray s 0 0 (dd_A 59 ad X s.heap.size)) (F0 m 31 ls []) := by
    intro H locs ls hf hP hS hl
    unfold f_X4_wayFrom_31 at hf
    refine lv_iconst (v := (0 : Int32)) hx hb dX4_wayFrom_31 (by decide) ?_
    exact hL_32 (0 : Int32) _ _ _ hf hP hS (lv_sub hl [] rfl)
  unfold f_X4_wayFrom at hf
  have hl := lv_entry ([.ref (ad 31), .int a1, .int a2]) (n := 3) (Nat.le_of_ble_eq_true rfl)
  rw [lg_entry_eq]
  generalize (lg_sl ([.ref (ad 31), .int a1, .int a2]) ++ List.replicate (3 - (lg_sl ([.ref (ad 31), .int a1, .int a2])).length) Slot.unset).toArray = ls at hl ⊢
  have hl : lv_has ls 3 [(0, .ref (ad 31)), (1, .int a1), (2, .int a2)] := hl
  refine lv_iload_n hx hb dX4_wayFrom_0 rfl (lv_at hl 1 rfl) ?_
  refine lv_if_lt (tgt := 31) hx hb dX4_wayFrom_1 (by decide) (fun c1 => ?_) (fun c1 => ?_)
  · have hf := if_t c1 hf
    exact hL_31 _ _ _ hf hP hS (lv_sub hl [] rfl)
  · have hf := if_f c1 hf
    refine lv_iload_n hx hb dX4_wayFrom_4 rfl (lv_at hl 1 rfl) ?_
    refine lv_bipush (v := (6 : Int32)) hx hb dX4_wayFrom_5 (by decide) ?_
    refine lv_icmp_ge (tgt := 31) hx hb dX4_wayFrom_7 (by decide) (fun c2 => ?_) (fun c2 => ?_)
    · have hf := if_t c2 hf
      exact hL_31 _ _ _ hf hP hS (lv_sub hl [] rfl)
    · have hf := if_f c2 hf
      refine lv_iload_n hx hb dX4_wayFrom_10 rfl (lv_at hl 2 rfl) ?_
      refine lv_if_lt (tgt := 31) hx hb dX4_wayFrom_11 (by decide) (fun c3 => ?_) (fun c3 => ?_)
      · have hf := if_t c3 hf
        exact hL_31 _ _ _ hf hP hS (lv_sub hl [] rfl)
      · have hf := if_f c3 hf
        refine lv_iload_n hx hb dX4_wayFrom_14 rfl (lv_at hl 2 rfl) ?_
        refine lv_bipush (v := (6 : Int32)) hx hb dX4_wayFrom_15 (by decide) ?_
        refine lv_icmp_ge (tgt := 31) hx hb dX4_wayFrom_17 (by decide) (fun c4 => ?_) (fun c4 => ?_)
        · have hf := if_t c4 hf
          exact hL_31 _ _ _ hf hP hS (lv_sub hl [] rfl)
        · have hf := if_f c4 hf
          refine lv_aload_n hx hb dX4_wayFrom_20 rfl (lv_at hl 0 rfl) ?_
          refine gf_X4_11 hx hb hts hown hK hP dX4_wayFrom_21 ?_
          refine lv_iload_n hx hb dX4_wayFrom_24 rfl (lv_at hl 1 rfl) ?_
          obtain ⟨hi5, hf⟩ := gd_so hf
          refine W_aald (b := fun j => 53 + j) hx hb hK hP 40 (by decide) cc_40 2 rfl rfl (ix_in hi5) dX4_wayFrom_25 ?_
          refine lv_iload_n hx hb dX4_wayFrom_26 rfl (lv_at hl 2 rfl) ?_
          obtain ⟨hi6, hf⟩ := gd_so hf
          refine W_iald hx hb hK hP (53 + a1.toNatClampNeg) (by have := ix_lt (m := 6) hi5 (by decide); omega) (cc_ways (ix_lt hi5 (by decide))) (ix_in hi6) dX4_wayFrom_27 ?_
          refine lv_goto (tgt := 32) hx hb dX4_wayFrom_28 (by decide) ?_
          exact hL_32 (sg (53 + a1.toNatClampNeg) a2.toNatClampNeg) _ _ _ hf hP hS (lv_sub hl [] rfl)
set_option maxHeartbeats 4000000 in
set_option maxRecDepth 100000 in
theorem c_X0_tripIn (l : Launch) (g : dd_G) (ad : Nat → Nat) (X : va_W) (sz : Nat) (sg : dd_S) (d : Nat) (a1 : Int32) (hd : d < 15) (r0 : Int32) (hf : f_X0_tripIn sg d a1 = some (r0)) : Met l yX0_tripIn (lw_ws yX0_tripIn cX0_tripIn 2 (some .int)) ({ frames := 0, cells := 0, slots := 0, locals := 0 } : Room) (va_Pc [.ref (ad d), .int a1] (PreW g (WC g ad sg ++ X) sz)) (QI g (WC g ad sg ++ X) (dd_A 59 ad X sz) r0) 0 0 (dd_A 59 ad X sz) := by
  refine Met.ofW (cc := cX0_tripIn) (maxL := 2) (ret := some .int) (by decide) rfl ?_
  intro p e s m args below meth c s₁ B hml hv
  obtain ⟨rfl, rfl, hP, hK, hD0⟩ := hv
  have hx := B.exec
  have hb := B.bytes
  have hr := B.returns
  have hts := atoms_spec (ws := (lw_ws yX0_tripIn cX0_tripIn 2 (some .int))) B.pre
  have hts : ∀ w ∈ lw_all, w.before _ s = true := fun w h => hts w (List.mem_cons_of_mem _ h)
  have hown : s.vm.findClass RX0 = some m.cls := findClass_of_methodNamed B.named
  have hlocks := B.notSynchronized
  have hD : ∀ s2 : dd_S, va_D (dd_A 59 ad X s.heap.size) (WC g ad s2 ++ X) := fun s2 => dd_D (dd_A_D hD0)
  have hS : va_S (dd_A 59 ad X s.heap.size) s.heap s.heap [] := va_S.rf
  have hL_23 : ∀ (t0 : Int32) (H : Heap) (locs : List Loc) (ls : Array Slot), f_X0_tripIn_23 sg d a1 t0 = some (r0) → va_P g.1 vwCl (WC g ad sg ++ X) H → va_S (dd_A 59 ad X s.heap.size) s.heap H locs → lv_has ls 2 [] → W p l e (headSpec (lw_ws yX0_tripIn cX0_tripIn 2 (some .int)) ({ frames := 0, cells := 0, slots := 0, locals := 0 } : Room)).room s m ([.ref (ad d), .int a1] : List Value).toArray below meth c H locs 0 0 (MQ below (QI g (WC g ad sg ++ X) (dd_A 59 ad X s.heap.size) r0) ([.ref (ad d), .int a1] : List Value).toArray s 0 0 (dd_A 59 ad X s.heap.size)) (F0 m 23 ls [.int t0]) := by
    intro t0 H locs ls hf hP hS hl
    unfold f_X0_tripIn_23 at hf
    exact W.iret (v := t0) hx hb hr (fun t ht hW => ⟨⟨t0, (), rfl, so1 hf, P_at ht hP⟩, hS.F ht⟩) hS.2.2 dX0_tripIn_23
  have hL_22 : ∀ (H : Heap) (locs : List Loc) (ls : Array Slot), f_X0_tripIn_22 sg d a1 = some (r0) → va_P g.1 vwCl (WC g ad sg ++ X) H → va_S (dd_A 59 ad X s.heap.size) s.heap H locs → lv_has ls 2 [] → W p l e (headSpec (lw_ws yX0_tripIn cX0_tripIn 2 (some .int)) ({ frames := 0, cells := 0, slots := 0, locals := 0 } : Room)).room s m ([.ref (ad d), .int a1] : List Value).toArray below meth c H locs 0 0 (MQ below (QI g (WC g ad sg ++ X) (dd_A 59 ad X s.heap.size) r0) ([.ref (ad d), .int a1] : List Value).toArray s 0 0 (dd_A 59 ad X s.heap.size)) (F0 m 22 ls []) := by
    intro H locs ls hf hP hS hl
    unfold f_X0_tripIn_22 at hf
    refine lv_iconst (v := (-1 : Int32)) hx hb dX0_tripIn_22 (by decide) ?_
    exact hL_23 (-1 : Int32) _ _ _ hf hP hS (lv_sub hl [] rfl)
  unfold f_X0_tripIn at hf
  have hl := lv_entry ([.ref (ad d), .int a1]) (n := 2) (Nat.le_of_ble_eq_true rfl)
  rw [lg_entry_eq]
  generalize (lg_sl ([.ref (ad d), .int a1]) ++ List.replicate (2 - (lg_sl ([.ref (ad d), .int a1])).length) Slot.unset).toArray = ls at hl ⊢
  have hl : lv_has ls 2 [(0, .ref (ad d)), (1, .int a1)] := hl
  refine lv_iload_n hx hb dX0_tripIn_0 rfl (lv_at hl 1 rfl) ?_
  refine lv_if_lt (tgt := 22) hx hb dX0_tripIn_1 (by decide) (fun c1 => ?_) (fun c1 => ?_)
  · have hf := if_t c1 hf
    exact hL_22 _ _ _ hf hP hS (lv_sub hl [] rfl)
  · have hf := if_f c1 hf
    refine lv_iload_n hx hb dX0_tripIn_4 rfl (lv_at hl 1 rfl) ?_
    refine lv_aload_n hx hb dX0_tripIn_5 rfl (lv_at hl 0 rfl) ?_
    refine gf_X0_9 hx hb hts hown hK hP hd dX0_tripIn_6 ?_
    refine W_alen (v := (40 : Int32)) hx hb hK hP (15 + d) (by omega) (cc_trips hd) 0 rfl (by decide) dX0_tripIn_9 ?_
    refine lv_icmp_ge (tgt := 22) hx hb dX0_tripIn_10 (by decide) (fun c2 => ?_) (fun c2 => ?_)
    · have hf := if_t c2 hf
      exact hL_22 _ _ _ hf hP hS (lv_sub hl [] rfl)
    · have hf := if_f c2 hf
      refine lv_aload_n hx hb dX0_tripIn_13 rfl (lv_at hl 0 rfl) ?_
      refine gf_X0_9 hx hb hts hown hK hP hd dX0_tripIn_14 ?_
      refine lv_iload_n hx hb dX0_tripIn_17 rfl (lv_at hl 1 rfl) ?_
      obtain ⟨hi3, hf⟩ := gd_so hf
      refine W_iald hx hb hK hP (15 + d) (by omega) (cc_trips hd) (ix_in hi3) dX0_tripIn_18 ?_
      refine lv_goto (tgt := 23) hx hb dX0_tripIn_19 (by decide) ?_
      exact hL_23 (sg (15 + d) a1.toNatClampNeg) _ _ _ hf hP hS (lv_sub hl [] rfl)
set_option maxHeartbeats 4000000 in
set_option maxRecDepth 100000 in
theorem c_X0_placeOf (l : Launch) (g : dd_G) (ad : Nat → Nat) (X : va_W) (sz : Nat) (sg : dd_S) (d : Nat) (a1 : Int32) (hd : d < 15) (r0 : Int32) (hf : f_X0_placeOf sg d a1 = some (r0)) : Met l yX0_placeOf (lw_ws yX0_placeOf cX0_placeOf 3 (some .int)) ({ frames := 1, cells := 0, slots := 0, locals := 21 } : Room) (va_Pc [.ref (ad d), .int a1] (PreW g (WC g ad sg ++ X) sz)) (QI g (WC g ad sg ++ X) (dd_A 59 ad X sz) r0) 0 0 (dd_A 59 ad X sz) := by
  refine Met.ofW (cc := cX0_placeOf) (maxL := 3) (ret := some .int) (by decide) rfl ?_
  intro p e s m args below meth c s₁ B hml hv
  obtain ⟨rfl, rfl, hP, hK, hD0⟩ := hv
  have hx := B.exec
  have hb := B.bytes
  have hr := B.returns
  have hts := atoms_spec (ws := (lw_ws yX0_placeOf cX0_placeOf 3 (some .int))) B.pre
  have hts : ∀ w ∈ lw_all, w.before _ s = true := fun w h => hts w (List.mem_cons_of_mem _ h)
  have hown : s.vm.findClass RX0 = some m.cls := findClass_of_methodNamed B.named
  have hlocks := B.notSynchronized
  have hD : ∀ s2 : dd_S, va_D (dd_A 59 ad X s.heap.size) (WC g ad s2 ++ X) := fun s2 => dd_D (dd_A_D hD0)
  have hS : va_S (dd_A 59 ad X s.heap.size) s.heap s.heap [] := va_S.rf
  have hL_2 : ∀ (n : Nat), ∀ (v2 : Int32) (H : Heap) (locs : List Loc) (ls : Array Slot), f_X0_placeOf_2 sg d a1 n v2 = some (r0) → va_P g.1 vwCl (WC g ad sg ++ X) H → va_S (dd_A 59 ad X s.heap.size) s.heap H locs → lv_has ls 3 [(0, .ref (ad d)), (1, .int a1), (2, .int v2)] → W p l e (headSpec (lw_ws yX0_placeOf cX0_placeOf 3 (some .int)) ({ frames := 1, cells := 0, slots := 0, locals := 21 } : Room)).room s m ([.ref (ad d), .int a1] : List Value).toArray below meth c H locs 0 0 (MQ below (QI g (WC g ad sg ++ X) (dd_A 59 ad X s.heap.size) r0) ([.ref (ad d), .int a1] : List Value).toArray s 0 0 (dd_A 59 ad X s.heap.size)) (F0 m 2 ls []) := by
    intro n
    induction n with
    | zero =>
      intro v2 H locs ls hf
      rw [f_X0_placeOf_2] at hf
      cases hf
    | succ n ih =>
      intro v2 H locs ls hf hP hS hl
      rw [f_X0_placeOf_2] at hf
      refine lv_iload_n hx hb dX0_placeOf_2 rfl (lv_at hl 2 rfl) ?_
      refine lv_aload_n hx hb dX0_placeOf_3 rfl (lv_at hl 0 rfl) ?_
      refine gf_X0_19 hx hb hts hown hK hP hd dX0_placeOf_4 ?_
      refine lv_icmp_ge (tgt := 27) hx hb dX0_placeOf_7 (by decide) (fun c1 => ?_) (fun c1 => ?_)
      · have hf := if_t c1 hf
        refine lv_iconst (v := (-1 : Int32)) hx hb dX0_placeOf_27 (by decide) ?_
        exact W.iret (v := (-1 : Int32)) hx hb hr (fun t ht hW => ⟨⟨(-1 : Int32), (), rfl, so1 hf, P_at ht hP⟩, hS.F ht⟩) hS.2.2 dX0_placeOf_28
      · have hf := if_f c1 hf
        refine lv_aload_n hx hb dX0_placeOf_10 rfl (lv_at hl 0 rfl) ?_
        refine lv_iload_n hx hb dX0_placeOf_11 rfl (lv_at hl 2 rfl) ?_
        obtain ⟨r3, q2, hf⟩ := bd_so hf
        refine cl_i (va_runV (As := [.int v2]) (rest := []) ⟨hx, hb, hml, hown, hts⟩ (c_X0_tripIn l g ad X _ sg d v2 hd r3 q2) (cwV 1 hts gl_X0_23 rfl rfl rfl yd_X0_tripIn ⟨Nat.le_of_ble_eq_true rfl, Nat.le_of_ble_eq_true rfl⟩) (preV_of hK hP (hD sg) (dd_at (Nat.lt_trans hd (by decide)) (cc_duty hd)) rfl) rfl rfl hl.1 rfl (lv_room (Nat.le_of_ble_eq_true rfl)) dX0_placeOf_12 ⟨Nat.le_of_ble_eq_true rfl, Nat.le_of_ble_eq_true rfl⟩) hS (fun q h => dd_A_mono hS.1 h) (fun q h => dd_A_mono hS.1 h) (fun H locs hP hS => ?_)
        refine lv_iload_n hx hb dX0_placeOf_15 rfl (lv_at hl 1 rfl) ?_
        refine lv_icmp_ne (tgt := 21) hx hb dX0_placeOf_16 (by decide) (fun c4 => ?_) (fun c4 => ?_)
        · have hf := if_f c4 hf
          obtain ⟨x5, ex5, hf⟩ := lt_ex hf
          refine lv_iinc (v := x5) (lv' := [(2, .int x5), (0, .ref (ad d)), (1, .int a1)]) hx hb dX0_placeOf_21 hl (k := 2) rfl (by rw [ex5]; rfl) (by decide) rfl (fun ls hl => ?_)
          refine lv_goto (tgt := 2) hx hb dX0_placeOf_24 (by decide) ?_
          exact ih x5 _ _ _ hf hP hS (lv_sub hl [1, 2, 0] rfl)
        · have hf := if_t c4 hf
          refine lv_iload_n hx hb dX0_placeOf_19 rfl (lv_at hl 2 rfl) ?_
          exact W.iret (v := v2) hx hb hr (fun t ht hW => ⟨⟨v2, (), rfl, so1 hf, P_at ht hP⟩, hS.F ht⟩) hS.2.2 dX0_placeOf_20
  unfold f_X0_placeOf at hf
  have hl := lv_entry ([.ref (ad d), .int a1]) (n := 3) (Nat.le_of_ble_eq_true rfl)
  rw [lg_entry_eq]
  generalize (lg_sl ([.ref (ad d), .int a1]) ++ List.replicate (3 - (lg_sl ([.ref (ad d), .int a1])).length) Slot.unset).toArray = ls at hl ⊢
  have hl : lv_has ls 3 [(0, .ref (ad d)), (1, .int a1)] := hl
  refine lv_iconst (v := (0 : Int32)) hx hb dX0_placeOf_0 (by decide) ?_
  refine lv_istore_n (lv' := [(2, .int (0 : Int32)), (0, .ref (ad d)), (1, .int a1)]) hx hb dX0_placeOf_1 rfl hl (by decide) rfl (fun ls hl => ?_)
  exact hL_2 64 (0 : Int32) _ _ _ hf hP hS (lv_sub hl [1, 2, 0] rfl)
set_option maxHeartbeats 4000000 in
set_option maxRecDepth 100000 in
theorem c_X0_append (l : Launch) (g : dd_G) (ad : Nat → Nat) (X : va_W) (sz : Nat) (sg : dd_S) (d : Nat) (a1 : Int32) (hd : d < 15) (s0 : dd_S) (hf : f_X0_append sg d a1 = some (s0)) : Met l yX0_append (lw_ws yX0_append cX0_append 2 (none)) ({ frames := 0, cells := 0, slots := 0, locals := 0 } : Room) (va_Pc [.ref (ad d), .int a1] (PreW g (WC g ad sg ++ X) sz)) (QV g (WC g ad s0 ++ X) (dd_A 59 ad X sz)) 0 0 (dd_A 59 ad X sz) := by
  refine Met.ofW (cc := cX0_append) (maxL := 2) (ret := none) (by decide) rfl ?_
  intro p e s m args below meth c s₁ B hml hv
  obtain ⟨rfl, rfl, hP, hK, hD0⟩ := hv
  have hx := B.exec
  have hb := B.bytes
  have hr := B.returns
  have hts := atoms_spec (ws := (lw_ws yX0_append cX0_append 2 (none))) B.pre
  have hts : ∀ w ∈ lw_all, w.before _ s = true := fun w h => hts w (List.mem_cons_of_mem _ h)
  have hown : s.vm.findClass RX0 = some m.cls := findClass_of_methodNamed B.named
  have hlocks := B.notSynchronized
  have hD : ∀ s2 : dd_S, va_D (dd_A 59 ad X s.heap.size) (WC g ad s2 ++ X) := fun s2 => dd_D (dd_A_D hD0)
  have hS : va_S (dd_A 59 ad X s.heap.size) s.heap s.heap [] := va_S.rf
  have hL_39 : ∀ (sg : dd_S) (H : Heap) (locs : List Loc) (ls : Array Slot), f_X0_append_39 d a1 sg = some (s0) → va_P g.1 vwCl (WC g ad sg ++ X) H → va_S (dd_A 59 ad X s.heap.size) s.heap H locs → lv_has ls 2 [] → W p l e (headSpec (lw_ws yX0_append cX0_append 2 (none)) ({ frames := 0, cells := 0, slots := 0, locals := 0 } : Room)).room s m ([.ref (ad d), .int a1] : List Value).toArray below meth c H locs 0 0 (MQ below (QV g (WC g ad s0 ++ X) (dd_A 59 ad X s.heap.size)) ([.ref (ad d), .int a1] : List Value).toArray s 0 0 (dd_A 59 ad X s.heap.size)) (F0 m 39 ls []) := by
    intro sg H locs ls hf hP hS hl
    unfold f_X0_append_39 at hf
    exact W.vret hx hb hr (fun t ht hW => ⟨⟨(), rfl, trivial, P_at2 (so1 hf) ht hP⟩, hS.F ht⟩) hS.2.2 dX0_append_39
  unfold f_X0_append at hf
  have hl := lv_entry ([.ref (ad d), .int a1]) (n := 2) (Nat.le_of_ble_eq_true rfl)
  rw [lg_entry_eq]
  generalize (lg_sl ([.ref (ad d), .int a1]) ++ List.replicate (2 - (lg_sl ([.ref (ad d), .int a1])).length) Slot.unset).toArray = ls at hl ⊢
  have hl : lv_has ls 2 [(0, .ref (ad d)), (1, .int a1)] := hl
  refine lv_aload_n hx hb dX0_append_0 rfl (lv_at hl 0 rfl) ?_
  refine gf_X0_19 hx hb hts hown hK hP hd dX0_append_1 ?_
  refine lv_if_lt (tgt := 39) hx hb dX0_append_4 (by decide) (fun c1 => ?_) (fun c1 => ?_)
  · have hf := if_t c1 hf
    exact hL_39 sg _ _ _ hf hP hS (lv_sub hl [] rfl)
  · have hf := if_f c1 hf
    refine lv_aload_n hx hb dX0_append_7 rfl (lv_at hl 0 rfl) ?_
    refine gf_X0_19 hx hb hts hown hK hP hd dX0_append_8 ?_
    refine lv_aload_n hx hb dX0_append_11 rfl (lv_at hl 0 rfl) ?_
    refine gf_X0_9 hx hb hts hown hK hP hd dX0_append_12 ?_
    refine W_alen (v := (40 : Int32)) hx hb hK hP (15 + d) (by omega) (cc_trips hd) 0 rfl (by decide) dX0_append_15 ?_
    refine lv_icmp_ge (tgt := 39) hx hb dX0_append_16 (by decide) (fun c2 => ?_) (fun c2 => ?_)
    · have hf := if_t c2 hf
      exact hL_39 sg _ _ _ hf hP hS (lv_sub hl [] rfl)
    · have hf := if_f c2 hf
      refine lv_aload_n hx hb dX0_append_19 rfl (lv_at hl 0 rfl) ?_
      refine gf_X0_9 hx hb hts hown hK hP hd dX0_append_20 ?_
      refine lv_aload_n hx hb dX0_append_23 rfl (lv_at hl 0 rfl) ?_
      refine gf_X0_19 hx hb hts hown hK hP hd dX0_append_24 ?_
      refine lv_iload_n hx hb dX0_append_27 rfl (lv_at hl 1 rfl) ?_
      obtain ⟨hi3, hf⟩ := gd_so hf
      obtain ⟨sg4, esg4, hf⟩ := lt_ex hf
      refine W_iast hx hb hK hP hD hS (15 + d) (by omega) (fun _ => (cc_trips hd)) (ix_in hi3) dX0_append_28 (fun H locs hP hS => ?_)
      rw [← esg4] at hP
      refine lv_aload_n hx hb dX0_append_29 rfl (lv_at hl 0 rfl) ?_
      refine lv_dup hx hb dX0_append_30 rfl ?_
      refine gf_X0_19 hx hb hts hown hK hP hd dX0_append_31 ?_
      refine lv_iconst (v := (1 : Int32)) hx hb dX0_append_34 (by decide) ?_
      refine lv_iadd hx hb dX0_append_35 ?_
      obtain ⟨sg5, esg5, hf⟩ := lt_ex hf
      refine pf_X0_19 hx hb hts hown hK hP hD hS hd dX0_append_36 (fun H locs hP hS => ?_)
      rw [← esg5] at hP
      exact hL_39 sg5 _ _ _ hf hP hS (lv_sub hl [] rfl)
set_option maxHeartbeats 4000000 in
set_option maxRecDepth 100000 in
theorem c_X0_insert (l : Launch) (g : dd_G) (ad : Nat → Nat) (X : va_W) (sz : Nat) (sg : dd_S) (d : Nat) (a1 : Int32) (hd : d < 15) (r0 : Int32) (s0 : dd_S) (hf : f_X0_insert sg d a1 = some (r0, s0)) : Met l yX0_insert (lw_ws yX0_insert cX0_insert 7 (some .boolean)) ({ frames := 1, cells := 0, slots := 0, locals := 21 } : Room) (va_Pc [.ref (ad d), .int a1, .ref (ad 31)] (PreW g (WC g ad sg ++ X) sz)) (QI g (WC g ad s0 ++ X) (dd_A 59 ad X sz) r0) 0 0 (dd_A 59 ad X sz) := by
  refine Met.ofW (cc := cX0_insert) (maxL := 7) (ret := some .boolean) (by decide) rfl ?_
  intro p e s m args below meth c s₁ B hml hv
  obtain ⟨rfl, rfl, hP, hK, hD0⟩ := hv
  have hx := B.exec
  have hb := B.bytes
  have hr := B.returns
  have hts := atoms_spec (ws := (lw_ws yX0_insert cX0_insert 7 (some .boolean))) B.pre
  have hts : ∀ w ∈ lw_all, w.before _ s = true := fun w h => hts w (List.mem_cons_of_mem _ h)
  have hown : s.vm.findClass RX0 = some m.cls := findClass_of_methodNamed B.named
  have hlocks := B.notSynchronized
  have hD : ∀ s2 : dd_S, va_D (dd_A 59 ad X s.heap.size) (WC g ad s2 ++ X) := fun s2 => dd_D (dd_A_D hD0)
  have hS : va_S (dd_A 59 ad X s.heap.size) s.heap s.heap [] := va_S.rf
  have hL_86 : ∀ (sg : dd_S) (H : Heap) (locs : List Loc) (ls : Array Slot), f_X0_insert_86 d a1 sg = some (r0, s0) → va_P g.1 vwCl (WC g ad sg ++ X) H → va_S (dd_A 59 ad X s.heap.size) s.heap H locs → lv_has ls 7 [] → W p l e (headSpec (lw_ws yX0_insert cX0_insert 7 (some .boolean)) ({ frames := 1, cells := 0, slots := 0, locals := 21 } : Room)).room s m ([.ref (ad d), .int a1, .ref (ad 31)] : List Value).toArray below meth c H locs 0 0 (MQ below (QI g (WC g ad s0 ++ X) (dd_A 59 ad X s.heap.size) r0) ([.ref (ad d), .int a1, .ref (ad 31)] : List Value).toArray s 0 0 (dd_A 59 ad X s.heap.size)) (F0 m 86 ls []) := by
    intro sg H locs ls hf hP hS hl
    unfold f_X0_insert_86 at hf
    refine lv_iconst (v := (0 : Int32)) hx hb dX0_insert_86 (by decide) ?_
    exact W.zret (v := (0 : Int32)) hx hb hr rfl (fun t ht hW => ⟨⟨(0 : Int32), (), rfl, (so2 hf).1, P_at2 (so2 hf).2 ht hP⟩, hS.F ht⟩) hS.2.2 dX0_insert_87
  have hL_94 : ∀ (n : Nat), ∀ (sg : dd_S) (v4 : Int32) (v6 : Int32) (H : Heap) (locs : List Loc) (ls : Array Slot), f_X0_insert_94 d a1 n sg v4 v6 = some (r0, s0) → va_P g.1 vwCl (WC g ad sg ++ X) H → va_S (dd_A 59 ad X s.heap.size) s.heap H locs → lv_has ls 7 [(0, .ref (ad d)), (1, .int a1), (4, .int v4), (6, .int v6)] → W p l e (headSpec (lw_ws yX0_insert cX0_insert 7 (some .boolean)) ({ frames := 1, cells := 0, slots := 0, locals := 21 } : Room)).room s m ([.ref (ad d), .int a1, .ref (ad 31)] : List Value).toArray below meth c H locs 0 0 (MQ below (QI g (WC g ad s0 ++ X) (dd_A 59 ad X s.heap.size) r0) ([.ref (ad d), .int a1, .ref (ad 31)] : List Value).toArray s 0 0 (dd_A 59 ad X s.heap.size)) (F0 m 94 ls []) := by
    intro n
    induction n with
    | zero =>
      intro sg v4 v6 H locs ls hf
      rw [f_X0_insert_94] at hf
      cases hf
    | succ n ih =>
      intro sg v4 v6 H locs ls hf hP hS hl
      rw [f_X0_insert_94] at hf
      refine lv_iload hx hb dX0_insert_94 (lv_at hl 3 rfl) ?_
      refine lv_iload hx hb dX0_insert_96 (lv_at hl 2 rfl) ?_
      refine lv_icmp_le (tgt := 123) hx hb dX0_insert_98 (by decide) (fun c18 => ?_) (fun c18 => ?_)
      · have hf := if_t c18 hf
        refine lv_aload_n hx hb dX0_insert_123 rfl (lv_at hl 0 rfl) ?_
        refine gf_X0_9 hx hb hts hown hK hP hd dX0_insert_124 ?_
        refine lv_iload hx hb dX0_insert_127 (lv_at hl 2 rfl) ?_
        refine lv_iload_n hx hb dX0_insert_129 rfl (lv_at hl 1 rfl) ?_
        obtain ⟨hi19, hf⟩ := gd_so hf
        obtain ⟨sg20, esg20, hf⟩ := lt_ex hf
        refine W_iast hx hb hK hP hD hS (15 + d) (by omega) (fun _ => (cc_trips hd)) (ix_in hi19) dX0_insert_130 (fun H locs hP hS => ?_)
        rw [← esg20] at hP
        refine lv_aload_n hx hb dX0_insert_131 rfl (lv_at hl 0 rfl) ?_
        refine lv_dup hx hb dX0_insert_132 rfl ?_
        refine gf_X0_19 hx hb hts hown hK hP hd dX0_insert_133 ?_
        refine lv_iconst (v := (1 : Int32)) hx hb dX0_insert_136 (by decide) ?_
        refine lv_iadd hx hb dX0_insert_137 ?_
        obtain ⟨sg21, esg21, hf⟩ := lt_ex hf
        refine pf_X0_19 hx hb hts hown hK hP hD hS hd dX0_insert_138 (fun H locs hP hS => ?_)
        rw [← esg21] at hP
        refine lv_iconst (v := (1 : Int32)) hx hb dX0_insert_141 (by decide) ?_
        exact W.zret (v := (1 : Int32)) hx hb hr rfl (fun t ht hW => ⟨⟨(1 : Int32), (), rfl, (so2 hf).1, P_at2 (so2 hf).2 ht hP⟩, hS.F ht⟩) hS.2.2 dX0_insert_142
      · have hf := if_f c18 hf
        refine lv_aload_n hx hb dX0_insert_101 rfl (lv_at hl 0 rfl) ?_
        refine gf_X0_9 hx hb hts hown hK hP hd dX0_insert_102 ?_
        refine lv_iload hx hb dX0_insert_105 (lv_at hl 3 rfl) ?_
        refine lv_aload_n hx hb dX0_insert_107 rfl (lv_at hl 0 rfl) ?_
        refine gf_X0_9 hx hb hts hown hK hP hd dX0_insert_108 ?_
        refine lv_iload hx hb dX0_insert_111 (lv_at hl 3 rfl) ?_
        refine lv_iconst (v := (1 : Int32)) hx hb dX0_insert_113 (by decide) ?_
        refine lv_isub hx hb dX0_insert_114 ?_
        obtain ⟨hi22, hf⟩ := gd_so hf
        refine W_iald hx hb hK hP (15 + d) (by omega) (cc_trips hd) (ix_in hi22) dX0_insert_115 ?_
        obtain ⟨hi23, hf⟩ := gd_so hf
        obtain ⟨sg24, esg24, hf⟩ := lt_ex hf
        refine W_iast hx hb hK hP hD hS (15 + d) (by omega) (fun _ => (cc_trips hd)) (ix_in hi23) dX0_insert_116 (fun H locs hP hS => ?_)
        rw [← esg24] at hP
        obtain ⟨x25, ex25, hf⟩ := lt_ex hf
        refine lv_iinc (v := x25) (lv' := [(6, .int x25), (0, .ref (ad d)), (1, .int a1), (4, .int v4)]) hx hb dX0_insert_117 hl (k := 3) rfl (by rw [ex25]; rfl) (by decide) rfl (fun ls hl => ?_)
        refine lv_goto (tgt := 94) hx hb dX0_insert_120 (by decide) ?_
        exact ih sg24 v4 x25 _ _ _ hf hP hS (lv_sub hl [1, 2, 3, 0] rfl)
  have hL_67 : ∀ (sg : dd_S) (v4 : Int32) (t0 : Int32) (H : Heap) (locs : List Loc) (ls : Array Slot), f_X0_insert_67 d a1 sg v4 t0 = some (r0, s0) → va_P g.1 vwCl (WC g ad sg ++ X) H → va_S (dd_A 59 ad X s.heap.size) s.heap H locs → lv_has ls 7 [(0, .ref (ad d)), (1, .int a1), (4, .int v4)] → W p l e (headSpec (lw_ws yX0_insert cX0_insert 7 (some .boolean)) ({ frames := 1, cells := 0, slots := 0, locals := 21 } : Room)).room s m ([.ref (ad d), .int a1, .ref (ad 31)] : List Value).toArray below meth c H locs 0 0 (MQ below (QI g (WC g ad s0 ++ X) (dd_A 59 ad X s.heap.size) r0) ([.ref (ad d), .int a1, .ref (ad 31)] : List Value).toArray s 0 0 (dd_A 59 ad X s.heap.size)) (F0 m 67 ls [.int t0]) := by
    intro sg v4 t0 H locs ls hf hP hS hl
    unfold f_X0_insert_67 at hf
    refine lv_istore (lv' := [(5, .int t0), (0, .ref (ad d)), (1, .int a1), (4, .int v4)]) hx hb dX0_insert_67 hl (by decide) rfl (fun ls hl => ?_)
    refine lv_iload hx hb dX0_insert_69 (lv_at hl 0 rfl) ?_
    refine lv_if_ne (tgt := 86) hx hb dX0_insert_71 (by decide) (fun c16 => ?_) (fun c16 => ?_)
    · have hf := if_f c16 hf
      exact hL_86 sg _ _ _ hf hP hS (lv_sub hl [] rfl)
    · have hf := if_t c16 hf
      refine lv_aload_n hx hb dX0_insert_74 rfl (lv_at hl 1 rfl) ?_
      refine gf_X0_19 hx hb hts hown hK hP hd dX0_insert_75 ?_
      refine lv_aload_n hx hb dX0_insert_78 rfl (lv_at hl 1 rfl) ?_
      refine gf_X0_9 hx hb hts hown hK hP hd dX0_insert_79 ?_
      refine W_alen (v := (40 : Int32)) hx hb hK hP (15 + d) (by omega) (cc_trips hd) 0 rfl (by decide) dX0_insert_82 ?_
      refine lv_icmp_lt (tgt := 88) hx hb dX0_insert_83 (by decide) (fun c17 => ?_) (fun c17 => ?_)
      · have hf := if_t c17 hf
        refine lv_aload_n hx hb dX0_insert_88 rfl (lv_at hl 1 rfl) ?_
        refine gf_X0_19 hx hb hts hown hK hP hd dX0_insert_89 ?_
        refine lv_istore (lv' := [(6, .int (sg d 1)), (5, .int t0), (0, .ref (ad d)), (1, .int a1), (4, .int v4)]) hx hb dX0_insert_92 hl (by decide) rfl (fun ls hl => ?_)
        exact hL_94 64 sg v4 (sg d 1) _ _ _ hf hP hS (lv_sub hl [2, 3, 4, 0] rfl)
      · have hf := if_f c17 hf
        exact hL_86 sg _ _ _ hf hP hS (lv_sub hl [] rfl)
  have hL_66 : ∀ (sg : dd_S) (v4 : Int32) (H : Heap) (locs : List Loc) (ls : Array Slot), f_X0_insert_66 d a1 sg v4 = some (r0, s0) → va_P g.1 vwCl (WC g ad sg ++ X) H → va_S (dd_A 59 ad X s.heap.size) s.heap H locs → lv_has ls 7 [(0, .ref (ad d)), (1, .int a1), (4, .int v4)] → W p l e (headSpec (lw_ws yX0_insert cX0_insert 7 (some .boolean)) ({ frames := 1, cells := 0, slots := 0, locals := 21 } : Room)).room s m ([.ref (ad d), .int a1, .ref (ad 31)] : List Value).toArray below meth c H locs 0 0 (MQ below (QI g (WC g ad s0 ++ X) (dd_A 59 ad X s.heap.size) r0) ([.ref (ad d), .int a1, .ref (ad 31)] : List Value).toArray s 0 0 (dd_A 59 ad X s.heap.size)) (F0 m 66 ls []) := by
    intro sg v4 H locs ls hf hP hS hl
    unfold f_X0_insert_66 at hf
    refine lv_iconst (v := (0 : Int32)) hx hb dX0_insert_66 (by decide) ?_
    exact hL_67 sg v4 (0 : Int32) _ _ _ hf hP hS (lv_sub hl [0, 1, 2] rfl)
  have hL_39 : ∀ (sg : dd_S) (v3 : Int32) (v4 : Int32) (H : Heap) (locs : List Loc) (ls : Array Slot), f_X0_insert_39 d a1 sg v3 v4 = some (r0, s0) → va_P g.1 vwCl (WC g ad sg ++ X) H → va_S (dd_A 59 ad X s.heap.size) s.heap H locs → lv_has ls 7 [(0, .ref (ad d)), (1, .int a1), (2, .ref (ad 31)), (3, .int v3), (4, .int v4)] → W p l e (headSpec (lw_ws yX0_insert cX0_insert 7 (some .boolean)) ({ frames := 1, cells := 0, slots := 0, locals := 21 } : Room)).room s m ([.ref (ad d), .int a1, .ref (ad 31)] : List Value).toArray below meth c H locs 0 0 (MQ below (QI g (WC g ad s0 ++ X) (dd_A 59 ad X s.heap.size) r0) ([.ref (ad d), .int a1, .ref (ad 31)] : List Value).toArray s 0 0 (dd_A 59 ad X s.heap.size)) (F0 m 39 ls []) := by
    intro sg v3 v4 H locs ls hf hP hS hl
    unfold f_X0_insert_39 at hf
    refine lv_iload hx hb dX0_insert_39 (lv_at hl 4 rfl) ?_
    refine lv_aload_n hx hb dX0_insert_41 rfl (lv_at hl 0 rfl) ?_
    refine gf_X0_19 hx hb hts hown hK hP hd dX0_insert_42 ?_
    refine lv_icmp_ge (tgt := 66) hx hb dX0_insert_45 (by decide) (fun c10 => ?_) (fun c10 => ?_)
    · have hf := if_t c10 hf
      exact hL_66 sg v4 _ _ _ hf hP hS (lv_sub hl [0, 1, 4] rfl)
    · have hf := if_f c10 hf
      refine lv_aload_n hx hb dX0_insert_48 rfl (lv_at hl 2 rfl) ?_
      refine lv_aload_n hx hb dX0_insert_49 rfl (lv_at hl 0 rfl) ?_
      refine lv_iload hx hb dX0_insert_50 (lv_at hl 4 rfl) ?_
      obtain ⟨r12, q11, hf⟩ := bd_so hf
      refine cl_i (va_runV (As := [.int v4]) (rest := [.ref (ad 31)]) ⟨hx, hb, hml, hown, hts⟩ (c_X0_tripIn l g ad X _ sg d v4 hd r12 q11) (cwV 1 hts gl_X0_23 rfl rfl rfl yd_X0_tripIn ⟨Nat.le_of_ble_eq_true rfl, Nat.le_of_ble_eq_true rfl⟩) (preV_of hK hP (hD sg) (dd_at (Nat.lt_trans hd (by decide)) (cc_duty hd)) rfl) rfl rfl hl.1 rfl (lv_room (Nat.le_of_ble_eq_true rfl)) dX0_insert_52 ⟨Nat.le_of_ble_eq_true rfl, Nat.le_of_ble_eq_true rfl⟩) hS (fun q h => dd_A_mono hS.1 h) (fun q h => dd_A_mono hS.1 h) (fun H locs hP hS => ?_)
      obtain ⟨r14, q13, hf⟩ := bd_so hf
      refine cl_i (va_runV (As := [.int r12]) (rest := []) ⟨hx, hb, hml, hown, hts⟩ (c_X4_departureOf l g ad X _ sg r12 r14 q13) (cwV 1 hts gl_X0_27 rfl rfl rfl yd_X4_departureOf ⟨Nat.le_of_ble_eq_true rfl, Nat.le_of_ble_eq_true rfl⟩) (preV_of hK hP (hD sg) (dd_at (by decide) cc_31) rfl) rfl rfl hl.1 rfl (lv_room (Nat.le_of_ble_eq_true rfl)) dX0_insert_55 ⟨Nat.le_of_ble_eq_true rfl, Nat.le_of_ble_eq_true rfl⟩) hS (fun q h => dd_A_mono hS.1 h) (fun q h => dd_A_mono hS.1 h) (fun H locs hP hS => ?_)
      refine lv_iload_n hx hb dX0_insert_58 rfl (lv_at hl 3 rfl) ?_
      refine lv_icmp_ne (tgt := 66) hx hb dX0_insert_59 (by decide) (fun c15 => ?_) (fun c15 => ?_)
      · have hf := if_f c15 hf
        exact hL_66 sg v4 _ _ _ hf hP hS (lv_sub hl [0, 1, 4] rfl)
      · have hf := if_t c15 hf
        refine lv_iconst (v := (1 : Int32)) hx hb dX0_insert_62 (by decide) ?_
        refine lv_goto (tgt := 67) hx hb dX0_insert_63 (by decide) ?_
        exact hL_67 sg v4 (1 : Int32) _ _ _ hf hP hS (lv_sub hl [0, 1, 4] rfl)
  have hL_12 : ∀ (n : Nat), ∀ (sg : dd_S) (v3 : Int32) (v4 : Int32) (H : Heap) (locs : List Loc) (ls : Array Slot), f_X0_insert_12 d a1 n sg v3 v4 = some (r0, s0) → va_P g.1 vwCl (WC g ad sg ++ X) H → va_S (dd_A 59 ad X s.heap.size) s.heap H locs → lv_has ls 7 [(0, .ref (ad d)), (1, .int a1), (2, .ref (ad 31)), (3, .int v3), (4, .int v4)] → W p l e (headSpec (lw_ws yX0_insert cX0_insert 7 (some .boolean)) ({ frames := 1, cells := 0, slots := 0, locals := 21 } : Room)).room s m ([.ref (ad d), .int a1, .ref (ad 31)] : List Value).toArray below meth c H locs 0 0 (MQ below (QI g (WC g ad s0 ++ X) (dd_A 59 ad X s.heap.size) r0) ([.ref (ad d), .int a1, .ref (ad 31)] : List Value).toArray s 0 0 (dd_A 59 ad X s.heap.size)) (F0 m 12 ls []) := by
    intro n
    induction n with
    | zero =>
      intro sg v3 v4 H locs ls hf
      rw [f_X0_insert_12] at hf
      cases hf
    | succ n ih =>
      intro sg v3 v4 H locs ls hf hP hS hl
      rw [f_X0_insert_12] at hf
      refine lv_iload hx hb dX0_insert_12 (lv_at hl 4 rfl) ?_
      refine lv_if_le (tgt := 39) hx hb dX0_insert_14 (by decide) (fun c3 => ?_) (fun c3 => ?_)
      · have hf := if_t c3 hf
        exact hL_39 sg v3 v4 _ _ _ hf hP hS (lv_sub hl [0, 1, 2, 3, 4] rfl)
      · have hf := if_f c3 hf
        refine lv_aload_n hx hb dX0_insert_17 rfl (lv_at hl 2 rfl) ?_
        refine lv_aload_n hx hb dX0_insert_18 rfl (lv_at hl 0 rfl) ?_
        refine lv_iload hx hb dX0_insert_19 (lv_at hl 4 rfl) ?_
        refine lv_iconst (v := (1 : Int32)) hx hb dX0_insert_21 (by decide) ?_
        refine lv_isub hx hb dX0_insert_22 ?_
        obtain ⟨r5, q4, hf⟩ := bd_so hf
        refine cl_i (va_runV (As := [.int (v4 - (1 : Int32))]) (rest := [.ref (ad 31)]) ⟨hx, hb, hml, hown, hts⟩ (c_X0_tripIn l g ad X _ sg d (v4 - (1 : Int32)) hd r5 q4) (cwV 1 hts gl_X0_23 rfl rfl rfl yd_X0_tripIn ⟨Nat.le_of_ble_eq_true rfl, Nat.le_of_ble_eq_true rfl⟩) (preV_of hK hP (hD sg) (dd_at (Nat.lt_trans hd (by decide)) (cc_duty hd)) rfl) rfl rfl hl.1 rfl (lv_room (Nat.le_of_ble_eq_true rfl)) dX0_insert_23 ⟨Nat.le_of_ble_eq_true rfl, Nat.le_of_ble_eq_true rfl⟩) hS (fun q h => dd_A_mono hS.1 h) (fun q h => dd_A_mono hS.1 h) (fun H locs hP hS => ?_)
        obtain ⟨r7, q6, hf⟩ := bd_so hf
        refine cl_i (va_runV (As := [.int r5]) (rest := []) ⟨hx, hb, hml, hown, hts⟩ (c_X4_departureOf l g ad X _ sg r5 r7 q6) (cwV 1 hts gl_X0_27 rfl rfl rfl yd_X4_departureOf ⟨Nat.le_of_ble_eq_true rfl, Nat.le_of_ble_eq_true rfl⟩) (preV_of hK hP (hD sg) (dd_at (by decide) cc_31) rfl) rfl rfl hl.1 rfl (lv_room (Nat.le_of_ble_eq_true rfl)) dX0_insert_26 ⟨Nat.le_of_ble_eq_true rfl, Nat.le_of_ble_eq_true rfl⟩) hS (fun q h => dd_A_mono hS.1 h) (fun q h => dd_A_mono hS.1 h) (fun H locs hP hS => ?_)
        refine lv_iload_n hx hb dX0_insert_29 rfl (lv_at hl 3 rfl) ?_
        refine lv_icmp_lt (tgt := 39) hx hb dX0_insert_30 (by decide) (fun c8 => ?_) (fun c8 => ?_)
        · have hf := if_t c8 hf
          exact hL_39 sg v3 v4 _ _ _ hf hP hS (lv_sub hl [0, 1, 2, 3, 4] rfl)
        · have hf := if_f c8 hf
          obtain ⟨x9, ex9, hf⟩ := lt_ex hf
          refine lv_iinc (v := x9) (lv' := [(4, .int x9), (0, .ref (ad d)), (1, .int a1), (2, .ref (ad 31)), (3, .int v3)]) hx hb dX0_insert_33 hl (k := 4) rfl (by rw [ex9]; rfl) (by decide) rfl (fun ls hl => ?_)
          refine lv_goto (tgt := 12) hx hb dX0_insert_36 (by decide) ?_
          exact ih sg v3 x9 _ _ _ hf hP hS (lv_sub hl [1, 2, 3, 4, 0] rfl)
  unfold f_X0_insert at hf
  have hl := lv_entry ([.ref (ad d), .int a1, .ref (ad 31)]) (n := 7) (Nat.le_of_ble_eq_true rfl)
  rw [lg_entry_eq]
  generalize (lg_sl ([.ref (ad d), .int a1, .ref (ad 31)]) ++ List.replicate (7 - (lg_sl ([.ref (ad d), .int a1, .ref (ad 31)])).length) Slot.unset).toArray = ls at hl ⊢
  have hl : lv_has ls 7 [(0, .ref (ad d)), (1, .int a1), (2, .ref (ad 31))] := hl
  refine lv_aload_n hx hb dX0_insert_0 rfl (lv_at hl 2 rfl) ?_
  refine lv_iload_n hx hb dX0_insert_1 rfl (lv_at hl 1 rfl) ?_
  obtain ⟨r2, q1, hf⟩ := bd_so hf
  refine cl_i (va_runV (As := [.int a1]) (rest := []) ⟨hx, hb, hml, hown, hts⟩ (c_X4_departureOf l g ad X _ sg a1 r2 q1) (cwV 1 hts gl_X0_27 rfl rfl rfl yd_X4_departureOf ⟨Nat.le_of_ble_eq_true rfl, Nat.le_of_ble_eq_true rfl⟩) (preV_of hK hP (hD sg) (dd_at (by decide) cc_31) rfl) rfl rfl hl.1 rfl (lv_room (Nat.le_of_ble_eq_true rfl)) dX0_insert_2 ⟨Nat.le_of_ble_eq_true rfl, Nat.le_of_ble_eq_true rfl⟩) hS (fun q h => dd_A_mono hS.1 h) (fun q h => dd_A_mono hS.1 h) (fun H locs hP hS => ?_)
  refine lv_istore_n (lv' := [(3, .int r2), (0, .ref (ad d)), (1, .int a1), (2, .ref (ad 31))]) hx hb dX0_insert_5 rfl hl (by decide) rfl (fun ls hl => ?_)
  refine lv_aload_n hx hb dX0_insert_6 rfl (lv_at hl 1 rfl) ?_
  refine gf_X0_19 hx hb hts hown hK hP hd dX0_insert_7 ?_
  refine lv_istore (lv' := [(4, .int (sg d 1)), (3, .int r2), (0, .ref (ad d)), (1, .int a1), (2, .ref (ad 31))]) hx hb dX0_insert_10 hl (by decide) rfl (fun ls hl => ?_)
  exact hL_12 64 sg r2 (sg d 1) _ _ _ hf hP hS (lv_sub hl [2, 3, 4, 1, 0] rfl)
