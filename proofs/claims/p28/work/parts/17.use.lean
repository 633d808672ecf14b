abbrev QD (g : dd_G) (ws : va_W) (A : Nat → Prop) (r0 : UInt64) : Array Value → State → Outcome → State → Prop := va_Qd (fun (r : UInt64) (_ : Unit) => alike64 r r0 = true) (fun _ t => va_P g.1 vwCl ws t.heap) A
def f_X5_use_35 (sg : dd_S) (k_4 : Int32 → Int32 → Option (UInt64)) (v1 : Int32) (v2 : Int32) : Option (UInt64) := lt (v2 + (1 : Int32)) (fun x14 : Int32 => k_4 v1 x14)
def f_X5_use_45 (sg : dd_S) : Nat → Int32 → Int32 → Int32 → Option (UInt64)
  | 0, _, _, _ => none
  | n + 1, v1, v2, v3 => if (sg 30 5) ≤ v3 then (if v2 = (0 : Int32) then (some FP.dconst0) else (some (FP.ddiv (FP.i2d v1) (FP.i2d v2)))) else (bd (f_X5_dutyAt sg v3) (fun r11 : Nat => lt (v2 + (sg r11 4)) (fun x12 : Int32 => lt (v3 + (1 : Int32)) (fun x13 : Int32 => f_X5_use_45 sg n v1 x12 x13))))
def f_X5_use_4 (sg : dd_S) : Nat → Int32 → Int32 → Option (UInt64)
  | 0, _, _ => none
  | n + 1, v1, v2 => if (sg 31 5) ≤ v2 then (f_X5_use_45 sg 64 v1 (0 : Int32) (0 : Int32)) else (bd (f_X5_dutyOf sg v2) (fun r3 : Int32 => if r3 = (-1 : Int32) then (f_X5_use_35 sg (fun z0 z1 => f_X5_use_4 sg n z0 z1) v1 v2) else (bd (f_X4_minutesOf sg v2) (fun r6 : Int32 => lt (v1 + r6) (fun x7 : Int32 => f_X5_use_35 sg (fun z0 z1 => f_X5_use_4 sg n z0 z1) x7 v2)))))
def f_X5_use (sg : dd_S) : Option (UInt64) := f_X5_use_4 sg 64 (0 : Int32) (0 : Int32)
theorem qw_286 : Cond.methodLink RX5 258 yX4_minutesOf ∈ lw_all := lw_in 506 (by decide +kernel) rfl
theorem gl_X5_258 : GoodIn lw_all (wsV RX5 258 RX4 yX4_minutesOf (lw_ws yX4_minutesOf cX4_minutesOf 2 (some .int))) := lw_gV qw_286 qw_45 qw_46 qw_10 qw_47
set_option maxHeartbeats 4000000 in
set_option maxRecDepth 100000 in
theorem c_X5_use (l : Launch) (g : dd_G) (ad : Nat → Nat) (X : va_W) (sz : Nat) (sg : dd_S) (r0 : UInt64) (hf : f_X5_use sg = some (r0)) : MetD lw_cs l yX5_use (lw_ws yX5_use cX5_use 4 (some .double)) ({ frames := 1, cells := 0, slots := 0, locals := 22 } : Room) (va_Pc [.ref (ad 30)] (PreW g (WC g ad sg ++ X) sz)) (QD g (WC g ad sg ++ X) (dd_A 59 ad X sz) r0) 0 0 (dd_A 59 ad X sz) := by
  refine MetD.ofW (cc := cX5_use) (maxL := 4) (ret := some .double) (by decide) rfl ?_
  intro p e s m args below meth c s₁ B hml hv hd0
  obtain ⟨rfl, rfl, hP, hK, hD0⟩ := hv
  have hx := B.exec
  have hb := B.bytes
  have hr := B.returns
  have hts := atoms_spec (ws := (lw_ws yX5_use cX5_use 4 (some .double))) B.pre
  have hts : ∀ w ∈ lw_all, w.before _ s = true := fun w h => hts w (List.mem_cons_of_mem _ h)
  have hown : s.vm.findClass RX5 = some m.cls := findClass_of_methodNamed B.named
  have hlocks := B.notSynchronized
  have hD : ∀ s2 : dd_S, va_D (dd_A 59 ad X s.heap.size) (WC g ad s2 ++ X) := fun s2 => dd_D (dd_A_D hD0)
  have hS : va_S (dd_A 59 ad X s.heap.size) s.heap s.heap [] := va_S.rf
  change W p l e _ s m _ below meth c _ _ _ _ _ _
  have hL_35 : ∀ (k_4 : Int32 → Int32 → Option (UInt64)) (hk_4 : ∀ (v1 : Int32) (v2 : Int32) (H : Heap) (locs : List Loc) (ls : Array Slot), k_4 v1 v2 = some (r0) → va_P g.1 vwCl (WC g ad sg ++ X) H → va_S (dd_A 59 ad X s.heap.size) s.heap H locs → lv_has ls 4 [(0, .ref (ad 30)), (1, .int v1), (2, .int v2)] → W p l e (headSpec (lw_ws yX5_use cX5_use 4 (some .double)) ({ frames := 1, cells := 0, slots := 0, locals := 22 } : Room)).room s m ([.ref (ad 30)] : List Value).toArray below meth c H locs 0 0 (MQD lw_cs below (QD g (WC g ad sg ++ X) (dd_A 59 ad X s.heap.size) r0) ([.ref (ad 30)] : List Value).toArray s 0 0 (dd_A 59 ad X s.heap.size)) (F0 m 4 ls [])), ∀ (v1 : Int32) (v2 : Int32) (H : Heap) (locs : List Loc) (ls : Array Slot), f_X5_use_35 sg k_4 v1 v2 = some (r0) → va_P g.1 vwCl (WC g ad sg ++ X) H → va_S (dd_A 59 ad X s.heap.size) s.heap H locs → lv_has ls 4 [(0, .ref (ad 30)), (1, .int v1), (2, .int v2)] → W p l e (headSpec (lw_ws yX5_use cX5_use 4 (some .double)) ({ frames := 1, cells := 0, slots := 0, locals := 22 } : Room)).room s m ([.ref (ad 30)] : List Value).toArray below meth c H locs 0 0 (MQD lw_cs below (QD g (WC g ad sg ++ X) (dd_A 59 ad X s.heap.size) r0) ([.ref (ad 30)] : List Value).toArray s 0 0 (dd_A 59 ad X s.heap.size)) (F0 m 35 ls []) := by
    intro k_4 hk_4 v1 v2 H locs ls hf hP hS hl
    unfold f_X5_use_35 at hf
    obtain ⟨x14, ex14, hf⟩ := lt_ex hf
    refine lv_iinc (v := x14) (lv' := [(2, .int x14), (0, .ref (ad 30)), (1, .int v1)]) hx hb dX5_use_35 hl (k := 2) rfl (by rw [ex14]; rfl) (by decide) rfl (fun ls hl => ?_)
    refine lv_goto (tgt := 4) hx hb dX5_use_38 (by decide) ?_
    exact hk_4 v1 x14 _ _ _ hf hP hS (lv_sub hl [1, 2, 0] rfl)
  have hL_45 : ∀ (n : Nat), ∀ (v1 : Int32) (v2 : Int32) (v3 : Int32) (H : Heap) (locs : List Loc) (ls : Array Slot), f_X5_use_45 sg n v1 v2 v3 = some (r0) → va_P g.1 vwCl (WC g ad sg ++ X) H → va_S (dd_A 59 ad X s.heap.size) s.heap H locs → lv_has ls 4 [(0, .ref (ad 30)), (1, .int v1), (2, .int v2), (3, .int v3)] → W p l e (headSpec (lw_ws yX5_use cX5_use 4 (some .double)) ({ frames := 1, cells := 0, slots := 0, locals := 22 } : Room)).room s m ([.ref (ad 30)] : List Value).toArray below meth c H locs 0 0 (MQD lw_cs below (QD g (WC g ad sg ++ X) (dd_A 59 ad X s.heap.size) r0) ([.ref (ad 30)] : List Value).toArray s 0 0 (dd_A 59 ad X s.heap.size)) (F0 m 45 ls []) := by
    intro n
    induction n with
    | zero =>
      intro v1 v2 v3 H locs ls hf
      rw [f_X5_use_45] at hf
      cases hf
    | succ n ih =>
      intro v1 v2 v3 H locs ls hf hP hS hl
      rw [f_X5_use_45] at hf
      refine lv_iload_n hx hb dX5_use_45 rfl (lv_at hl 3 rfl) ?_
      refine lv_aload_n hx hb dX5_use_46 rfl (lv_at hl 0 rfl) ?_
      refine gf_X5_137 hx hb hts hown hK hP dX5_use_47 ?_
      refine lv_icmp_ge (tgt := 70) hx hb dX5_use_50 (by decide) (fun c8 => ?_) (fun c8 => ?_)
      · have hf := if_t c8 hf
        refine lv_iload_n hx hb dX5_use_70 rfl (lv_at hl 2 rfl) ?_
        refine lv_if_ne (tgt := 78) hx hb dX5_use_71 (by decide) (fun c9 => ?_) (fun c9 => ?_)
        · have hf := if_f c9 hf
          refine lv_iload_n hx hb dX5_use_78 rfl (lv_at hl 1 rfl) ?_
          refine lv_i2d hx hb dX5_use_79 ?_
          refine lv_iload_n hx hb dX5_use_80 rfl (lv_at hl 2 rfl) ?_
          refine lv_i2d hx hb dX5_use_81 ?_
          refine W.base ?_
          refine lv_ddiv_any hd0 lw_bits hx hb dX5_use_82 (fun r d1 hal hd1 => ?_)
          refine W.endD hd1 ?_
          have e1 := so1 hf
          rw [← e1]
          exact W.dret (v := r) hx hb hr (fun t ht hW => ⟨⟨r, (), rfl, hal, P_at ht hP⟩, hS.F ht⟩) hS.2.2 dX5_use_83
        · have hf := if_t c9 hf
          refine lv_dconst0 hx hb dX5_use_74 ?_
          refine lv_goto (tgt := 83) hx hb dX5_use_75 (by decide) ?_
          refine W.base ?_
          refine W.endD hd0 ?_
          have e1 := so1 hf
          rw [← e1]
          exact W.dret (v := FP.dconst0) hx hb hr (fun t ht hW => ⟨⟨FP.dconst0, (), rfl, (by decide), P_at ht hP⟩, hS.F ht⟩) hS.2.2 dX5_use_83
      · have hf := if_f c8 hf
        refine lv_iload_n hx hb dX5_use_53 rfl (lv_at hl 2 rfl) ?_
        refine lv_aload_n hx hb dX5_use_54 rfl (lv_at hl 0 rfl) ?_
        refine lv_iload_n hx hb dX5_use_55 rfl (lv_at hl 3 rfl) ?_
        obtain ⟨r11, q10, hf⟩ := bd_so hf
        refine cl_r (va_runV (As := [.int v3]) (rest := [.int v2]) ⟨hx, hb, hml, hown, hts⟩ (c_X5_dutyAt l g ad X _ sg v3 r11 q10) (cwV 1 hts gl_X5_164 rfl rfl rfl yd_X5_dutyAt ⟨Nat.le_of_ble_eq_true rfl, Nat.le_of_ble_eq_true rfl⟩) (preV_of hK hP (hD sg) (dd_at (by decide) cc_30) rfl) rfl rfl hl.1 rfl (lv_room (Nat.le_of_ble_eq_true rfl)) dX5_use_56 ⟨Nat.le_of_ble_eq_true rfl, Nat.le_of_ble_eq_true rfl⟩) hS (fun q h => dd_A_mono hS.1 h) (fun q h => dd_A_mono hS.1 h) (fun H locs hP hS => ?_)
        have hr11 := lt_X5_dutyAt q10
        refine gf_X5_261 hx hb hts hown hK hP hr11 dX5_use_59 ?_
        refine lv_iadd hx hb dX5_use_62 ?_
        refine lv_topi (fun x12 ex12 => ?_)
        have hf := lt_so ex12 hf
        refine lv_istore_n (lv' := [(2, .int x12), (0, .ref (ad 30)), (1, .int v1), (3, .int v3)]) hx hb dX5_use_63 rfl hl (by decide) rfl (fun ls hl => ?_)
        obtain ⟨x13, ex13, hf⟩ := lt_ex hf
        refine lv_iinc (v := x13) (lv' := [(3, .int x13), (2, .int x12), (0, .ref (ad 30)), (1, .int v1)]) hx hb dX5_use_64 hl (k := 3) rfl (by rw [ex13]; rfl) (by decide) rfl (fun ls hl => ?_)
        refine lv_goto (tgt := 45) hx hb dX5_use_67 (by decide) ?_
        exact ih v1 x12 x13 _ _ _ hf hP hS (lv_sub hl [2, 3, 1, 0] rfl)
  have hL_4 : ∀ (n : Nat), ∀ (v1 : Int32) (v2 : Int32) (H : Heap) (locs : List Loc) (ls : Array Slot), f_X5_use_4 sg n v1 v2 = some (r0) → va_P g.1 vwCl (WC g ad sg ++ X) H → va_S (dd_A 59 ad X s.heap.size) s.heap H locs → lv_has ls 4 [(0, .ref (ad 30)), (1, .int v1), (2, .int v2)] → W p l e (headSpec (lw_ws yX5_use cX5_use 4 (some .double)) ({ frames := 1, cells := 0, slots := 0, locals := 22 } : Room)).room s m ([.ref (ad 30)] : List Value).toArray below meth c H locs 0 0 (MQD lw_cs below (QD g (WC g ad sg ++ X) (dd_A 59 ad X s.heap.size) r0) ([.ref (ad 30)] : List Value).toArray s 0 0 (dd_A 59 ad X s.heap.size)) (F0 m 4 ls []) := by
    intro n
    induction n with
    | zero =>
      intro v1 v2 H locs ls hf
      rw [f_X5_use_4] at hf
      cases hf
    | succ n ih =>
      intro v1 v2 H locs ls hf hP hS hl
      rw [f_X5_use_4] at hf
      refine lv_iload_n hx hb dX5_use_4 rfl (lv_at hl 2 rfl) ?_
      refine lv_aload_n hx hb dX5_use_5 rfl (lv_at hl 0 rfl) ?_
      refine gf_X5_10 hx hb hts hown hK hP dX5_use_6 ?_
      refine gf_X5_96 hx hb hts hown hK hP dX5_use_9 ?_
      refine lv_icmp_ge (tgt := 41) hx hb dX5_use_12 (by decide) (fun c1 => ?_) (fun c1 => ?_)
      · have hf := if_t c1 hf
        refine lv_iconst (v := (0 : Int32)) hx hb dX5_use_41 (by decide) ?_
        refine lv_istore_n (lv' := [(2, .int (0 : Int32)), (0, .ref (ad 30)), (1, .int v1)]) hx hb dX5_use_42 rfl hl (by decide) rfl (fun ls hl => ?_)
        refine lv_iconst (v := (0 : Int32)) hx hb dX5_use_43 (by decide) ?_
        refine lv_istore_n (lv' := [(3, .int (0 : Int32)), (2, .int (0 : Int32)), (0, .ref (ad 30)), (1, .int v1)]) hx hb dX5_use_44 rfl hl (by decide) rfl (fun ls hl => ?_)
        exact hL_45 64 v1 (0 : Int32) (0 : Int32) _ _ _ hf hP hS (lv_sub hl [2, 3, 1, 0] rfl)
      · have hf := if_f c1 hf
        refine lv_aload_n hx hb dX5_use_15 rfl (lv_at hl 0 rfl) ?_
        refine lv_iload_n hx hb dX5_use_16 rfl (lv_at hl 2 rfl) ?_
        obtain ⟨r3, q2, hf⟩ := bd_so hf
        refine cl_i (va_runV (As := [.int v2]) (rest := []) ⟨hx, hb, hml, hown, hts⟩ (c_X5_dutyOf l g ad X _ sg v2 r3 q2) (cwV 1 hts gl_X5_174 rfl rfl rfl yd_X5_dutyOf ⟨Nat.le_of_ble_eq_true rfl, Nat.le_of_ble_eq_true rfl⟩) (preV_of hK hP (hD sg) (dd_at (by decide) cc_30) rfl) rfl rfl hl.1 rfl (lv_room (Nat.le_of_ble_eq_true rfl)) dX5_use_17 ⟨Nat.le_of_ble_eq_true rfl, Nat.le_of_ble_eq_true rfl⟩) hS (fun q h => dd_A_mono hS.1 h) (fun q h => dd_A_mono hS.1 h) (fun H locs hP hS => ?_)
        refine lv_iconst (v := (-1 : Int32)) hx hb dX5_use_20 (by decide) ?_
        refine lv_icmp_eq (tgt := 35) hx hb dX5_use_21 (by decide) (fun c4 => ?_) (fun c4 => ?_)
        · have hf := if_t c4 hf
          exact hL_35 (fun z0 z1 => f_X5_use_4 sg n z0 z1) ih v1 v2 _ _ _ hf hP hS (lv_sub hl [0, 1, 2] rfl)
        · have hf := if_f c4 hf
          refine lv_iload_n hx hb dX5_use_24 rfl (lv_at hl 1 rfl) ?_
          refine lv_aload_n hx hb dX5_use_25 rfl (lv_at hl 0 rfl) ?_
          refine gf_X5_10 hx hb hts hown hK hP dX5_use_26 ?_
          refine lv_iload_n hx hb dX5_use_29 rfl (lv_at hl 2 rfl) ?_
          obtain ⟨r6, q5, hf⟩ := bd_so hf
          refine cl_i (va_runV (As := [.int v2]) (rest := [.int v1]) ⟨hx, hb, hml, hown, hts⟩ (c_X4_minutesOf l g ad X _ sg v2 r6 q5) (cwV 1 hts gl_X5_258 rfl rfl rfl yd_X4_minutesOf ⟨Nat.le_of_ble_eq_true rfl, Nat.le_of_ble_eq_true rfl⟩) (preV_of hK hP (hD sg) (dd_at (by decide) cc_31) rfl) rfl rfl hl.1 rfl (lv_room (Nat.le_of_ble_eq_true rfl)) dX5_use_30 ⟨Nat.le_of_ble_eq_true rfl, Nat.le_of_ble_eq_true rfl⟩) hS (fun q h => dd_A_mono hS.1 h) (fun q h => dd_A_mono hS.1 h) (fun H locs hP hS => ?_)
          refine lv_iadd hx hb dX5_use_33 ?_
          refine lv_topi (fun x7 ex7 => ?_)
          have hf := lt_so ex7 hf
          refine lv_istore_n (lv' := [(1, .int x7), (0, .ref (ad 30)), (2, .int v2)]) hx hb dX5_use_34 rfl hl (by decide) rfl (fun ls hl => ?_)
          exact hL_35 (fun z0 z1 => f_X5_use_4 sg n z0 z1) ih x7 v2 _ _ _ hf hP hS (lv_sub hl [1, 0, 2] rfl)
  unfold f_X5_use at hf
  have hl := lv_entry ([.ref (ad 30)]) (n := 4) (Nat.le_of_ble_eq_true rfl)
  rw [lg_entry_eq]
  generalize (lg_sl ([.ref (ad 30)]) ++ List.replicate (4 - (lg_sl ([.ref (ad 30)])).length) Slot.unset).toArray = ls at hl ⊢
  have hl : lv_has ls 4 [(0, .ref (ad 30))] := hl
  refine lv_iconst (v := (0 : Int32)) hx hb dX5_use_0 (by decide) ?_
  refine lv_istore_n (lv' := [(1, .int (0 : Int32)), (0, .ref (ad 30))]) hx hb dX5_use_1 rfl hl (by decide) rfl (fun ls hl => ?_)
  refine lv_iconst (v := (0 : Int32)) hx hb dX5_use_2 (by decide) ?_
  refine lv_istore_n (lv' := [(2, .int (0 : Int32)), (1, .int (0 : Int32)), (0, .ref (ad 30))]) hx hb dX5_use_3 rfl hl (by decide) rfl (fun ls hl => ?_)
  exact hL_4 64 (0 : Int32) (0 : Int32) _ _ _ hf hP hS (lv_sub hl [2, 1, 0] rfl)
