theorem qw_389 : Cond.instantiable RX5 12 ∈ lw_all := lw_in 51 (by decide +kernel) rfl
theorem qw_390 : Cond.classLink RL 20 RX5 ∈ lw_all := lw_in 50 (by decide +kernel) rfl
theorem qw_391 : Cond.code yX5_init cX5_init 3 (none) ∈ lw_all := lw_in 54 (by decide +kernel) rfl
theorem qw_392 : Cond.methodLink RL 25 yX5_init ∈ lw_all := lw_in 52 (by decide +kernel) rfl
theorem qw_393 : Cond.instanceMethod yX5_init ∈ lw_all := lw_in 53 (by decide +kernel) rfl
theorem qw_394 : Cond.methodLink RL 26 yL_trips ∈ lw_all := lw_in 602 (by decide +kernel) rfl
theorem qw_395 : Cond.static yL_trips ∈ lw_all := lw_in 603 (by decide +kernel) rfl
theorem qw_396 : Cond.code yL_trips cL_trips 7 (some .int) ∈ lw_all := lw_in 604 (by decide +kernel) rfl
theorem qw_397 : Cond.methodLink RL 68 yX5_use ∈ lw_all := lw_in 502 (by decide +kernel) rfl
theorem qw_398 : Cond.instanceMethod yX5_use ∈ lw_all := lw_in 503 (by decide +kernel) rfl
theorem qw_399 : Cond.selects RX5 yX5_use yX5_use ∈ lw_all := lw_in 504 (by decide +kernel) rfl
theorem qw_400 : Cond.code yX5_use cX5_use 4 (some .double) ∈ lw_all := lw_in 505 (by decide +kernel) rfl
theorem yd_X5_init : yX5_init.cls ≠ "java/lang/invoke/MethodHandle" ∧ yX5_init.cls ≠ "java/lang/invoke/VarHandle" ∧ (parseMethodDescriptor yX5_init.desc).map (fun d => d.parameters.length) = some 0 := by decide +kernel
theorem gl_L_26 : GoodIn lw_all (wsS RL 26 yL_trips (lw_ws yL_trips cL_trips 7 (some .int))) := lw_gS qw_394 qw_395 qw_332 qw_396
theorem yd_L_trips : yL_trips.cls = RL ∧ yL_trips.cls ≠ "java/lang/invoke/MethodHandle" ∧ yL_trips.cls ≠ "java/lang/invoke/VarHandle" ∧ (parseMethodDescriptor yL_trips.desc).map (fun d => d.parameters.length) = some 5 := by decide +kernel
theorem gl_L_68 : GoodIn lw_all (wsV RL 68 RX5 yX5_use (lw_ws yX5_use cX5_use 4 (some .double))) := lw_gV qw_397 qw_398 qw_399 qw_88 qw_400
theorem yd_X5_use : yX5_use.cls = RX5 ∧ yX5_use.cls ≠ "java/lang/invoke/MethodHandle" ∧ yX5_use.cls ≠ "java/lang/invoke/VarHandle" ∧ (parseMethodDescriptor yX5_use.desc).map (fun d => d.parameters.length) = some 0 := by decide +kernel
/-! THE CLAIM OUT OF ONE WALK OF THE LAW'S BODY. Your part is whole_start (and what it stands on); all else here is the same for every law, but numbers. -/
def R_law : String := "DutyDeskLaw"
def lw_P (b : Addr) (xs : List Int32) (args : Array Value) (s : State) : Prop := args = #[.ref b] ∧ s.IntsAt b xs ∧ xs.length ≤ 260 ∧ (Jvm.Cond.and given_1 narrow_1).before args s = true
/-- what a walk over the start with the record d0 says of its end, said of the start itself -/
theorem lw_closed {s t : State} {o : Outcome} {d0 : Drawn} {L : List Loc} {k n : Nat} (hd0 : s.drawn.sameBut d0 lw_cs) (hv : ∃ v, o = .returned v) (hW : (s.setDrawn d0).WarmedH t.vm) (hs : (s.setDrawn d0).sameButNew ({ t with vm := s.vm } : State) L k n) : State.butDraws s t lw_cs (fun t1 => Framed s o t1 L k n) := by
  have h2 : t.drawn = d0 := congrArg State.drawn hs.1
  refine ⟨⟨hv, hW, State.sameButNew.setDrawn hs s.drawn⟩, ?_, by decide⟩
  rw [h2]
  exact hd0
def lw_Q (_ : Array Value) (s : State) (o : Outcome) (t : State) : Prop := o = .returned (some (.int 1)) ∧ State.butDraws s t lw_cs (fun t1 => Framed s o t1 [] 600104 7301314)
def lw_Z (below : List Frame) (a : Array Value) (s : State) : State → Prop := fun t => ∃ o, t.status = .running ∧ Ended t below o ∧ lw_Q a s o t
/-- the law's own end, with 1 on the stack, nothing written that was there before, its room as the claim has it; d0: the record of draws at this point (at the entry s.drawn: begin with 'refine W.base ?_' and 'have hd0 := Drawn.sameBut.refl s.drawn lw_cs') -/
theorem lw_ret {p : Program} {l : Launch} {e : Env} {s : State} {m : MethodId} {below : List Frame} {meth : Method} {c : Code} {b : Nat} {d0 : Drawn} (hd0 : s.drawn.sameBut d0 lw_cs) (hx : p.tables.exec = Jvm.exec) (hb : c.code = code) (hr : meth.sig.returnType = ret) (hlocks : meth.locks = false) {pc : Nat} {H : Heap} {ls : Array Slot} (hdg : decode code pc = .ok (.ireturn, 1)) : W p l e room_1 (s.setDrawn d0) m #[Value.ref b] below meth c H [] 600104 7301314 (lw_Z below #[Value.ref b] s) (F0 m pc ls [.int 1]) := by
  intro T hT X
  obtain ⟨fs, hret, hrun, hended, hW, hframe⟩ := X.leave (v := some (.int 1)) (hlocks := hlocks) (fun h => by rw [hr] at h; cases h)
  have hmeth' : T.vm.method? m = some meth := X.method'
  refine ⟨T.setFrames fs, ?_, .returned (some (.int 1)), hrun, hended, rfl, lw_closed hd0 ⟨_, rfl⟩ hW hframe⟩
  jvm_step X.here [X.here.top, hx, hb, hdg, hmeth', hr, ret, narrow_b1]
  (try refine ⟨rfl, ?_⟩); (try refine ⟨rfl, ?_⟩)
  first | (intro acts; rw [hret _ acts rfl rfl rfl]) | rw [hret _ _ rfl rfl rfl]
  exact Steps.refl _
/-- what holds at the law's entry: the machine, the code, the tables' words (any of lw_tbl by 'hts w (by decide +kernel)'), the script of L ints xs at the cell b, what the Statement gives of the start (any of its parts by flat_of_before) -/
def lw_At (p : Program) (s : State) (m : MethodId) (meth : Method) (c : Code) (b L : Nat) (xs : Nat → Int32) : Prop :=
  p.tables.exec = Jvm.exec ∧ c.code = code ∧ meth.sig.returnType = ret ∧ c.maxLocals = 18 ∧ s.vm.findClass R_law = some m.cls ∧ (∀ w ∈ lw_tbl, w.before #[Value.ref b] s = true) ∧ va_X b L xs s s.heap ∧ b < s.heap.size ∧ meth.locks = false ∧ (Jvm.Cond.and given_1 narrow_1).before #[Value.ref b] s = true
theorem st_arr {ty : FieldType} {args : Array Value} {s : State} (h : (Cond.arrayClass ty).before args s = true) : ∃ cA : ClassId, ArrOfT s cA ty ∧ s.vm.findClass ("[" ++ ty.toString) = some cA := by
  obtain ⟨cA, kA, comp, h1, h2, h3⟩ := Cond.arrayClass_spec h
  exact ⟨cA, fun n z => ⟨fun k h => (by cases h), kA, h2, comp, h3⟩, h1⟩
theorem st_overC {C : String} {args : Array Value} {s : State} (h : (Cond.arrayOver (.object C)).before args s = true) : ∃ cA : ClassId, ArrOfT s cA (.object C) ∧ va_RA s cA (.object C) := by
  obtain ⟨comp, cA, kA, h1, h2, h3, h4, h5⟩ := Cond.arrayOver_spec h
  exact ⟨cA, fun n z => ⟨fun k h => (by cases h), kA, h3, comp, h4⟩, kA, comp, h3, h4, h1, h5⟩
theorem st_overA {ty : FieldType} {args : Array Value} {s : State} (h : (Cond.arrayOver (.array ty)).before args s = true) : ∃ cA : ClassId, ArrOfT s cA (.array ty) ∧ s.vm.findClass ("[" ++ (FieldType.array ty).toString) = some cA := by
  simp only [Cond.before, Cond.holds, Cond.value, beq_iff_eq] at h
  cases hc : s.vm.findClass (FieldType.array ty).toString with
  | none => simp [hc] at h
  | some comp =>
    simp only [hc, Option.bind_some, Option.bind_eq_some_iff, Option.map_eq_some_iff] at h
    obtain ⟨c, hi, k, hk, hb⟩ := h
    cases hkind : k.kind with
    | array component ty2 =>
      rw [hkind] at hb
      simp at hb
      obtain ⟨e1, e2⟩ := hb
      subst e1
      exact ⟨c, fun n z => ⟨fun k h => (by cases h), k, hk, component, hkind⟩, e2⟩
    | _ => rw [hkind] at hb; simp at hb
theorem st_nest {w : Cond} (h : nw_is w = true) : w.onTables = true := by
  cases w <;> first | rfl | (simp [nw_is] at h; done)
set_option maxHeartbeats 4000000 in
set_option maxRecDepth 100000 in
theorem st_facts {s : State} {b : Nat} (hts0 : ∀ w ∈ lw_tbl, w.before #[Value.ref b] s = true) : ∃ g : dd_G, KC g s ∧ AO s := by
  have hts : ∀ w ∈ lw_all, w.before #[Value.ref b] s = true := fun w h => hts0 w (List.mem_filter.mp h).1
  have htb : ∀ w ∈ tables_1, w.before #[Value.ref b] s = true := fun w h => hts0 w (List.mem_append_right _ h)
  obtain ⟨c0, i0, k0⟩ := u_known (C := RX0) (T := TX0) (N := 9) (n := 9) hts inw_X0 (hts _ qw_314)
  obtain ⟨c1, i1, k1⟩ := u_known (C := RX1) (T := TX1) (N := 4) (n := 4) hts inw_X1 (hts _ qw_324)
  obtain ⟨c2, i2, k2⟩ := u_known (C := RX2) (T := TX2) (N := 3) (n := 3) hts inw_X2 (hts _ qw_319)
  obtain ⟨c3, i3, k3⟩ := u_known (C := RX3) (T := TX3) (N := 4) (n := 4) hts inw_X3 (hts _ qw_307)
  obtain ⟨c4, i4, k4⟩ := u_known (C := RX4) (T := TX4) (N := 6) (n := 6) hts inw_X4 (hts _ qw_302)
  obtain ⟨c5, i5, k5⟩ := u_known (C := RX5) (T := TX5) (N := 12) (n := 12) hts inw_X5 (hts _ qw_389)
  obtain ⟨aI, aI1, aI2⟩ := st_arr (ty := .int) (htb _ (by decide +kernel))
  obtain ⟨aQ, aQ1, aQ2⟩ := st_overC (C := RX0) (htb _ (by decide +kernel))
  obtain ⟨aA, aA1, aA2⟩ := st_overA (ty := .int) (htb _ (by decide +kernel))
  refine ⟨((fun k => [c0, c1, c2, c3, c4, c5].getD k c0, fun k => [i0, i1, i2, i3, i4, i5].getD k i0), aI, aQ, aA), ⟨⟨?_, ?_⟩, ?_⟩, ?_, ?_⟩
  · intro k q hq
    match k, hq with
    | 0, hq => cases hq; exact k0
    | 1, hq => cases hq; exact k1
    | 2, hq => cases hq; exact k2
    | 3, hq => cases hq; exact k3
    | 4, hq => cases hq; exact k4
    | 5, hq => cases hq; exact k5
    | k + 6, hq => simp at hq
  · intro k q hq
    match k, hq with
    | 0, hq => cases hq; exact ⟨aI1, aI2⟩
    | 1, hq => cases hq; exact ⟨aQ1, aQ2⟩
    | 2, hq => cases hq; exact ⟨aA1, aA2⟩
    | k + 3, hq => simp at hq
  · exact fun w hw => va_Nw.of (st_nest (List.mem_filter.mp hw).2) (htb w (List.mem_filter.mp hw).1)
  · exact va_AO.of (A := #[Value.ref b]) (htb _ (by decide +kernel))
  · exact show (Cond.arrayOver (.array .int)).before #[Value.ref b] s = true from htb _ (by decide +kernel)
set_option maxHeartbeats 4000000 in
set_option maxRecDepth 100000 in
theorem law_K {p : Program} {e : Env} {s : State} {m : MethodId} {below : List Frame} {meth : Method} {c : Code} (l : Launch) {b L : Nat} {xs : Nat → Int32} (C0 : lw_At p s m meth c b L xs) {tS s0 s1 s2 : dd_S} {tm1 : Nat → Int32} {c0 r0 : Int32} {u0 : UInt64} (hft : f_X4_init_50 64 (fun _ _ => 0) 0 = some tS) (hf5 : f_X5_init_142 64 (sg5 tS) 0 = some s0) (hc0 : f_L_cell s0 L xs 0 = some c0) (hb0 : f_L_below s0 c0 25 = some r0) (htr : f_L_trips s0 (fun _ => 0) L xs 1 (10 + r0) = some (s1, tm1)) (hlw : f_L_law_42 L xs s1 (10 + r0) = some s2) (hus : f_X5_use s2 = some u0) (hge : ∀ y : UInt64, alike64 y u0 = true → ¬ Op.cmpValue (FP.dcmp y FP.dconst0) CmpOp.l < 0) (hle : ∀ y : UInt64, alike64 y u0 = true → ¬ (0 : Int32) < Op.cmpValue (FP.dcmp y FP.dconst1) CmpOp.g) : W p l e room_1 s m #[Value.ref b] below meth c s.heap [] 0 0 (lw_Z below #[Value.ref b] s) (entryFrame m ([Value.ref b] : List Value).toArray 18) := by
  obtain ⟨hx, hb, hr, hml, hown, hts0, hX, hbl, hlocks, hgv⟩ := id C0
  have hb9 : c.code = code := hb
  have hb : c.code = cL_law := hb
  have hts : ∀ w ∈ lw_all, w.before #[Value.ref b] s = true := fun w h => hts0 w (List.mem_filter.mp h).1
  obtain ⟨g, hK, hAO⟩ := st_facts hts0
  have hA : ∀ q : Nat, s.heap.size ≤ q → lA s q := fun _ h => h
  have hbA : ¬ lA s b := Nat.not_le.mpr hbl
  have hS : va_S (lA s) s.heap s.heap [] := va_S.rf
  have hP : va_P g.1 vwCl [] s.heap := fun k q h => by simp at h
  have hD : va_D (lA s) [] := ⟨fun i j p q h => by simp at h, fun k q h => by simp at h⟩
  have hl := lv_entry ([.ref b]) (n := 18) (Nat.le_of_ble_eq_true rfl)
  rw [lg_entry_eq]
  generalize (lg_sl ([.ref b]) ++ List.replicate (18 - (lg_sl ([.ref b])).length) Slot.unset).toArray = ls at hl ⊢
  have hl : lv_has ls 18 [(0, .ref b)] := hl
  refine va_new (ci := 5) (fs := [.null, .null, .null, .null, .null, .int 0, .int 0, .null, .null, .null, .null, .null]) (C := RX5) (T := TX5) (N := 12) hx hb hts inw_X5 tyX5 tyX5_ok hown (hts _ qw_390) (hts _ qw_389) (hts _ qw_88) hK.1 hP hD hS hA rfl (fun j hj => by rcases (show j = 0 ∨ j = 1 ∨ j = 2 ∨ j = 3 ∨ j = 4 ∨ j = 5 ∨ j = 6 ∨ j = 7 ∨ j = 8 ∨ j = 9 ∨ j = 10 ∨ j = 11 by omega) with rfl | rfl | rfl | rfl | rfl | rfl | rfl | rfl | rfl | rfl | rfl | rfl <;> rfl) (Nat.le_of_ble_eq_true rfl) (Nat.le_of_ble_eq_true rfl) dL_law_0 (fun q1 H hP hD hS => ?_)
  refine W.widen (k := 1) (n := 12) (by decide) (by decide) ?_
  refine lv_dup hx hb dL_law_3 rfl ?_
  refine K_ctor (w0 := []) (va_runI (As := []) (rest := [.ref q1]) ⟨hx, hb, hml, hown, hts⟩ (c_X5_init l g q1 _ tS hft s0 hf5) (cwI 0 hts (lw_gi qw_391) rfl rfl rfl (hts _ qw_88) (hts _ qw_392) (hts _ qw_393) rfl yd_X5_init ⟨Nat.le_of_ble_eq_true rfl, Nat.le_of_ble_eq_true rfl⟩) (preSK hK hAO (P_last hP) (D_last hD)) rfl rfl hl.1 rfl (lv_room (Nat.le_of_ble_eq_true rfl)) dL_law_4 ⟨Nat.le_of_ble_eq_true rfl, Nat.le_of_ble_eq_true rfl⟩) hP hD hS hA (fun u2 H locs hu2 hP hD hS => ?_)
  have hP : va_P g.1 vwCl (WC g u2 s0 ++ []) H := hP
  have hD : va_D (lA s) (WC g u2 s0 ++ []) := hD
  refine W.widen (k := 59) (n := 1162) (by decide) (by decide) ?_
  refine lv_astore_n (lv' := [(1, .ref q1), (0, .ref b)]) hx hb dL_law_7 rfl hl (by decide) rfl (fun ls hl => ?_)
  refine lv_sipush (v := 160) hx hb dL_law_8 (by decide) ?_
  refine va_newa (atype := .int) (ty := .int) (a0 := (160, .inl (fun _ => 0))) hx hb (hts _ qw_296) rfl hK.1 hP hD hS hA (fun _ => rfl) (by decide) (by decide) (by decide) (Nat.le_of_ble_eq_true rfl) (Nat.le_of_ble_eq_true rfl) dL_law_11 (fun q0 cA0 H hKT hP hD hS => ?_)
  refine lv_astore_n (lv' := [(2, .ref q0), (1, .ref q1), (0, .ref b)]) hx hb dL_law_13 rfl hl (by decide) rfl (fun ls hl => ?_)
  refine W.widen (k := 100) (n := 10000) (Nat.le_of_ble_eq_true rfl) (Nat.le_of_ble_eq_true rfl) ?_
  have hP : va_P g.1 vwCl (WC g u2 s0 ++ [(q0, .inl (cA0, 160, .inl (fun _ => 0)))]) H := by simpa using hP
  have hD0 : va_D (lA s) (WC g u2 s0 ++ [(q0, .inl (cA0, 160, .inl (fun _ => 0)))]) := by simpa using hD
  have hD : ∀ (s2 : dd_S) (f : Nat → Int32), va_D (lA s) (WC g u2 s2 ++ [(q0, .inl (cA0, 160, .inl f))]) := fun s2 f => dd_ads hD0 (by simp [dd_wd])
  have hKT : KT g cA0 s := hKT
  rw [← hu2] at hl
  refine lv_bipush (v := 10) hx hb dL_law_14 (by decide) ?_
  refine lv_aload_n hx hb dL_law_16 rfl (lv_at hl 2 rfl) ?_
  refine lv_iconst (v := 0) hx hb dL_law_17 (by decide) ?_
  refine cl_i (va_runS (As := [.ref b, .int 0]) (rest := [.int 10]) ⟨hx, hb, hml, hown, hts⟩ (c_L_cell l g u2 [(q0, .inl (cA0, 160, .inl (fun _ => 0)))] _ s0 b L xs 0 (fun h => hbA (law_A hD0 hS.1 h)) c0 hc0) (cwS 2 hts gl_L_9 rfl rfl rfl yd_L_cell ⟨Nat.le_of_ble_eq_true rfl, Nat.le_of_ble_eq_true rfl⟩) (preZ_of hK hP hD0 hX hbl hbA hS) rfl rfl hl.1 rfl (lv_room (Nat.le_of_ble_eq_true rfl)) dL_law_18 ⟨Nat.le_of_ble_eq_true rfl, Nat.le_of_ble_eq_true rfl⟩) hS (fun q h => law_A hD0 hS.1 h) (fun q h => law_A hD0 hS.1 h) (fun H locs hP hS => ?_)
  refine lv_bipush (v := 25) hx hb dL_law_21 (by decide) ?_
  refine cl_i (va_runS (As := [.int c0, .int 25]) (rest := [.int 10]) ⟨hx, hb, hml, hown, hts⟩ (c_L_below l g u2 [(q0, .inl (cA0, 160, .inl (fun _ => 0)))] _ s0 c0 25 r0 hb0) (cwS 2 hts gl_L_15 rfl rfl rfl yd_L_below ⟨Nat.le_of_ble_eq_true rfl, Nat.le_of_ble_eq_true rfl⟩) (preS_of hK hP hD0) rfl rfl hl.1 rfl (lv_room (Nat.le_of_ble_eq_true rfl)) dL_law_23 ⟨Nat.le_of_ble_eq_true rfl, Nat.le_of_ble_eq_true rfl⟩) hS (fun q h => law_A hD0 hS.1 h) (fun q h => law_A hD0 hS.1 h) (fun H locs hP hS => ?_)
  refine lv_iadd hx hb dL_law_26 ?_
  refine lv_istore_n (lv' := [(3, .int (10 + r0)), (2, .ref q0), (1, .ref (u2 30)), (0, .ref b)]) hx hb dL_law_27 rfl hl (by decide) rfl (fun ls hl => ?_)
  refine lv_aload_n hx hb dL_law_28 rfl (lv_at hl 2 rfl) ?_
  refine lv_aload_n hx hb dL_law_29 rfl (lv_at hl 3 rfl) ?_
  refine lv_iconst (v := 1) hx hb dL_law_30 (by decide) ?_
  refine lv_iload_n hx hb dL_law_31 rfl (lv_at hl 0 rfl) ?_
  refine lv_aload_n hx hb dL_law_32 rfl (lv_at hl 1 rfl) ?_
  refine cl_i (va_runS (As := [.ref (u2 30), .ref b, .int 1, .int (10 + r0), .ref q0]) (rest := []) ⟨hx, hb, hml, hown, hts⟩ (c_L_trips l g u2 q0 cA0 (fun _ => 0) _ s0 b L xs 1 (10 + r0) (fun h => hbA (law_A hD0 hS.1 h)) s1 tm1 htr) (cwS 5 hts gl_L_26 rfl rfl rfl yd_L_trips ⟨Nat.le_of_ble_eq_true rfl, Nat.le_of_ble_eq_true rfl⟩) (preT_of hK hP hD0 hX hbl hbA hS hKT) rfl rfl hl.1 rfl (lv_room (Nat.le_of_ble_eq_true rfl)) dL_law_33 ⟨Nat.le_of_ble_eq_true rfl, Nat.le_of_ble_eq_true rfl⟩) hS (fun q h => law_A hD0 hS.1 h) (fun q h => law_A hD0 hS.1 h) (fun H locs hP hS => ?_)
  refine lv_iload_n hx hb dL_law_36 rfl (lv_at hl 0 rfl) ?_
  refine lv_icmp_eq (tgt := 42) hx hb dL_law_37 (by decide) (fun _ => ?_) (fun c9 => absurd rfl c9)
  refine sg_L_law (X := [(q0, .inl (cA0, 160, .inl tm1))]) hx hb hml hown hts hX hbl hbA hK (fun s2 => hD s2 tm1) s2 (fun H locs ls hP hS hl => ?_) s1 (10 + r0) H _ ls hlw hP hS (lv_sub hl [3, 2, 0] rfl)
  have hd0 := Drawn.sameBut.refl s.drawn lw_cs
  refine W.base ?_
  obtain ⟨d0, hdd⟩ : ∃ d0, d0 = s.drawn := ⟨_, rfl⟩
  rw [← hdd]
  have hd0 : s.drawn.sameBut d0 lw_cs := by rw [hdd]; exact Drawn.sameBut.refl s.drawn lw_cs
  have hts0 := dr_words hts d0
  have hK0 : KC g (s.setDrawn d0) := KC.same (s := s) (U := s.setDrawn d0) rfl hK
  refine lv_aload_n hx hb dL_law_611 rfl (lv_at hl 0 rfl) ?_
  refine cl_dD hd0 (va_runV_D (As := []) (rest := []) ⟨hx, hb, hml, hown, hts0⟩ (c_X5_use l g u2 [(q0, .inl (cA0, 160, .inl tm1))] _ s2 u0 hus) (cwV 0 hts0 gl_L_68 rfl rfl rfl yd_X5_use ⟨Nat.le_of_ble_eq_true rfl, Nat.le_of_ble_eq_true rfl⟩) (preV_of hK0 hP (hD s2 tm1) (dd_at (by decide) cc_30) rfl) rfl rfl hl.1 rfl (lv_room (Nat.le_of_ble_eq_true rfl)) dL_law_612 ⟨Nat.le_of_ble_eq_true rfl, Nat.le_of_ble_eq_true rfl⟩) hS (fun q h => law_A (hD s2 tm1) hS.1 h) (fun q h => law_A (hD s2 tm1) hS.1 h) (fun y0 H locs d1 hy0 hP hS hd1 => ?_)
  refine lv_dconst0 hx hb dL_law_615 ?_
  refine lv_dcmp hx hb dL_law_616 ?_
  refine lv_if_lt (tgt := 633) hx hb dL_law_617 (by decide) (fun c9 => absurd c9 (hge y0 hy0)) (fun _ => ?_)
  have hts1 := dr_words hts d1
  have hK1 : KC g (s.setDrawn d1) := KC.same (s := s) (U := s.setDrawn d1) rfl hK
  refine lv_aload_n hx hb dL_law_620 rfl (lv_at hl 0 rfl) ?_
  refine cl_dD hd1 (va_runV_D (As := []) (rest := []) ⟨hx, hb, hml, hown, hts1⟩ (c_X5_use l g u2 [(q0, .inl (cA0, 160, .inl tm1))] _ s2 u0 hus) (cwV 0 hts1 gl_L_68 rfl rfl rfl yd_X5_use ⟨Nat.le_of_ble_eq_true rfl, Nat.le_of_ble_eq_true rfl⟩) (preV_of hK1 hP (hD s2 tm1) (dd_at (by decide) cc_30) rfl) rfl rfl hl.1 rfl (lv_room (Nat.le_of_ble_eq_true rfl)) dL_law_621 ⟨Nat.le_of_ble_eq_true rfl, Nat.le_of_ble_eq_true rfl⟩) hS (fun q h => law_A (hD s2 tm1) hS.1 h) (fun q h => law_A (hD s2 tm1) hS.1 h) (fun y1 H locs d2 hy1 hP hS hd2 => ?_)
  refine lv_dconst1 hx hb dL_law_624 ?_
  refine lv_dcmp hx hb dL_law_625 ?_
  refine lv_if_gt (tgt := 633) hx hb dL_law_626 (by decide) (fun c9 => absurd c9 (hle y1 hy1)) (fun _ => ?_)
  refine lv_iconst (v := 1) hx hb dL_law_629 (by decide) ?_
  refine lv_goto (tgt := 634) hx hb dL_law_630 (by decide) ?_
  refine va_forget (fun q hq => hS.2.2 q hq) ?_
  refine W.widen (k := 600104) (n := 7301314) (Nat.le_of_ble_eq_true rfl) (Nat.le_of_ble_eq_true rfl) ?_
  exact lw_ret hd2 hx hb9 hr hlocks dL_law_634
