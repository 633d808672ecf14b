theorem qw_772 : Cond.instantiable RX5 12 ∈ lw_all := lw_in 81 (by decide +kernel) rfl
theorem qw_773 : Cond.instantiable RX6 25 ∈ lw_all := lw_in 808 (by decide +kernel) rfl
theorem qw_774 : Cond.classLink RL 8 RX5 ∈ lw_all := lw_in 80 (by decide +kernel) rfl
theorem qw_775 : Cond.code yX5_init cX5_init 3 (none) ∈ lw_all := lw_in 84 (by decide +kernel) rfl
theorem qw_776 : Cond.methodLink RL 80 yX5_init ∈ lw_all := lw_in 82 (by decide +kernel) rfl
theorem qw_777 : Cond.instanceMethod yX5_init ∈ lw_all := lw_in 83 (by decide +kernel) rfl
theorem qw_778 : Cond.classLink RL 81 RX6 ∈ lw_all := lw_in 807 (by decide +kernel) rfl
theorem qw_779 : Cond.code yX6_init cX6_init 2 (none) ∈ lw_all := lw_in 811 (by decide +kernel) rfl
theorem qw_780 : Cond.methodLink RL 83 yX6_init ∈ lw_all := lw_in 809 (by decide +kernel) rfl
theorem qw_781 : Cond.instanceMethod yX6_init ∈ lw_all := lw_in 810 (by decide +kernel) rfl
theorem qw_782 : Cond.arrayClass .long ∈ lw_all := lw_in 1108 (by decide +kernel) rfl
theorem yd_X5_init : yX5_init.cls ≠ "java/lang/invoke/MethodHandle" ∧ yX5_init.cls ≠ "java/lang/invoke/VarHandle" ∧ (parseMethodDescriptor yX5_init.desc).map (fun d => d.parameters.length) = some 0 := by decide +kernel
theorem yd_X6_init : yX6_init.cls ≠ "java/lang/invoke/MethodHandle" ∧ yX6_init.cls ≠ "java/lang/invoke/VarHandle" ∧ (parseMethodDescriptor yX6_init.desc).map (fun d => d.parameters.length) = some 0 := by decide +kernel
/-! THE CLAIM OUT OF ONE WALK OF THE LAW'S BODY. Your part is whole_start (and what it stands on); all else here is the same for every law, but numbers. -/
def R_law : String := "DutyDeskLaw"
def lw_P (b : Addr) (xs : List Int32) (args : Array Value) (s : State) : Prop := args = #[.ref b] ∧ s.IntsAt b xs ∧ xs.length ≤ 2560 ∧ (Jvm.Cond.and given_1 narrow_1).before args s = true
/-- what a walk over the start with the record d0 says of its end, said of the start itself -/
theorem lw_closed {s t : State} {o : Outcome} {d0 : Drawn} {L : List Loc} {k n : Nat} (hd0 : s.drawn.sameBut d0 lw_cs) (hv : ∃ v, o = .returned v) (hW : (s.setDrawn d0).WarmedH t.vm) (hs : (s.setDrawn d0).sameButNew ({ t with vm := s.vm } : State) L k n) : State.butDraws s t lw_cs (fun t1 => Framed s o t1 L k n) := by
  have h2 : t.drawn = d0 := congrArg State.drawn hs.1
  refine ⟨⟨hv, hW, State.sameButNew.setDrawn hs s.drawn⟩, ?_, by decide⟩
  rw [h2]
  exact hd0
def lw_Q (_ : Array Value) (s : State) (o : Outcome) (t : State) : Prop := o = .returned (some (.int 1)) ∧ State.butDraws s t lw_cs (fun t1 => Framed s o t1 [] 601024 7293034)
def lw_Z (below : List Frame) (a : Array Value) (s : State) : State → Prop := fun t => ∃ o, t.status = .running ∧ Ended t below o ∧ lw_Q a s o t
/-- the law's own end, with 1 on the stack, nothing written that was there before, its room as the claim has it; d0: the record of draws at this point (at the entry s.drawn: begin with 'refine W.base ?_' and 'have hd0 := Drawn.sameBut.refl s.drawn lw_cs') -/
theorem lw_ret {p : Program} {l : Launch} {e : Env} {s : State} {m : MethodId} {below : List Frame} {meth : Method} {c : Code} {b : Nat} {d0 : Drawn} (hd0 : s.drawn.sameBut d0 lw_cs) (hx : p.tables.exec = Jvm.exec) (hb : c.code = code) (hr : meth.sig.returnType = ret) (hlocks : meth.locks = false) {pc : Nat} {H : Heap} {ls : Array Slot} (hdg : decode code pc = .ok (.ireturn, 1)) : W p l e room_1 (s.setDrawn d0) m #[Value.ref b] below meth c H [] 601024 7293034 (lw_Z below #[Value.ref b] s) (F0 m pc ls [.int 1]) := by
  intro T hT X
  obtain ⟨fs, hret, hrun, hended, hW, hframe⟩ := X.leave (v := some (.int 1)) (hlocks := hlocks) (fun h => by rw [hr] at h; cases h)
  have hmeth' : T.vm.method? m = some meth := X.method'
  refine ⟨T.setFrames fs, ?_, .returned (some (.int 1)), hrun, hended, rfl, lw_closed hd0 ⟨_, rfl⟩ hW hframe⟩
  jvm_step X.here [X.here.top, hx, hb, hdg, hmeth', hr, ret, narrow_b1]
  (try refine ⟨rfl, ?_⟩); (try refine ⟨rfl, ?_⟩)
  first | (intro acts; rw [hret _ acts rfl rfl rfl]) | rw [hret _ _ rfl rfl rfl]
  exact Steps.refl _
/-- what holds at the law's entry: the machine, the code, the tables' words (any of lw_tbl by 'hts w (by decide +kernel)'), the script of L ints xs at the cell b, what the Statement gives of the start (any of its parts by flat_of_before) -/
def lw_At (p : Program) (s : State) (m : MethodId) (meth : Method) (c : Code) (b L : Nat) (xs : Nat → Int32) : Prop :=
  p.tables.exec = Jvm.exec ∧ c.code = code ∧ meth.sig.returnType = ret ∧ c.maxLocals = 9 ∧ s.vm.findClass R_law = some m.cls ∧ (∀ w ∈ lw_tbl, w.before #[Value.ref b] s = true) ∧ va_X b L xs s s.heap ∧ b < s.heap.size ∧ meth.locks = false ∧ (Jvm.Cond.and given_1 narrow_1).before #[Value.ref b] s = true
/-! the law from its entry: its loop, its start -/
def PO (Inv : dd_S → dd_S → Prop) : Prop := PO_setWay Inv ∧ PO_addTrip Inv ∧ PO_trip Inv ∧ PO_setRules Inv ∧ PO_count Inv ∧ PO_addDuty Inv ∧ PO_put Inv ∧ PO_takeOut Inv ∧ PO_duty Inv ∧ PO_tripAt Inv ∧ PO_bestFor Inv ∧ PO_plan Inv ∧ PO_swap Inv ∧ PO_improve Inv ∧ PO_pay Inv ∧ PO_use Inv ∧ PO_addDriver Inv ∧ PO_reason Inv ∧ PO_give Inv ∧ PO_takeBack Inv ∧ PO_given Inv ∧ PO_fill Inv ∧ PO_week Inv ∧ PO_rest Inv ∧ PO_digest Inv
theorem law_exit {i L : Nat} (hL : L ≤ 2560) (hi : i ≤ 512) (h : ¬ Int32.ofNat L - 5 < nI (5 * i)) : 5 * i + 5 ≤ L := by
  rcases Nat.lt_or_ge L (5 * i + 5) with q | q
  · refine absurd ?_ h
    have e : (Int32.ofNat L - 5).toInt = (L : Int) - 5 := by
      rw [Int32.toInt_sub, show (Int32.ofNat L).toInt = (L : Int) from nI_toInt (by omega), show (5 : Int32).toInt = 5 by decide]
      exact Int.bmod_eq_of_le (by omega) (by omega)
    rw [Int32.lt_iff_toInt_lt, e, nI_toInt (by omega)]
    omega
  · exact q
theorem law_D {A : Nat → Prop} {g : dd_G} {ad : Nat → Nat} {cJ : ClassId} {qo : Nat} {adM : Nat → Nat} {sC sM : dd_S} {o : Nat → Int64} (h : va_D A (LW g ad cJ qo adM sC sM o)) (sC2 sM2 : dd_S) (o2 : Nat → Int64) : va_D A (LW g ad cJ qo adM sC2 sM2 o2) := dd_ads h (by simp only [LW, dd_wd, List.map_append, List.map_cons, List.map_map]; rfl)
set_option maxHeartbeats 4000000 in
set_option maxRecDepth 100000 in
theorem law_loop {p : Program} {l : Launch} {e : Env} {s : State} {m : MethodId} {below : List Frame} {meth : Method} {c : Code} {b L : Nat} {xs : Nat → Int32} {g : dd_G} {cJ : ClassId} {ad adM : Nat → Nat} {qo : Nat} (hst : l.stackTraces = false) (hL : L ≤ 2560) (C0 : lw_At p s m meth c b L xs) (hK : KC g s) (hKJ : KJ g cJ s) (hNC : NC s) (hXF : XF (lA s) s s.heap) (hD : ∀ (sC sM : dd_S) (o : Nat → Int64), va_D (lA s) (LW g ad cJ qo adM sC sM o)) {Inv : dd_S → dd_S → Prop} (hPO : PO Inv) : ∀ (f i : Nat) (d0 : Drawn) (sC sM : dd_S) (o : Nat → Int64) (H : Heap) (locs : List Loc) (ls : Array Slot) (k n : Nat), i ≤ 512 → 512 < i + f → s.drawn.sameBut d0 lw_cs → Inv sC sM → k + (512 - i) * 110 ≤ 601024 → n + (512 - i) * 1000 ≤ 7293034 → va_P g.1 vwCl (LW g ad cJ qo adM sC sM o) H → va_S (lA s) s.heap H locs → lv_has ls 9 [(0, .ref b), (1, .ref (ad 30)), (2, .ref (adM 0)), (3, .ref qo), (4, .int (nI (5 * i)))] → W p l e room_1 (s.setDrawn d0) m #[Value.ref b] below meth c H locs k n (lw_Z below #[Value.ref b] s) (F0 m 23 ls []) := by
  obtain ⟨hx, hb, hr, hml, hown, hts0, hX, hbl, hlocks, hgv⟩ := id C0
  have hb9 : c.code = code := hb
  have hb : c.code = cL_law := hb
  have hts : ∀ w ∈ lw_all, w.before #[Value.ref b] s = true := fun w h => hts0 w (List.mem_filter.mp h).1
  have hbA : ¬ lA s b := Nat.not_le.mpr hbl
  obtain ⟨h_setWay, h_addTrip, h_trip, h_setRules, h_count, h_addDuty, h_put, h_takeOut, h_duty, h_tripAt, h_bestFor, h_plan, h_swap, h_improve, h_pay, h_use, h_addDriver, h_reason, h_give, h_takeBack, h_given, h_fill, h_week, h_rest, h_digest⟩ := hPO
  intro f
  induction f with
  | zero => intro i d0 sC sM o H locs ls k n hi hf; exact absurd hf (by omega)
  | succ f ih =>
    intro i d0 sC sM o H locs ls k n hi hf hd0 hI hk hn hP hS hl
    have hX1 : va_X b L xs (s.setDrawn d0) (s.setDrawn d0).heap := hX
    have htsd : ∀ w ∈ lw_all, w.before #[Value.ref b] (s.setDrawn d0) = true := dr_words hts d0
    have hKd : KC g (s.setDrawn d0) := KC.same (s := s) (U := s.setDrawn d0) rfl hK
    have hKJd : KJ g cJ (s.setDrawn d0) := va_K.moved (u := s) (U := s.setDrawn d0) (Vm.Alike.refl s.vm) hKJ
    have hNCd : NC (s.setDrawn d0) := NC.moved (u := s) (U := s.setDrawn d0) (Vm.Alike.refl s.vm) hNC
    have hXFd : XF (lA (s.setDrawn d0)) (s.setDrawn d0) (s.setDrawn d0).heap := XF.same (u := s) (U := s.setDrawn d0) rfl hXF
    have next : ∀ (d1 : Drawn) (sC2 sM2 : dd_S) (o2 : Nat → Int64) (H : Heap) (locs : List Loc) (ls : Array Slot), 5 * i + 5 ≤ L → s.drawn.sameBut d1 lw_cs → Inv sC2 sM2 → va_P g.1 vwCl (LW g ad cJ qo adM sC2 sM2 o2) H → va_S (lA s) s.heap H locs → lv_has ls 9 [(0, .ref b), (1, .ref (ad 30)), (2, .ref (adM 0)), (3, .ref qo), (4, .int (nI (5 * i)))] → W p l e room_1 (s.setDrawn d1) m #[Value.ref b] below meth c H locs (k + 110) (n + 1000) (lw_Z below #[Value.ref b] s) (F0 m 1594 ls []) := by
      intro d1 sC2 sM2 o2 H locs ls hi5 hd1 hI hP hS hl
      refine lv_iinc (v := nI (5 * (i + 1))) (lv' := [(4, .int (nI (5 * (i + 1)))), (0, .ref b), (1, .ref (ad 30)), (2, .ref (adM 0)), (3, .ref qo)]) hx hb dL_law_1594 hl (k := 4) rfl (by show nI (5 * i) + nI 5 = nI (5 * (i + 1)); rw [nI_add]; exact congrArg nI (by omega)) (by decide) rfl (fun ls hl => ?_)
      refine lv_goto (tgt := 23) hx hb dL_law_1597 (by decide) ?_
      exact ih (i + 1) d1 sC2 sM2 o2 H locs ls (k + 110) (n + 1000) (by omega) (by omega) hd1 hI (by omega) (by omega) hP hS (lv_sub hl [1, 2, 3, 4, 0] rfl)
    refine lv_iload hx hb dL_law_23 (lv_at hl 4 rfl) ?_
    refine lv_aload_n hx hb dL_law_25 rfl (lv_at hl 0 rfl) ?_
    refine va_slen (A := lA s) (H0 := s.heap) hx hb hX1 hbl hbA hS dL_law_26 ?_
    refine lv_iconst (v := 5) hx hb dL_law_27 (by decide) ?_
    refine lv_isub hx hb dL_law_28 ?_
    refine lv_icmp_gt (tgt := 1600) hx hb dL_law_29 (by decide) (fun _ => ?_) (fun c9 => ?_)
    · refine lv_iconst (v := 1) hx hb dL_law_1600 (by decide) ?_
      refine va_forget (fun q hq => hS.2.2 q hq) ?_
      refine W.widen (k := 601024) (n := 7293034) (by omega) (by omega) ?_
      exact lw_ret hd0 hx hb9 hr hlocks dL_law_1601
    · have hi5 : 5 * i + 5 ≤ L := law_exit hL hi c9
      refine lv_aload_n hx hb dL_law_32 rfl (lv_at hl 0 rfl) ?_
      refine lv_iload hx hb dL_law_33 (lv_at hl 4 rfl) ?_
      refine va_sld (A := lA s) (H0 := s.heap) hx hb hX1 hbl hbA hS (law_in hi5 hL 0 (by decide) rfl) dL_law_35 ?_
      refine lv_bipush (v := 31) hx hb dL_law_36 (by decide) ?_
      refine lv_iand hx hb dL_law_38 ?_
      refine lv_topi (fun x hx9 => ?_)
      by_cases hout : x.toInt < 0 ∨ 24 < x.toInt
      · refine lv_tableOut (tgt := 1594) hx hb dL_law_39 hout (by decide) ?_
        refine W.widen (k := k + 110) (n := n + 1000) (by omega) (by omega) ?_
        exact next d0 sC sM o H locs ls hi5 hd0 hI hP hS hl
      rcases (show x.toInt = 0 ∨ x.toInt = 1 ∨ x.toInt = 2 ∨ x.toInt = 3 ∨ x.toInt = 4 ∨ x.toInt = 5 ∨ x.toInt = 6 ∨ x.toInt = 7 ∨ x.toInt = 8 ∨ x.toInt = 9 ∨ x.toInt = 10 ∨ x.toInt = 11 ∨ x.toInt = 12 ∨ x.toInt = 13 ∨ x.toInt = 14 ∨ x.toInt = 15 ∨ x.toInt = 16 ∨ x.toInt = 17 ∨ x.toInt = 18 ∨ x.toInt = 19 ∨ x.toInt = 20 ∨ x.toInt = 21 ∨ x.toInt = 22 ∨ x.toInt = 23 ∨ x.toInt = 24 by omega) with hq | hq | hq | hq | hq | hq | hq | hq | hq | hq | hq | hq | hq | hq | hq | hq | hq | hq | hq | hq | hq | hq | hq | hq | hq
      · refine lv_tableIn (tgt := 152) (off := 113) hx hb dL_law_39 (by rw [hq]; decide) (by rw [hq]; decide) (by rw [hq]; rfl) (by decide) ?_
        exact law_setWay (s := s.setDrawn d0) hst hx hb hml hown htsd hX1 hbl hKd hKJd hNCd hXFd hD h_setWay hI hi5 hL (by omega) (by omega) hP hS hl (fun sC2 sM2 o2 H locs ls hI hP hS hl => next d0 sC2 sM2 o2 H locs ls hi5 hd0 hI hP hS hl)
      · refine lv_tableIn (tgt := 232) (off := 193) hx hb dL_law_39 (by rw [hq]; decide) (by rw [hq]; decide) (by rw [hq]; rfl) (by decide) ?_
        exact law_addTrip (s := s.setDrawn d0) hst hx hb hml hown htsd hX1 hbl hKd hKJd hNCd hXFd hD h_addTrip hI hi5 hL (by omega) (by omega) hP hS hl (fun sC2 sM2 o2 H locs ls hI hP hS hl => next d0 sC2 sM2 o2 H locs ls hi5 hd0 hI hP hS hl)
      · refine lv_tableIn (tgt := 324) (off := 285) hx hb dL_law_39 (by rw [hq]; decide) (by rw [hq]; decide) (by rw [hq]; rfl) (by decide) ?_
        exact law_trip (s := s.setDrawn d0) hst hx hb hml hown htsd hX1 hbl hKd hKJd hNCd hXFd hD h_trip hI hi5 hL (by omega) (by omega) hP hS hl (fun sC2 sM2 o2 H locs ls hI hP hS hl => next d0 sC2 sM2 o2 H locs ls hi5 hd0 hI hP hS hl)
      · refine lv_tableIn (tgt := 392) (off := 353) hx hb dL_law_39 (by rw [hq]; decide) (by rw [hq]; decide) (by rw [hq]; rfl) (by decide) ?_
        exact law_setRules (s := s.setDrawn d0) hst hx hb hml hown htsd hX1 hbl hKd hKJd hNCd hXFd hD h_setRules hI hi5 hL (by omega) (by omega) hP hS hl (fun sC2 sM2 o2 H locs ls hI hP hS hl => next d0 sC2 sM2 o2 H locs ls hi5 hd0 hI hP hS hl)
      · refine lv_tableIn (tgt := 484) (off := 445) hx hb dL_law_39 (by rw [hq]; decide) (by rw [hq]; decide) (by rw [hq]; rfl) (by decide) ?_
        exact law_count (s := s.setDrawn d0) hst hx hb hml hown htsd hX1 hbl hKd hKJd hNCd hXFd hD h_count hI hi5 hL (by omega) (by omega) hP hS hl (fun sC2 sM2 o2 H locs ls hI hP hS hl => next d0 sC2 sM2 o2 H locs ls hi5 hd0 hI hP hS hl)
      · refine lv_tableIn (tgt := 540) (off := 501) hx hb dL_law_39 (by rw [hq]; decide) (by rw [hq]; decide) (by rw [hq]; rfl) (by decide) ?_
        exact law_addDuty (s := s.setDrawn d0) hst hx hb hml hown htsd hX1 hbl hKd hKJd hNCd hXFd hD h_addDuty hI hi5 hL (by omega) (by omega) hP hS hl (fun sC2 sM2 o2 H locs ls hI hP hS hl => next d0 sC2 sM2 o2 H locs ls hi5 hd0 hI hP hS hl)
      · refine lv_tableIn (tgt := 584) (off := 545) hx hb dL_law_39 (by rw [hq]; decide) (by rw [hq]; decide) (by rw [hq]; rfl) (by decide) ?_
        exact law_put (s := s.setDrawn d0) hst hx hb hml hown htsd hX1 hbl hKd hKJd hNCd hXFd hD h_put hI hi5 hL (by omega) (by omega) hP hS hl (fun sC2 sM2 o2 H locs ls hI hP hS hl => next d0 sC2 sM2 o2 H locs ls hi5 hd0 hI hP hS hl)
      · refine lv_tableIn (tgt := 652) (off := 613) hx hb dL_law_39 (by rw [hq]; decide) (by rw [hq]; decide) (by rw [hq]; rfl) (by decide) ?_
        exact law_takeOut (s := s.setDrawn d0) hst hx hb hml hown htsd hX1 hbl hKd hKJd hNCd hXFd hD h_takeOut hI hi5 hL (by omega) (by omega) hP hS hl (fun sC2 sM2 o2 H locs ls hI hP hS hl => next d0 sC2 sM2 o2 H locs ls hi5 hd0 hI hP hS hl)
      · refine lv_tableIn (tgt := 708) (off := 669) hx hb dL_law_39 (by rw [hq]; decide) (by rw [hq]; decide) (by rw [hq]; rfl) (by decide) ?_
        exact law_duty (s := s.setDrawn d0) hst hx hb hml hown htsd hX1 hbl hKd hKJd hNCd hXFd hD h_duty hI hi5 hL (by omega) (by omega) hP hS hl (fun sC2 sM2 o2 H locs ls hI hP hS hl => next d0 sC2 sM2 o2 H locs ls hi5 hd0 hI hP hS hl)
      · refine lv_tableIn (tgt := 776) (off := 737) hx hb dL_law_39 (by rw [hq]; decide) (by rw [hq]; decide) (by rw [hq]; rfl) (by decide) ?_
        exact law_tripAt (s := s.setDrawn d0) hst hx hb hml hown htsd hX1 hbl hKd hKJd hNCd hXFd hD h_tripAt hI hi5 hL (by omega) (by omega) hP hS hl (fun sC2 sM2 o2 H locs ls hI hP hS hl => next d0 sC2 sM2 o2 H locs ls hi5 hd0 hI hP hS hl)
      · refine lv_tableIn (tgt := 844) (off := 805) hx hb dL_law_39 (by rw [hq]; decide) (by rw [hq]; decide) (by rw [hq]; rfl) (by decide) ?_
        exact law_bestFor (s := s.setDrawn d0) hst hx hb hml hown htsd hX1 hbl hKd hKJd hNCd hXFd hD h_bestFor hI hi5 hL (by omega) (by omega) hP hS hl (fun sC2 sM2 o2 H locs ls hI hP hS hl => next d0 sC2 sM2 o2 H locs ls hi5 hd0 hI hP hS hl)
      · refine lv_tableIn (tgt := 900) (off := 861) hx hb dL_law_39 (by rw [hq]; decide) (by rw [hq]; decide) (by rw [hq]; rfl) (by decide) ?_
        exact law_plan (s := s.setDrawn d0) hst hx hb hml hown htsd hX1 hbl hKd hKJd hNCd hXFd hD h_plan hI hi5 hL (by omega) (by omega) hP hS hl (fun sC2 sM2 o2 H locs ls hI hP hS hl => next d0 sC2 sM2 o2 H locs ls hi5 hd0 hI hP hS hl)
      · refine lv_tableIn (tgt := 913) (off := 874) hx hb dL_law_39 (by rw [hq]; decide) (by rw [hq]; decide) (by rw [hq]; rfl) (by decide) ?_
        exact law_swap (s := s.setDrawn d0) hst hx hb hml hown htsd hX1 hbl hKd hKJd hNCd hXFd hD h_swap hI hi5 hL (by omega) (by omega) hP hS hl (fun sC2 sM2 o2 H locs ls hI hP hS hl => next d0 sC2 sM2 o2 H locs ls hi5 hd0 hI hP hS hl)
      · refine lv_tableIn (tgt := 993) (off := 954) hx hb dL_law_39 (by rw [hq]; decide) (by rw [hq]; decide) (by rw [hq]; rfl) (by decide) ?_
        exact law_improve (s := s.setDrawn d0) hst hx hb hml hown htsd hX1 hbl hKd hKJd hNCd hXFd hD h_improve hI hi5 hL (by omega) (by omega) hP hS hl (fun sC2 sM2 o2 H locs ls hI hP hS hl => next d0 sC2 sM2 o2 H locs ls hi5 hd0 hI hP hS hl)
      · refine lv_tableIn (tgt := 1006) (off := 967) hx hb dL_law_39 (by rw [hq]; decide) (by rw [hq]; decide) (by rw [hq]; rfl) (by decide) ?_
        exact law_pay (s := s.setDrawn d0) hst hx hb hml hown htsd hX1 hbl hKd hKJd hNCd hXFd hD h_pay hI hi5 hL (by omega) (by omega) hP hS hl (fun sC2 sM2 o2 H locs ls hI hP hS hl => next d0 sC2 sM2 o2 H locs ls hi5 hd0 hI hP hS hl)
      · refine lv_tableIn (tgt := 1019) (off := 980) hx hb dL_law_39 (by rw [hq]; decide) (by rw [hq]; decide) (by rw [hq]; rfl) (by decide) ?_
        exact law_use hst hx hb hml hown hts hX hbl hK hKJ hNC hXF hD h_use hd0 hI hi5 hL (by omega) (by omega) hP hS hl (fun sC2 sM2 o2 H locs ls d1 hd1 hI hP hS hl => next d1 sC2 sM2 o2 H locs ls hi5 hd1 hI hP hS hl)
      · refine lv_tableIn (tgt := 1060) (off := 1021) hx hb dL_law_39 (by rw [hq]; decide) (by rw [hq]; decide) (by rw [hq]; rfl) (by decide) ?_
        exact law_addDriver (s := s.setDrawn d0) hst hx hb hml hown htsd hX1 hbl hKd hKJd hNCd hXFd hD h_addDriver hI hi5 hL (by omega) (by omega) hP hS hl (fun sC2 sM2 o2 H locs ls hI hP hS hl => next d0 sC2 sM2 o2 H locs ls hi5 hd0 hI hP hS hl)
      · refine lv_tableIn (tgt := 1104) (off := 1065) hx hb dL_law_39 (by rw [hq]; decide) (by rw [hq]; decide) (by rw [hq]; rfl) (by decide) ?_
        exact law_reason (s := s.setDrawn d0) hst hx hb hml hown htsd hX1 hbl hKd hKJd hNCd hXFd hD h_reason hI hi5 hL (by omega) (by omega) hP hS hl (fun sC2 sM2 o2 H locs ls hI hP hS hl => next d0 sC2 sM2 o2 H locs ls hi5 hd0 hI hP hS hl)
      · refine lv_tableIn (tgt := 1184) (off := 1145) hx hb dL_law_39 (by rw [hq]; decide) (by rw [hq]; decide) (by rw [hq]; rfl) (by decide) ?_
        exact law_give (s := s.setDrawn d0) hst hx hb hml hown htsd hX1 hbl hKd hKJd hNCd hXFd hD h_give hI hi5 hL (by omega) (by omega) hP hS hl (fun sC2 sM2 o2 H locs ls hI hP hS hl => next d0 sC2 sM2 o2 H locs ls hi5 hd0 hI hP hS hl)
      · refine lv_tableIn (tgt := 1264) (off := 1225) hx hb dL_law_39 (by rw [hq]; decide) (by rw [hq]; decide) (by rw [hq]; rfl) (by decide) ?_
        exact law_takeBack (s := s.setDrawn d0) hst hx hb hml hown htsd hX1 hbl hKd hKJd hNCd hXFd hD h_takeBack hI hi5 hL (by omega) (by omega) hP hS hl (fun sC2 sM2 o2 H locs ls hI hP hS hl => next d0 sC2 sM2 o2 H locs ls hi5 hd0 hI hP hS hl)
      · refine lv_tableIn (tgt := 1332) (off := 1293) hx hb dL_law_39 (by rw [hq]; decide) (by rw [hq]; decide) (by rw [hq]; rfl) (by decide) ?_
        exact law_given (s := s.setDrawn d0) hst hx hb hml hown htsd hX1 hbl hKd hKJd hNCd hXFd hD h_given hI hi5 hL (by omega) (by omega) hP hS hl (fun sC2 sM2 o2 H locs ls hI hP hS hl => next d0 sC2 sM2 o2 H locs ls hi5 hd0 hI hP hS hl)
      · refine lv_tableIn (tgt := 1400) (off := 1361) hx hb dL_law_39 (by rw [hq]; decide) (by rw [hq]; decide) (by rw [hq]; rfl) (by decide) ?_
        exact law_fill (s := s.setDrawn d0) hst hx hb hml hown htsd hX1 hbl hKd hKJd hNCd hXFd hD h_fill hI hi5 hL (by omega) (by omega) hP hS hl (fun sC2 sM2 o2 H locs ls hI hP hS hl => next d0 sC2 sM2 o2 H locs ls hi5 hd0 hI hP hS hl)
      · refine lv_tableIn (tgt := 1456) (off := 1417) hx hb dL_law_39 (by rw [hq]; decide) (by rw [hq]; decide) (by rw [hq]; rfl) (by decide) ?_
        exact law_week (s := s.setDrawn d0) hst hx hb hml hown htsd hX1 hbl hKd hKJd hNCd hXFd hD h_week hI hi5 hL (by omega) (by omega) hP hS hl (fun sC2 sM2 o2 H locs ls hI hP hS hl => next d0 sC2 sM2 o2 H locs ls hi5 hd0 hI hP hS hl)
      · refine lv_tableIn (tgt := 1512) (off := 1473) hx hb dL_law_39 (by rw [hq]; decide) (by rw [hq]; decide) (by rw [hq]; rfl) (by decide) ?_
        exact law_rest (s := s.setDrawn d0) hst hx hb hml hown htsd hX1 hbl hKd hKJd hNCd hXFd hD h_rest hI hi5 hL (by omega) (by omega) hP hS hl (fun sC2 sM2 o2 H locs ls hI hP hS hl => next d0 sC2 sM2 o2 H locs ls hi5 hd0 hI hP hS hl)
      · refine lv_tableIn (tgt := 1580) (off := 1541) hx hb dL_law_39 (by rw [hq]; decide) (by rw [hq]; decide) (by rw [hq]; rfl) (by decide) ?_
        exact law_digest (s := s.setDrawn d0) hst hx hb hml hown htsd hX1 hbl hKd hKJd hNCd hXFd hD h_digest hI hi5 hL (by omega) (by omega) hP hS hl (fun sC2 sM2 o2 H locs ls hI hP hS hl => next d0 sC2 sM2 o2 H locs ls hi5 hd0 hI hP hS hl)
theorem st_arr {ty : FieldType} {args : Array Value} {s : State} (h : (Cond.arrayClass ty).before args s = true) : ∃ cA : ClassId, ArrOfT s cA ty ∧ s.vm.findClass ("[" ++ ty.toString) = some cA := by
  obtain ⟨cA, kA, comp, h1, h2, h3⟩ := Cond.arrayClass_spec h
  exact ⟨cA, fun n z => ⟨fun k h => (by cases h), kA, h2, comp, h3⟩, h1⟩
theorem st_overC {C : String} {args : Array Value} {s : State} (h : (Cond.arrayOver (.object C)).before args s = true) : ∃ cA : ClassId, ArrOfT s cA (.object C) ∧ va_RA s cA (.object C) := by
  obtain ⟨comp, cA, kA, h1, h2, h3, h4, h5⟩ := Cond.arrayOver_spec h
  exact ⟨cA, fun n z => ⟨fun k h => (by cases h), kA, h3, comp, h4⟩, kA, comp, h3, h4, h1, h5⟩
theorem st_overA {ty : FieldType} {args : Array Value} {s : State} (h : (Cond.arrayOver (.array ty)).before args s = true) : ∃ cA : ClassId, ArrOfT s cA (.array ty) ∧ s.vm.findClass ("[" ++ (FieldType.array ty).toString) = some cA := by
  simp only [Cond.before, Cond.holds, Cond.value, beq_iff_eq] at h
  cases hc : s.vm.findClass (FieldType.array ty).toString with
  | none => simp [hc] at h
  | some comp =>
    simp only [hc, Option.bind_some, Option.bind_eq_some_iff, Option.map_eq_some_iff] at h
    obtain ⟨c, hi, k, hk, hb⟩ := h
    cases hkind : k.kind with
    | array component ty2 =>
      rw [hkind] at hb
      simp at hb
      obtain ⟨e1, e2⟩ := hb
      subst e1
      exact ⟨c, fun n z => ⟨fun k h => (by cases h), k, hk, component, hkind⟩, e2⟩
    | _ => rw [hkind] at hb; simp at hb
theorem st_nest {w : Cond} (h : nw_is w = true) : w.onTables = true := by
  cases w <;> first | rfl | (simp [nw_is] at h; done)
theorem st_str : ∀ q ∈ dd_strs, Cond.stringRef RX5 q.1 q.2 ∈ tables_1 := by decide +kernel
theorem st_strX : ∀ q ∈ dd_strs, Cond.exactly (.string RX5 q.1) "java/lang/String" ∈ flatC (Jvm.Cond.and given_1 narrow_1) := by decide +kernel
set_option maxHeartbeats 4000000 in
set_option maxRecDepth 100000 in
theorem st_facts {s : State} {b : Nat} (hts0 : ∀ w ∈ lw_tbl, w.before #[Value.ref b] s = true) (hgv : (Jvm.Cond.and given_1 narrow_1).before #[Value.ref b] s = true) : ∃ g : dd_G, KC g s ∧ AO s ∧ NC s ∧ XF (lA s) s s.heap := by
  have hts : ∀ w ∈ lw_all, w.before #[Value.ref b] s = true := fun w h => hts0 w (List.mem_filter.mp h).1
  have htb : ∀ w ∈ tables_1, w.before #[Value.ref b] s = true := fun w h => hts0 w (List.mem_append_right _ h)
  have hg := flat_of_before _ hgv
  have hA : ∀ a : Nat, a < s.heap.size → ¬ lA s a := fun a h => Nat.not_le.mpr h
  obtain ⟨c0, i0, k0⟩ := u_known (C := RX0) (T := TX0) (N := 9) (n := 9) hts inw_X0 (hts _ qw_573)
  obtain ⟨c1, i1, k1⟩ := u_known (C := RX1) (T := TX1) (N := 4) (n := 4) hts inw_X1 (hts _ qw_583)
  obtain ⟨c2, i2, k2⟩ := u_known (C := RX2) (T := TX2) (N := 3) (n := 3) hts inw_X2 (hts _ qw_578)
  obtain ⟨c3, i3, k3⟩ := u_known (C := RX3) (T := TX3) (N := 4) (n := 4) hts inw_X3 (hts _ qw_566)
  obtain ⟨c4, i4, k4⟩ := u_known (C := RX4) (T := TX4) (N := 6) (n := 6) hts inw_X4 (hts _ qw_561)
  obtain ⟨c5, i5, k5⟩ := u_known (C := RX5) (T := TX5) (N := 12) (n := 12) hts inw_X5 (hts _ qw_772)
  obtain ⟨c6, i6, k6⟩ := u_known (C := RX6) (T := TX6) (N := 25) (n := 25) hts inw_X6 (hts _ qw_773)
  obtain ⟨aI, aI1, aI2⟩ := st_arr (ty := .int) (htb _ (by decide +kernel))
  obtain ⟨aQ, aQ1, aQ2⟩ := st_overC (C := RX0) (htb _ (by decide +kernel))
  obtain ⟨aA, aA1, aA2⟩ := st_overA (ty := .int) (htb _ (by decide +kernel))
  refine ⟨((fun k => [c0, c1, c2, c3, c4, c5, c6].getD k c0, fun k => [i0, i1, i2, i3, i4, i5, i6].getD k i0), aI, aQ, aA), ⟨⟨?_, ?_⟩, ?_⟩, ⟨?_, ?_⟩, ⟨?_, ?_, ?_⟩, ?_, ?_, ?_⟩
  · intro k q hq
    match k, hq with
    | 0, hq => cases hq; exact k0
    | 1, hq => cases hq; exact k1
    | 2, hq => cases hq; exact k2
    | 3, hq => cases hq; exact k3
    | 4, hq => cases hq; exact k4
    | 5, hq => cases hq; exact k5
    | 6, hq => cases hq; exact k6
    | k + 7, hq => simp at hq
  · intro k q hq
    match k, hq with
    | 0, hq => cases hq; exact ⟨aI1, aI2⟩
    | 1, hq => cases hq; exact ⟨aQ1, aQ2⟩
    | 2, hq => cases hq; exact ⟨aA1, aA2⟩
    | k + 3, hq => simp at hq
  · exact fun w hw => va_Nw.of (st_nest (List.mem_filter.mp hw).2) (htb w (List.mem_filter.mp hw).1)
  · exact va_AO.of (A := #[Value.ref b]) (htb _ (by decide +kernel))
  · exact show (Cond.arrayOver (.array .int)).before #[Value.ref b] s = true from htb _ (by decide +kernel)
  · exact va_Nc.of (hg _ (by decide +kernel))
  · exact va_Nc.of (hg _ (by decide +kernel))
  · exact va_Nc.of (hg _ (by decide +kernel))
  · exact vx_Zqof (htb _ (by decide +kernel)) (htb _ (by decide +kernel)) (hg _ (by decide +kernel)) hA
  · exact vx_Zqof (htb _ (by decide +kernel)) (htb _ (by decide +kernel)) (hg _ (by decide +kernel)) hA
  · intro q hq
    obtain ⟨a, h1, -⟩ := Jvm.Free.XT.Exact.of_word (hg _ (st_strX q hq))
    exact ⟨a, vk_R.of (htb _ (st_str q hq)) h1⟩
set_option maxHeartbeats 4000000 in
set_option maxRecDepth 100000 in
theorem whole_K {p : Program} {e : Env} {s : State} {m : MethodId} {below : List Frame} {meth : Method} {c : Code} (l : Launch) (hflags : l.flags = flags0) {b L : Nat} {xs : Nat → Int32} (hL : L ≤ 2560) (C0 : lw_At p s m meth c b L xs) {Inv : dd_S → dd_S → Prop} (hPO : PO Inv) {tS s0 mS : dd_S} (hft : f_X4_init_50 64 (fun _ _ => 0) 0 = some tS) (hf5 : f_X5_init_142 64 (sg5 tS) 0 = some s0) (hfm : f_X6_init_97 64 sg6 0 = some mS) (hI0 : Inv s0 mS) : W p l e room_1 s m #[Value.ref b] below meth c s.heap [] 0 0 (lw_Z below #[Value.ref b] s) (entryFrame m ([Value.ref b] : List Value).toArray 9) := by
  obtain ⟨hx, hb, hr, hml, hown, hts0, hX, hbl, hlocks, hgv⟩ := id C0
  have hb : c.code = cL_law := hb
  have hst : l.stackTraces = false := by unfold Launch.stackTraces; rw [hflags]; decide +kernel
  have hts : ∀ w ∈ lw_all, w.before #[Value.ref b] s = true := fun w h => hts0 w (List.mem_filter.mp h).1
  obtain ⟨g, hK, hAO, hNC, hXF⟩ := st_facts hts0 hgv
  have hA : ∀ q : Nat, s.heap.size ≤ q → lA s q := fun _ h => h
  have hS : va_S (lA s) s.heap s.heap [] := va_S.rf
  have hP : va_P g.1 vwCl [] s.heap := fun k q h => by simp at h
  have hD : va_D (lA s) [] := ⟨fun i j p q h => by simp at h, fun k q h => by simp at h⟩
  have hl := lv_entry ([.ref b]) (n := 9) (Nat.le_of_ble_eq_true rfl)
  rw [lg_entry_eq]
  generalize (lg_sl ([.ref b]) ++ List.replicate (9 - (lg_sl ([.ref b])).length) Slot.unset).toArray = ls at hl ⊢
  have hl : lv_has ls 9 [(0, .ref b)] := hl
  refine va_new (ci := 5) (fs := [.null, .null, .null, .null, .null, .int 0, .int 0, .null, .null, .null, .null, .null]) (C := RX5) (T := TX5) (N := 12) hx hb hts inw_X5 tyX5 tyX5_ok hown (hts _ qw_774) (hts _ qw_772) (hts _ qw_88) hK.1 hP hD hS hA rfl (fun j hj => by rcases (show j = 0 ∨ j = 1 ∨ j = 2 ∨ j = 3 ∨ j = 4 ∨ j = 5 ∨ j = 6 ∨ j = 7 ∨ j = 8 ∨ j = 9 ∨ j = 10 ∨ j = 11 by omega) with rfl | rfl | rfl | rfl | rfl | rfl | rfl | rfl | rfl | rfl | rfl | rfl <;> rfl) (Nat.le_of_ble_eq_true rfl) (Nat.le_of_ble_eq_true rfl) dL_law_0 (fun q1 H hP hD hS => ?_)
  refine W.widen (k := 1) (n := 12) (by decide) (by decide) ?_
  refine lv_dup hx hb dL_law_3 rfl ?_
  refine K_ctor (w0 := []) (va_runI (As := []) (rest := [.ref q1]) ⟨hx, hb, hml, hown, hts⟩ (c_X5_init l g q1 _ tS hft s0 hf5) (cwI 0 hts (lw_gi qw_775) rfl rfl rfl (hts _ qw_88) (hts _ qw_776) (hts _ qw_777) rfl yd_X5_init ⟨Nat.le_of_ble_eq_true rfl, Nat.le_of_ble_eq_true rfl⟩) (preSK hK hAO (P_last hP) (D_last hD)) rfl rfl hl.1 rfl (lv_room (Nat.le_of_ble_eq_true rfl)) dL_law_4 ⟨Nat.le_of_ble_eq_true rfl, Nat.le_of_ble_eq_true rfl⟩) hP hD hS hA (fun u2 H locs hu2 hP hD hS => ?_)
  have hP : va_P g.1 vwCl (WC g u2 s0 ++ []) H := hP
  have hD : va_D (lA s) (WC g u2 s0 ++ []) := hD
  refine W.widen (k := 59) (n := 1162) (by decide) (by decide) ?_
  refine lv_astore_n (lv' := [(1, .ref q1), (0, .ref b)]) hx hb dL_law_7 rfl hl (by decide) rfl (fun ls hl => ?_)
  refine va_new (ci := 6) (fs := [.int 0, .null, .int 0, .null, .null, .null, .null, .null, .int 0, .int 0, .null, .int 0, .int 0, .int 0, .int 0, .null, .int 0, .int 0, .int 0, .int 0, .int 0, .int 0, .int 0, .int 0, .int 0]) (C := RX6) (T := TX6) (N := 25) hx hb hts inw_X6 tyX6 tyX6_ok hown (hts _ qw_778) (hts _ qw_773) (hts _ qw_263) hK.1 hP hD hS hA rfl (fun j hj => by rcases (show j = 0 ∨ j = 1 ∨ j = 2 ∨ j = 3 ∨ j = 4 ∨ j = 5 ∨ j = 6 ∨ j = 7 ∨ j = 8 ∨ j = 9 ∨ j = 10 ∨ j = 11 ∨ j = 12 ∨ j = 13 ∨ j = 14 ∨ j = 15 ∨ j = 16 ∨ j = 17 ∨ j = 18 ∨ j = 19 ∨ j = 20 ∨ j = 21 ∨ j = 22 ∨ j = 23 ∨ j = 24 by omega) with rfl | rfl | rfl | rfl | rfl | rfl | rfl | rfl | rfl | rfl | rfl | rfl | rfl | rfl | rfl | rfl | rfl | rfl | rfl | rfl | rfl | rfl | rfl | rfl | rfl <;> rfl) (Nat.le_of_ble_eq_true rfl) (Nat.le_of_ble_eq_true rfl) dL_law_8 (fun q3 H hP hD hS => ?_)
  refine W.widen (k := 60) (n := 1187) (by decide) (by decide) ?_
  refine lv_dup hx hb dL_law_11 rfl ?_
  refine K_ctor (w0 := (WC g u2 s0 ++ [])) (va_runI (As := []) (rest := [.ref q3]) ⟨hx, hb, hml, hown, hts⟩ (c_X6_init l g q3 _ mS hfm) (cwI 0 hts (lw_gi qw_779) rfl rfl rfl (hts _ qw_263) (hts _ qw_780) (hts _ qw_781) rfl yd_X6_init ⟨Nat.le_of_ble_eq_true rfl, Nat.le_of_ble_eq_true rfl⟩) (preSK hK hAO (P_last hP) (D_last hD)) rfl rfl hl.1 rfl (lv_room (Nat.le_of_ble_eq_true rfl)) dL_law_12 ⟨Nat.le_of_ble_eq_true rfl, Nat.le_of_ble_eq_true rfl⟩) hP hD hS hA (fun u4 H locs hu4 hP hD hS => ?_)
  refine W.widen (k := 68) (n := 1519) (by decide) (by decide) ?_
  refine lv_astore_n (lv' := [(2, .ref q3), (1, .ref q1), (0, .ref b)]) hx hb dL_law_15 rfl hl (by decide) rfl (fun ls hl => ?_)
  refine lv_iconst (v := 1) hx hb dL_law_16 (by decide) ?_
  refine va_newa (atype := .long) (ty := .long) (a0 := (1, .inr (.inl (fun _ => 0)))) (N' := 1) hx hb (hts _ qw_782) rfl hK.1 hP hD hS hA (fun _ => rfl) (by decide) (by decide) (by decide) (Nat.le_of_ble_eq_true rfl) (Nat.le_of_ble_eq_true rfl) dL_law_17 (fun qo cJ H hKJ hP hD hS => ?_)
  refine W.widen (k := 69) (n := 1520) (by decide) (by decide) ?_
  refine lv_astore_n (lv' := [(3, .ref qo), (2, .ref q3), (1, .ref q1), (0, .ref b)]) hx hb dL_law_19 rfl hl (by decide) rfl (fun ls hl => ?_)
  refine lv_iconst (v := 0) hx hb dL_law_20 (by decide) ?_
  refine lv_istore (lv' := [(4, .int 0), (3, .ref qo), (2, .ref q3), (1, .ref q1), (0, .ref b)]) hx hb dL_law_21 hl (by decide) rfl (fun ls hl => ?_)
  have hP : va_P g.1 vwCl (WC g u2 s0 ++ (WM g u4 mS ++ [(qo, OutE cJ (fun _ => 0))])) H := by simpa using hP
  have hD : va_D (lA s) (WC g u2 s0 ++ (WM g u4 mS ++ [(qo, OutE cJ (fun _ => 0))])) := by simpa using hD
  have hP : va_P g.1 vwCl (LW g u2 cJ qo u4 s0 mS (fun _ => 0)) H := by have h9 := va_P.swap (a := WC g u2 s0) (b := WM g u4 mS) (c := [(qo, OutE cJ (fun _ => 0))]) hP; simpa using h9
  have hD : va_D (lA s) (LW g u2 cJ qo u4 s0 mS (fun _ => 0)) := by have h9 := va_D.swap (a := WC g u2 s0) (b := WM g u4 mS) (c := [(qo, OutE cJ (fun _ => 0))]) hD; simpa using h9
  rw [← hu2, ← hu4] at hl
  refine W.base ?_
  exact law_loop hst hL C0 hK hKJ hNC hXF (fun sC sM o => law_D hD sC sM o) hPO 513 0 s.drawn s0 mS (fun _ => 0) H _ ls 69 1520 (by omega) (by omega) (Drawn.sameBut.refl s.drawn lw_cs) hI0 (by omega) (by omega) hP hS (lv_sub hl [4, 3, 2, 1, 0] rfl)
