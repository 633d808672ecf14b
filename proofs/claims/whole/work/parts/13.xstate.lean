/-! WHAT IS THROWN: 1, 2, 3; the world of a method that may throw; its end -/
abbrev xN : List String := ["java/lang/RuntimeException", "java/lang/Exception"]
def xnm : Nat → String
  | 1 => "java/lang/IndexOutOfBoundsException"
  | 2 => "java/lang/IllegalArgumentException"
  | _ => "java/lang/IllegalStateException"
def dd_strs : List (Nat × String) := [(69, "no such point"), (76, "the same point twice, or minutes not 1 to 90"), (102, "there are 40 trips"), (94, "no such times of a trip"), (112, "no such trip or what"), (117, "driving not 60 to 600, or spread not 240 to 1000"), (119, "pause not 10 to 90, or rest not 0 to 900"), (146, "what is not 0 to 3"), (148, "there are 12 duties"), (158, "the trip cannot be put into the duty"), (153, "no such duty or trip"), (172, "no such trip"), (183, "the trip cannot be taken out"), (192, "no such duty or what"), (198, "no such duty or place"), (225, "the same duty twice"), (223, "no such duty"), (231, "the tails cannot be exchanged"), (264, "there are 8 drivers"), (272, "no such driver, day or duty"), (278, "the duty cannot be given to the driver"), (291, "the driver has no duty on this day"), (286, "no such driver or day"), (293, "no such day"), (307, "no such driver"), (309, "no such driver, or day is not 1 to 6")]
theorem dd_str (i : Nat) {q : Nat × String} (h : dd_strs[i]? = some q := by rfl) : q ∈ dd_strs := List.mem_of_getElem? h
def XF (A : Nat → Prop) (U : State) (H : Heap) : Prop := vx_Zq Bundle.tN "UNASSIGNED_STACK" Bundle.steD A U H ∧ vx_Zq Bundle.tN "SUPPRESSED_SENTINEL" Bundle.listD A U H ∧ ∀ q ∈ dd_strs, ∃ sa, vk_R RX5 q.1 q.2 sa U
def PreX (g : dd_G) (n : Nat) (ad : Nat → Nat) (X : va_W) (ws : va_W) (sz : Nat) (U : State) : Prop := PreW g ws sz U ∧ XF (dd_A n ad X sz) U U.heap
theorem XF.same {A : Nat → Prop} {u U : State} {H : Heap} (hv : u.vm = U.vm) (h : XF A u H) : XF A U H := ⟨h.1.moved (by rw [hv]; exact Vm.Alike.refl _), h.2.1.moved (by rw [hv]; exact Vm.Alike.refl _), fun q hq => by obtain ⟨sa, h1⟩ := h.2.2 q hq; exact ⟨sa, vk_R.same hv.symm h1⟩⟩
theorem XF.warm {A : Nat → Prop} {s U : State} {H : Heap} (hW : s.WarmedH U.vm) (h : XF A s H) : XF A U H := ⟨h.1.moved hW.alike, h.2.1.moved hW.alike, fun q hq => by obtain ⟨sa, h1⟩ := h.2.2 q hq; exact ⟨sa, vk_R.warm hW h1⟩⟩
theorem XF.kept {A : Nat → Prop} {s : State} {H H1 : Heap} (h : XF A s H) (hq : ∀ a : Nat, a < H.size → ¬ A a → H1[a]? = H[a]?) : XF A s H1 := ⟨h.1.kept hq, h.2.1.kept hq, h.2.2⟩
theorem XF.narrow {A B : Nat → Prop} {s : State} {H : Heap} (h : XF A s H) (hAB : ∀ q, B q → A q) : XF B s H := ⟨h.1.narrow hAB, h.2.1.narrow hAB, h.2.2⟩
theorem PreX.blind {g : dd_G} {n : Nat} {ad : Nat → Nat} {X ws : va_W} {sz : Nat} {av : List Value} : FrameBlind (va_Pc av (PreX g n ad X ws sz)) := fun a U fr mk h => ⟨h.1, (PreW.blind (av := av) a U fr mk ⟨h.1, h.2.1⟩).2, XF.same (u := U) (U := U.calling fr mk a) rfl h.2.2⟩
abbrev QXI (g : dd_G) (ws : va_W) (A : Nat → Prop) (k0 : Nat) (r0 : Int32) : Array Value → State → Outcome → State → Prop := va_Qi (fun (r : Int32) (_ : Unit) => k0 = 0 ∧ r = r0) (fun _ t => va_P g.1 vwCl ws t.heap) A
abbrev XCx (g : dd_G) (ws : va_W) (A : Nat → Prop) (k0 : Nat) : String → State → State → Prop := vx_X (fun (_ : Unit) => True) (fun E _ t => k0 ≠ 0 ∧ E = xnm k0 ∧ va_P g.1 vwCl ws t.heap) A
theorem so3 {α β γ : Type} {a c : α} {b d : β} {x y : γ} (h : some (a, b, x) = some (c, d, y)) : a = c ∧ b = d ∧ x = y := by cases h; exact ⟨rfl, rfl, rfl⟩
theorem xt_kept {D : va_G} {cl : List vw_C} {ws : va_W} {H H1 : Heap} (hP : va_P D cl ws H) (h : ∀ q : Nat, q < H.size → H1[q]? = H[q]?) : va_P D cl ws H1 := hP.kept fun k q hk => h q.1 (hP k q hk).lt
theorem xg_1 : ∀ w ∈ (vx_atS RX5 71 "java/lang/IndexOutOfBoundsException" xN).filter goodWord, w ∈ lw_tbl := by decide +kernel
theorem xn_1 : ∀ w ∈ (vx_atS RX5 71 "java/lang/IndexOutOfBoundsException" xN).filter (fun w => !goodWord w), w ∈ tables_1 ∧ nw_is w = true := by decide +kernel
theorem xo_1 : ∀ w ∈ Cond.classLink RX5 67 "java/lang/IndexOutOfBoundsException" :: Cond.initialized "java/lang/IndexOutOfBoundsException" :: vx_atS RX5 71 "java/lang/IndexOutOfBoundsException" xN, vx_ot w = true := by decide +kernel
theorem xk_1 : Cond.classLink RX5 67 "java/lang/IndexOutOfBoundsException" ∈ lw_all := lw_in 463 (by decide +kernel) rfl
theorem xi_1 : Cond.initialized "java/lang/IndexOutOfBoundsException" ∈ lw_all := lw_in 76 (by decide +kernel) rfl
theorem T_throw1 {p : Program} {l : Launch} {e : Env} {R : Room} {s : State} {m : MethodId} {args : Array Value} {below : List Frame} {meth : Method} {c : Code} {H : Heap} {locs : List Loc} {cc : ByteArray} {pc : Nat} {ls : Array Slot} {g : dd_G} {ad : Nat → Nat} {sg : dd_S} {X : va_W} {Qc : Array Value → State → Outcome → State → Prop} {is : Nat} {text : String} (hx : p.tables.exec = Jvm.exec) (hb : c.code = cc) (hst : l.stackTraces = false) (hown : s.vm.findClass RX5 = some m.cls) (hts : ∀ w ∈ lw_all, w.before args s = true) (hK : KC g s) (hXF : XF (dd_A 59 ad X s.heap.size) s s.heap) (hq : (is, text) ∈ dd_strs) (hP : va_P g.1 vwCl (WC g ad sg ++ X) H) (hS : va_S (dd_A 59 ad X s.heap.size) s.heap H locs) (hsize : ls.size = c.maxLocals)
    (d0 : decode cc pc = .ok (.new 67, 3)) (d3 : decode cc (pc + 3) = .ok (.dup, 1)) (d4 : decode cc (pc + 4) = .ok (.ldc is, 2)) (d6 : decode cc (pc + 6) = .ok (.invokespecial 71, 3)) (d9 : decode cc (pc + 9) = .ok (.athrow, 1)) (hnone : ∀ x ∈ c.exceptionTable.toList, False) (hRf : 6 ≤ R.frames) (hRl : 82 ≤ R.locals) (hRc : 1 ≤ R.cells) (hRs : 6 ≤ R.slots) (hlocks : meth.locks = false) :
    W p l e R s m args below meth c H locs 0 0 (vx_MQ below Qc (XCx g (WC g ad sg ++ X) (dd_A 59 ad X s.heap.size) 1) args s 1 6 (dd_A 59 ad X s.heap.size)) (F0 m pc ls []) := by
  obtain ⟨sa, hsa⟩ := hXF.2.2 _ hq
  refine vx_throwS (own := RX5) (cls := "java/lang/IndexOutOfBoundsException") (text := text) (names := xN) (ik := 67) (is := is) (ic := 71) (sa := sa) hx hb hst hown (by decide +kernel) (by decide +kernel) (hts _ xk_1) (hts _ xi_1) hsa (fun w hw => ?_) xo_1 hXF.1 hXF.2.1 hS hsize d0 d3 d4 d6 d9 (fun x h => (hnone x h).elim) hRf ?_ (by omega) (by omega) hlocks (fun t hvm hz hk => ⟨(), trivial, ⟨by decide, rfl, xt_kept hP hk⟩, ⟨Nat.le_trans hS.1 hz, fun q h1 h2 => ?_⟩⟩) hS.2.2 (by omega) (by omega)
  · by_cases hg : goodWord w = true
    · exact hts w (List.mem_filter.mpr ⟨xg_1 w (List.mem_filter.mpr ⟨hw, hg⟩), hg⟩)
    · have h1 := xn_1 w (List.mem_filter.mpr ⟨hw, by simp [hg]⟩)
      have h2 := hK.2 w (List.mem_filter.mpr h1)
      have h3 : w.onTables = true := by
        have h4 := xo_1 w (List.mem_cons_of_mem _ (List.mem_cons_of_mem _ hw))
        simp only [vx_ot, Bool.or_eq_true] at h4
        exact h4.resolve_right hg
      exact va_Nw.use h3 h2
  · show 0 + _ ≤ R.locals
    have : (xN : List String).length = 2 := rfl
    omega
  · rw [hk q (Nat.lt_of_lt_of_le h1 hS.1)]
    exact hS.2.1 q h1 h2
theorem T_throw1W {p : Program} {l : Launch} {e : Env} {R : Room} {s : State} {m : MethodId} {args : Array Value} {below : List Frame} {meth : Method} {c : Code} {H : Heap} {locs : List Loc} {cc : ByteArray} {pc : Nat} {ls : Array Slot} {g : dd_G} {ad : Nat → Nat} {sg : dd_S} {X : va_W} {Qc : Array Value → State → Outcome → State → Prop} {is : Nat} {text : String} (hx : p.tables.exec = Jvm.exec) (hb : c.code = cc) (hst : l.stackTraces = false) (hown : s.vm.findClass RX5 = some m.cls) (hts : ∀ w ∈ lw_all, w.before args s = true) (hK : KC g s) (hXF : XF (dd_A 59 ad X s.heap.size) s s.heap) (hq : (is, text) ∈ dd_strs) (hP : va_P g.1 vwCl (WC g ad sg ++ X) H) (hS : va_S (dd_A 59 ad X s.heap.size) s.heap H locs) (hsize : ls.size = c.maxLocals)
    (d0 : decode cc pc = .ok (.new 67, 3)) (d3 : decode cc (pc + 3) = .ok (.dup, 1)) (d4 : decode cc (pc + 4) = .ok (.ldc_w is, 3)) (d6 : decode cc (pc + 7) = .ok (.invokespecial 71, 3)) (d9 : decode cc (pc + 10) = .ok (.athrow, 1)) (hnone : ∀ x ∈ c.exceptionTable.toList, False) (hRf : 6 ≤ R.frames) (hRl : 82 ≤ R.locals) (hRc : 1 ≤ R.cells) (hRs : 6 ≤ R.slots) (hlocks : meth.locks = false) :
    W p l e R s m args below meth c H locs 0 0 (vx_MQ below Qc (XCx g (WC g ad sg ++ X) (dd_A 59 ad X s.heap.size) 1) args s 1 6 (dd_A 59 ad X s.heap.size)) (F0 m pc ls []) := by
  obtain ⟨sa, hsa⟩ := hXF.2.2 _ hq
  refine vx_throwSW (own := RX5) (cls := "java/lang/IndexOutOfBoundsException") (text := text) (names := xN) (ik := 67) (is := is) (ic := 71) (sa := sa) hx hb hst hown (by decide +kernel) (by decide +kernel) (hts _ xk_1) (hts _ xi_1) hsa (fun w hw => ?_) xo_1 hXF.1 hXF.2.1 hS hsize d0 d3 d4 d6 d9 (fun x h => (hnone x h).elim) hRf ?_ (by omega) (by omega) hlocks (fun t hvm hz hk => ⟨(), trivial, ⟨by decide, rfl, xt_kept hP hk⟩, ⟨Nat.le_trans hS.1 hz, fun q h1 h2 => ?_⟩⟩) hS.2.2 (by omega) (by omega)
  · by_cases hg : goodWord w = true
    · exact hts w (List.mem_filter.mpr ⟨xg_1 w (List.mem_filter.mpr ⟨hw, hg⟩), hg⟩)
    · have h1 := xn_1 w (List.mem_filter.mpr ⟨hw, by simp [hg]⟩)
      have h2 := hK.2 w (List.mem_filter.mpr h1)
      have h3 : w.onTables = true := by
        have h4 := xo_1 w (List.mem_cons_of_mem _ (List.mem_cons_of_mem _ hw))
        simp only [vx_ot, Bool.or_eq_true] at h4
        exact h4.resolve_right hg
      exact va_Nw.use h3 h2
  · show 0 + _ ≤ R.locals
    have : (xN : List String).length = 2 := rfl
    omega
  · rw [hk q (Nat.lt_of_lt_of_le h1 hS.1)]
    exact hS.2.1 q h1 h2
theorem xg_2 : ∀ w ∈ (vx_atS RX5 78 "java/lang/IllegalArgumentException" xN).filter goodWord, w ∈ lw_tbl := by decide +kernel
theorem xn_2 : ∀ w ∈ (vx_atS RX5 78 "java/lang/IllegalArgumentException" xN).filter (fun w => !goodWord w), w ∈ tables_1 ∧ nw_is w = true := by decide +kernel
theorem xo_2 : ∀ w ∈ Cond.classLink RX5 74 "java/lang/IllegalArgumentException" :: Cond.initialized "java/lang/IllegalArgumentException" :: vx_atS RX5 78 "java/lang/IllegalArgumentException" xN, vx_ot w = true := by decide +kernel
theorem xk_2 : Cond.classLink RX5 74 "java/lang/IllegalArgumentException" ∈ lw_all := lw_in 531 (by decide +kernel) rfl
theorem xi_2 : Cond.initialized "java/lang/IllegalArgumentException" ∈ lw_all := lw_in 77 (by decide +kernel) rfl
theorem T_throw2 {p : Program} {l : Launch} {e : Env} {R : Room} {s : State} {m : MethodId} {args : Array Value} {below : List Frame} {meth : Method} {c : Code} {H : Heap} {locs : List Loc} {cc : ByteArray} {pc : Nat} {ls : Array Slot} {g : dd_G} {ad : Nat → Nat} {sg : dd_S} {X : va_W} {Qc : Array Value → State → Outcome → State → Prop} {is : Nat} {text : String} (hx : p.tables.exec = Jvm.exec) (hb : c.code = cc) (hst : l.stackTraces = false) (hown : s.vm.findClass RX5 = some m.cls) (hts : ∀ w ∈ lw_all, w.before args s = true) (hK : KC g s) (hXF : XF (dd_A 59 ad X s.heap.size) s s.heap) (hq : (is, text) ∈ dd_strs) (hP : va_P g.1 vwCl (WC g ad sg ++ X) H) (hS : va_S (dd_A 59 ad X s.heap.size) s.heap H locs) (hsize : ls.size = c.maxLocals)
    (d0 : decode cc pc = .ok (.new 74, 3)) (d3 : decode cc (pc + 3) = .ok (.dup, 1)) (d4 : decode cc (pc + 4) = .ok (.ldc is, 2)) (d6 : decode cc (pc + 6) = .ok (.invokespecial 78, 3)) (d9 : decode cc (pc + 9) = .ok (.athrow, 1)) (hnone : ∀ x ∈ c.exceptionTable.toList, False) (hRf : 6 ≤ R.frames) (hRl : 82 ≤ R.locals) (hRc : 1 ≤ R.cells) (hRs : 6 ≤ R.slots) (hlocks : meth.locks = false) :
    W p l e R s m args below meth c H locs 0 0 (vx_MQ below Qc (XCx g (WC g ad sg ++ X) (dd_A 59 ad X s.heap.size) 2) args s 1 6 (dd_A 59 ad X s.heap.size)) (F0 m pc ls []) := by
  obtain ⟨sa, hsa⟩ := hXF.2.2 _ hq
  refine vx_throwS (own := RX5) (cls := "java/lang/IllegalArgumentException") (text := text) (names := xN) (ik := 74) (is := is) (ic := 78) (sa := sa) hx hb hst hown (by decide +kernel) (by decide +kernel) (hts _ xk_2) (hts _ xi_2) hsa (fun w hw => ?_) xo_2 hXF.1 hXF.2.1 hS hsize d0 d3 d4 d6 d9 (fun x h => (hnone x h).elim) hRf ?_ (by omega) (by omega) hlocks (fun t hvm hz hk => ⟨(), trivial, ⟨by decide, rfl, xt_kept hP hk⟩, ⟨Nat.le_trans hS.1 hz, fun q h1 h2 => ?_⟩⟩) hS.2.2 (by omega) (by omega)
  · by_cases hg : goodWord w = true
    · exact hts w (List.mem_filter.mpr ⟨xg_2 w (List.mem_filter.mpr ⟨hw, hg⟩), hg⟩)
    · have h1 := xn_2 w (List.mem_filter.mpr ⟨hw, by simp [hg]⟩)
      have h2 := hK.2 w (List.mem_filter.mpr h1)
      have h3 : w.onTables = true := by
        have h4 := xo_2 w (List.mem_cons_of_mem _ (List.mem_cons_of_mem _ hw))
        simp only [vx_ot, Bool.or_eq_true] at h4
        exact h4.resolve_right hg
      exact va_Nw.use h3 h2
  · show 0 + _ ≤ R.locals
    have : (xN : List String).length = 2 := rfl
    omega
  · rw [hk q (Nat.lt_of_lt_of_le h1 hS.1)]
    exact hS.2.1 q h1 h2
theorem T_throw2W {p : Program} {l : Launch} {e : Env} {R : Room} {s : State} {m : MethodId} {args : Array Value} {below : List Frame} {meth : Method} {c : Code} {H : Heap} {locs : List Loc} {cc : ByteArray} {pc : Nat} {ls : Array Slot} {g : dd_G} {ad : Nat → Nat} {sg : dd_S} {X : va_W} {Qc : Array Value → State → Outcome → State → Prop} {is : Nat} {text : String} (hx : p.tables.exec = Jvm.exec) (hb : c.code = cc) (hst : l.stackTraces = false) (hown : s.vm.findClass RX5 = some m.cls) (hts : ∀ w ∈ lw_all, w.before args s = true) (hK : KC g s) (hXF : XF (dd_A 59 ad X s.heap.size) s s.heap) (hq : (is, text) ∈ dd_strs) (hP : va_P g.1 vwCl (WC g ad sg ++ X) H) (hS : va_S (dd_A 59 ad X s.heap.size) s.heap H locs) (hsize : ls.size = c.maxLocals)
    (d0 : decode cc pc = .ok (.new 74, 3)) (d3 : decode cc (pc + 3) = .ok (.dup, 1)) (d4 : decode cc (pc + 4) = .ok (.ldc_w is, 3)) (d6 : decode cc (pc + 7) = .ok (.invokespecial 78, 3)) (d9 : decode cc (pc + 10) = .ok (.athrow, 1)) (hnone : ∀ x ∈ c.exceptionTable.toList, False) (hRf : 6 ≤ R.frames) (hRl : 82 ≤ R.locals) (hRc : 1 ≤ R.cells) (hRs : 6 ≤ R.slots) (hlocks : meth.locks = false) :
    W p l e R s m args below meth c H locs 0 0 (vx_MQ below Qc (XCx g (WC g ad sg ++ X) (dd_A 59 ad X s.heap.size) 2) args s 1 6 (dd_A 59 ad X s.heap.size)) (F0 m pc ls []) := by
  obtain ⟨sa, hsa⟩ := hXF.2.2 _ hq
  refine vx_throwSW (own := RX5) (cls := "java/lang/IllegalArgumentException") (text := text) (names := xN) (ik := 74) (is := is) (ic := 78) (sa := sa) hx hb hst hown (by decide +kernel) (by decide +kernel) (hts _ xk_2) (hts _ xi_2) hsa (fun w hw => ?_) xo_2 hXF.1 hXF.2.1 hS hsize d0 d3 d4 d6 d9 (fun x h => (hnone x h).elim) hRf ?_ (by omega) (by omega) hlocks (fun t hvm hz hk => ⟨(), trivial, ⟨by decide, rfl, xt_kept hP hk⟩, ⟨Nat.le_trans hS.1 hz, fun q h1 h2 => ?_⟩⟩) hS.2.2 (by omega) (by omega)
  · by_cases hg : goodWord w = true
    · exact hts w (List.mem_filter.mpr ⟨xg_2 w (List.mem_filter.mpr ⟨hw, hg⟩), hg⟩)
    · have h1 := xn_2 w (List.mem_filter.mpr ⟨hw, by simp [hg]⟩)
      have h2 := hK.2 w (List.mem_filter.mpr h1)
      have h3 : w.onTables = true := by
        have h4 := xo_2 w (List.mem_cons_of_mem _ (List.mem_cons_of_mem _ hw))
        simp only [vx_ot, Bool.or_eq_true] at h4
        exact h4.resolve_right hg
      exact va_Nw.use h3 h2
  · show 0 + _ ≤ R.locals
    have : (xN : List String).length = 2 := rfl
    omega
  · rw [hk q (Nat.lt_of_lt_of_le h1 hS.1)]
    exact hS.2.1 q h1 h2
theorem xg_3 : ∀ w ∈ (vx_atS RX5 104 "java/lang/IllegalStateException" xN).filter goodWord, w ∈ lw_tbl := by decide +kernel
theorem xn_3 : ∀ w ∈ (vx_atS RX5 104 "java/lang/IllegalStateException" xN).filter (fun w => !goodWord w), w ∈ tables_1 ∧ nw_is w = true := by decide +kernel
theorem xo_3 : ∀ w ∈ Cond.classLink RX5 100 "java/lang/IllegalStateException" :: Cond.initialized "java/lang/IllegalStateException" :: vx_atS RX5 104 "java/lang/IllegalStateException" xN, vx_ot w = true := by decide +kernel
theorem xk_3 : Cond.classLink RX5 100 "java/lang/IllegalStateException" ∈ lw_all := lw_in 568 (by decide +kernel) rfl
theorem xi_3 : Cond.initialized "java/lang/IllegalStateException" ∈ lw_all := lw_in 78 (by decide +kernel) rfl
theorem T_throw3 {p : Program} {l : Launch} {e : Env} {R : Room} {s : State} {m : MethodId} {args : Array Value} {below : List Frame} {meth : Method} {c : Code} {H : Heap} {locs : List Loc} {cc : ByteArray} {pc : Nat} {ls : Array Slot} {g : dd_G} {ad : Nat → Nat} {sg : dd_S} {X : va_W} {Qc : Array Value → State → Outcome → State → Prop} {is : Nat} {text : String} (hx : p.tables.exec = Jvm.exec) (hb : c.code = cc) (hst : l.stackTraces = false) (hown : s.vm.findClass RX5 = some m.cls) (hts : ∀ w ∈ lw_all, w.before args s = true) (hK : KC g s) (hXF : XF (dd_A 59 ad X s.heap.size) s s.heap) (hq : (is, text) ∈ dd_strs) (hP : va_P g.1 vwCl (WC g ad sg ++ X) H) (hS : va_S (dd_A 59 ad X s.heap.size) s.heap H locs) (hsize : ls.size = c.maxLocals)
    (d0 : decode cc pc = .ok (.new 100, 3)) (d3 : decode cc (pc + 3) = .ok (.dup, 1)) (d4 : decode cc (pc + 4) = .ok (.ldc is, 2)) (d6 : decode cc (pc + 6) = .ok (.invokespecial 104, 3)) (d9 : decode cc (pc + 9) = .ok (.athrow, 1)) (hnone : ∀ x ∈ c.exceptionTable.toList, False) (hRf : 6 ≤ R.frames) (hRl : 82 ≤ R.locals) (hRc : 1 ≤ R.cells) (hRs : 6 ≤ R.slots) (hlocks : meth.locks = false) :
    W p l e R s m args below meth c H locs 0 0 (vx_MQ below Qc (XCx g (WC g ad sg ++ X) (dd_A 59 ad X s.heap.size) 3) args s 1 6 (dd_A 59 ad X s.heap.size)) (F0 m pc ls []) := by
  obtain ⟨sa, hsa⟩ := hXF.2.2 _ hq
  refine vx_throwS (own := RX5) (cls := "java/lang/IllegalStateException") (text := text) (names := xN) (ik := 100) (is := is) (ic := 104) (sa := sa) hx hb hst hown (by decide +kernel) (by decide +kernel) (hts _ xk_3) (hts _ xi_3) hsa (fun w hw => ?_) xo_3 hXF.1 hXF.2.1 hS hsize d0 d3 d4 d6 d9 (fun x h => (hnone x h).elim) hRf ?_ (by omega) (by omega) hlocks (fun t hvm hz hk => ⟨(), trivial, ⟨by decide, rfl, xt_kept hP hk⟩, ⟨Nat.le_trans hS.1 hz, fun q h1 h2 => ?_⟩⟩) hS.2.2 (by omega) (by omega)
  · by_cases hg : goodWord w = true
    · exact hts w (List.mem_filter.mpr ⟨xg_3 w (List.mem_filter.mpr ⟨hw, hg⟩), hg⟩)
    · have h1 := xn_3 w (List.mem_filter.mpr ⟨hw, by simp [hg]⟩)
      have h2 := hK.2 w (List.mem_filter.mpr h1)
      have h3 : w.onTables = true := by
        have h4 := xo_3 w (List.mem_cons_of_mem _ (List.mem_cons_of_mem _ hw))
        simp only [vx_ot, Bool.or_eq_true] at h4
        exact h4.resolve_right hg
      exact va_Nw.use h3 h2
  · show 0 + _ ≤ R.locals
    have : (xN : List String).length = 2 := rfl
    omega
  · rw [hk q (Nat.lt_of_lt_of_le h1 hS.1)]
    exact hS.2.1 q h1 h2
theorem T_throw3W {p : Program} {l : Launch} {e : Env} {R : Room} {s : State} {m : MethodId} {args : Array Value} {below : List Frame} {meth : Method} {c : Code} {H : Heap} {locs : List Loc} {cc : ByteArray} {pc : Nat} {ls : Array Slot} {g : dd_G} {ad : Nat → Nat} {sg : dd_S} {X : va_W} {Qc : Array Value → State → Outcome → State → Prop} {is : Nat} {text : String} (hx : p.tables.exec = Jvm.exec) (hb : c.code = cc) (hst : l.stackTraces = false) (hown : s.vm.findClass RX5 = some m.cls) (hts : ∀ w ∈ lw_all, w.before args s = true) (hK : KC g s) (hXF : XF (dd_A 59 ad X s.heap.size) s s.heap) (hq : (is, text) ∈ dd_strs) (hP : va_P g.1 vwCl (WC g ad sg ++ X) H) (hS : va_S (dd_A 59 ad X s.heap.size) s.heap H locs) (hsize : ls.size = c.maxLocals)
    (d0 : decode cc pc = .ok (.new 100, 3)) (d3 : decode cc (pc + 3) = .ok (.dup, 1)) (d4 : decode cc (pc + 4) = .ok (.ldc_w is, 3)) (d6 : decode cc (pc + 7) = .ok (.invokespecial 104, 3)) (d9 : decode cc (pc + 10) = .ok (.athrow, 1)) (hnone : ∀ x ∈ c.exceptionTable.toList, False) (hRf : 6 ≤ R.frames) (hRl : 82 ≤ R.locals) (hRc : 1 ≤ R.cells) (hRs : 6 ≤ R.slots) (hlocks : meth.locks = false) :
    W p l e R s m args below meth c H locs 0 0 (vx_MQ below Qc (XCx g (WC g ad sg ++ X) (dd_A 59 ad X s.heap.size) 3) args s 1 6 (dd_A 59 ad X s.heap.size)) (F0 m pc ls []) := by
  obtain ⟨sa, hsa⟩ := hXF.2.2 _ hq
  refine vx_throwSW (own := RX5) (cls := "java/lang/IllegalStateException") (text := text) (names := xN) (ik := 100) (is := is) (ic := 104) (sa := sa) hx hb hst hown (by decide +kernel) (by decide +kernel) (hts _ xk_3) (hts _ xi_3) hsa (fun w hw => ?_) xo_3 hXF.1 hXF.2.1 hS hsize d0 d3 d4 d6 d9 (fun x h => (hnone x h).elim) hRf ?_ (by omega) (by omega) hlocks (fun t hvm hz hk => ⟨(), trivial, ⟨by decide, rfl, xt_kept hP hk⟩, ⟨Nat.le_trans hS.1 hz, fun q h1 h2 => ?_⟩⟩) hS.2.2 (by omega) (by omega)
  · by_cases hg : goodWord w = true
    · exact hts w (List.mem_filter.mpr ⟨xg_3 w (List.mem_filter.mpr ⟨hw, hg⟩), hg⟩)
    · have h1 := xn_3 w (List.mem_filter.mpr ⟨hw, by simp [hg]⟩)
      have h2 := hK.2 w (List.mem_filter.mpr h1)
      have h3 : w.onTables = true := by
        have h4 := xo_3 w (List.mem_cons_of_mem _ (List.mem_cons_of_mem _ hw))
        simp only [vx_ot, Bool.or_eq_true] at h4
        exact h4.resolve_right hg
      exact va_Nw.use h3 h2
  · show 0 + _ ≤ R.locals
    have : (xN : List String).length = 2 := rfl
    omega
  · rw [hk q (Nat.lt_of_lt_of_le h1 hS.1)]
    exact hS.2.1 q h1 h2
