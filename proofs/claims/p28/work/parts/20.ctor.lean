/-! CONSTRUCTORS: cells come one by one; the object itself stands first -/
def va_AOA (t : FieldType) (U : State) : Prop := (Cond.arrayOver (.array t)).before #[] U = true
def AO (U : State) : Prop := va_AO RX0 U ∧ va_AOA .int U
theorem va_AOA.moved {t : FieldType} {u U : State} (hvm : u.vm.Alike U.vm) (h : va_AOA t u) : va_AOA t U := by
  have e := Cond.arrayOver_setVmC (args := #[]) hvm (.array t)
  have e2 : (Cond.arrayOver (.array t)).before #[] (u.setVm U.vm) = (Cond.arrayOver (.array t)).before #[] U := rfl
  unfold va_AOA
  rw [← e2, e]
  exact h
theorem AO.moved {u U : State} (hvm : u.vm.Alike U.vm) (h : AO u) : AO U := ⟨h.1.moved hvm, va_AOA.moved hvm h.2⟩
def PreK (g : dd_G) (ws : va_W) (sz : Nat) (U : State) : Prop := PreW g ws sz U ∧ AO U
theorem PreK.blind {g : dd_G} {ws : va_W} {sz : Nat} {av : List Value} : FrameBlind (va_Pc av (PreK g ws sz)) := fun a U fr mk h => ⟨h.1, (PreW.blind (av := av) a U fr mk ⟨h.1, h.2.1⟩).2, AO.moved (u := U) (U := U.calling fr mk a) (Vm.Alike.refl U.vm) h.2.2⟩
theorem preSK {g : dd_G} {ws : va_W} {s : State} {H : Heap} {A : Nat → Prop} {As : List Value} (hK : KC g s) (hAO : AO s) (hP : va_P g.1 vwCl ws H) (hD : va_D A ws) : PreS s H (va_Pc As (PreK g ws H.size)) As := ⟨PreK.blind, fun U hU hW => ⟨rfl, preW_of hK hP hD hU hW, AO.moved hW.alike hAO⟩⟩
theorem P_last {D : va_G} {cl : List vw_C} {w : va_W} {t : Nat × va_E} {H : Heap} (h : va_P D cl (w ++ [t]) H) : va_P D cl [t] H := h.sub [w.length] (by simp)
theorem D_last {A : Nat → Prop} {w : va_W} {t : Nat × va_E} (h : va_D A (w ++ [t])) : va_D A [t] := h.sub [w.length] rfl (by simp)
theorem P_congr {D : va_G} {cl : List vw_C} {w1 w2 : va_W} {a : Nat} {cA : ClassId} {N : Nat} {f f2 : Nat → Option Nat} {H : Heap} (h : va_P D cl (w1 ++ (a, .inl (cA, N, .inr (.inr (.inr (.inr f))))) :: w2) H) (e : ∀ j, j < N → f j = f2 j) : va_P D cl (w1 ++ (a, .inl (cA, N, .inr (.inr (.inr (.inr f2))))) :: w2) H := by
  intro k q hk
  rcases Nat.lt_trichotomy k w1.length with h1 | h1 | h1
  · rw [List.getElem?_append_left h1] at hk
    exact h k q (by rw [List.getElem?_append_left h1]; exact hk)
  · subst h1
    rw [List.getElem?_append_right (Nat.le_refl _), Nat.sub_self] at hk
    cases hk
    have h2 := h w1.length (a, .inl (cA, N, .inr (.inr (.inr (.inr f))))) (by rw [List.getElem?_append_right (Nat.le_refl _), Nat.sub_self]; rfl)
    have e2 : vp_cell cA (N, .inr (.inr (.inr (.inr f)))) = vp_cell cA (N, .inr (.inr (.inr (.inr f2)))) := by
      rw [vp_cell_q, vp_cell_q]
      unfold arrV
      congr 1
      apply Array.ext
      · simp
      · intro i h3 h4
        simp only [Array.size_ofFn] at h3
        simp only [Array.getElem_ofFn]
        rw [e i h3]
    show H[a]? = some (vp_cell cA (N, .inr (.inr (.inr (.inr f2)))))
    rw [← e2]
    exact h2
  · obtain ⟨j, hj⟩ : ∃ j, k = w1.length + (j + 1) := ⟨k - w1.length - 1, by omega⟩
    subst hj
    rw [List.getElem?_append_right (by omega), Nat.add_sub_cancel_left, List.getElem?_cons_succ] at hk
    exact h (w1.length + (j + 1)) q (by rw [List.getElem?_append_right (by omega), Nat.add_sub_cancel_left, List.getElem?_cons_succ]; exact hk)
section
variable {p : Program} {l : Launch} {e : Env} {R : Room} {s : State} {m : MethodId} {args : Array Value} {below : List Frame} {meth : Method} {c : Code} {H : Heap} {locs : List Loc} {cells slots mc ms : Nat} {Q : State → Prop}
variable {cc : ByteArray} {pc : Nat} {ls : Array Slot} {rest st0 : List Value} {a : Array Value} {g : dd_G} {ws : va_W} {A A0 : Nat → Prop} {H0 : Heap}
theorem K_newI {N : Nat} {nn : Int32} (hx : p.tables.exec = Jvm.exec) (hb : c.code = cc) (harr : (Cond.arrayClass .int).before args s = true) (hK : KC g s) (hP : va_P g.1 vwCl ws H) (hD : va_D A ws) (hS : va_S A s.heap H locs) (hA : ∀ q, s.heap.size ≤ q → A q) (hn : ¬ nn < 0) (hN : nn.toNatClampNeg = N) (hbytes : N * componentBytes .int ≤ 536870912) (hcells : cells + 1 ≤ R.cells) (hslots : slots + N ≤ R.slots) (hdg : decode cc pc = .ok (.newarray .int, 2))
    (kk : ∀ (q : Nat) (H1 : Heap), va_P g.1 vwCl (ws ++ [(q, .inl (g.2.1, N, .inl (fun _ => 0)))]) H1 → va_D A (ws ++ [(q, .inl (g.2.1, N, .inl (fun _ => 0)))]) → va_S A s.heap H1 locs → W p l e R s m args below meth c H1 locs (cells + 1) (slots + N) Q (F0 m (pc + 2) ls (.ref q :: rest))) : W p l e R s m args below meth c H locs cells slots Q (F0 m pc ls (.int nn :: rest)) := by
  refine va_newa (atype := .int) (ty := .int) hx hb harr rfl hK.1 hP hD hS hA (a0 := (N, .inl (fun _ => 0))) (fun _ => rfl) hn hN hbytes hcells hslots hdg (fun q cA H1 hK1 hP1 hD1 hS1 => ?_)
  have e1 : s.vm.findClass ("[" ++ (FieldType.int).toString) = some cA := (hK1.2 3 (cA, .int) rfl).2
  have e2 : s.vm.findClass ("[" ++ (FieldType.int).toString) = some g.2.1 := (hK.1.2 0 (g.2.1, .int) rfl).2
  have e3 : cA = g.2.1 := Option.some.inj (e1.symm.trans e2)
  subst e3
  exact kk q H1 hP1 hD1 hS1
theorem K_newQ {N : Nat} {nn : Int32} {own : String} {index : Nat} (hx : p.tables.exec = Jvm.exec) (hb : c.code = cc) (hown : s.vm.findClass own = some m.cls) (hclink : (Cond.classLink own index RX0).before args s = true) (hAO : AO s) (hK : KC g s) (hP : va_P g.1 vwCl ws H) (hD : va_D A ws) (hS : va_S A s.heap H locs) (hA : ∀ q, s.heap.size ≤ q → A q) (hn : ¬ nn < 0) (hN : nn.toNatClampNeg = N) (hbytes : N * 4 ≤ 536870912) (hcells : cells + 1 ≤ R.cells) (hslots : slots + N ≤ R.slots) (hdg : decode cc pc = .ok (.anewarray index, 3))
    (kk : ∀ (q : Nat) (H1 : Heap), va_P g.1 vwCl (ws ++ [(q, .inl (g.2.2.1, N, .inr (.inr (.inr (.inr (fun _ => none))))))]) H1 → va_D A (ws ++ [(q, .inl (g.2.2.1, N, .inr (.inr (.inr (.inr (fun _ => none))))))]) → va_S A s.heap H1 locs → W p l e R s m args below meth c H1 locs (cells + 1) (slots + N) Q (F0 m (pc + 3) ls (.ref q :: rest))) : W p l e R s m args below meth c H locs cells slots Q (F0 m pc ls (.int nn :: rest)) := by
  refine va_newq hx hb hown hclink hAO.1 hK.1 hP hD hS hA hn hN hbytes hcells hslots hdg (fun q cA H1 hK1 hP1 hD1 hS1 => ?_)
  obtain ⟨_, _, _, _, _, e1⟩ := (hK1.2 3 (cA, .object RX0) rfl).2
  obtain ⟨_, _, _, _, _, e2⟩ := (hK.1.2 1 (g.2.2.1, .object RX0) rfl).2
  have e3 : cA = g.2.2.1 := Option.some.inj (e1.symm.trans e2)
  subst e3
  exact kk q H1 hP1 hD1 hS1
theorem K_ctor {T : Type} {w0 : va_W} {q : Nat} {e0 : va_E} {post : T → Prop} {wf : T → va_W} (hr : va_Run p l e R s m args below meth c H locs cells slots mc ms (F0 m pc ls st0) rest (va_Qv post (fun u t => va_P g.1 vwCl (wf u) t.heap ∧ va_D (va_A [(q, e0)] H.size) (wf u)) (va_A [(q, e0)] H.size) a) (va_A [(q, e0)] H.size)) (hP : va_P g.1 vwCl (w0 ++ [(q, e0)]) H) (hD : va_D A0 (w0 ++ [(q, e0)])) (hS : va_S A0 H0 H locs) (hA : ∀ x, H0.size ≤ x → A0 x)
    (kk : ∀ (u : T) (H1 : Heap) (locs1 : List Loc), post u → va_P g.1 vwCl (w0 ++ wf u) H1 → va_D A0 (w0 ++ wf u) → va_S A0 H0 H1 locs1 → W p l e R s m args below meth c H1 locs1 (cells + mc) (slots + ms) Q (F0 m (pc + 3) ls rest)) : W p l e R s m args below meth c H locs cells slots Q (F0 m pc ls st0) := by
  have hF : ∀ x, va_A [(q, e0)] H.size x → A0 x := va_free hD hS hA [w0.length] (by simp)
  refine va_callv hr hS (fun x _ h => hF x h) hF (fun u t H1 locs1 ht hvm hw hB hz1 hk1 hS1 => ?_)
  obtain ⟨hP1, hD1⟩ := hB
  rw [ht] at hP1
  have hR : (List.range w0.length).map (fun i => (w0 ++ [(q, e0)])[i]?) = w0.map some := by
    apply List.ext_getElem?
    intro i
    by_cases hi : i < w0.length
    · simp [hi, List.getElem?_append_left]
    · simp [hi]
  have hj := va_join (wr := w0) (w1 := wf u) hP hD [w0.length] (List.range w0.length) (by simp) hR ?_ ?_ hk1 hF hP1 hD1
  · exact kk u H1 locs1 hw hj.1 hj.2 hS1
  · have key : ∀ (l : List Nat), l.Nodup → va_nd l = true := by
      intro l
      induction l with
      | nil => intro _; rfl
      | cons x l ih =>
        intro h
        rw [List.nodup_cons] at h
        simp only [va_nd, Bool.and_eq_true, decide_eq_true_eq]
        exact ⟨h.1, ih h.2⟩
    exact key _ List.nodup_range
  · intro i hi h
    simp at hi h
    omega
end
theorem P_set {D : va_G} {cl : List vw_C} {ws : va_W} {a : Nat} {cA : ClassId} {N : Nat} {f f2 : Nat → Option Nat} {H : Heap} (h : va_P D cl ws H) (k : Nat) (hk : ws[k]? = some (a, .inl (cA, N, .inr (.inr (.inr (.inr f)))))) (e : ∀ j, j < N → f j = f2 j) : va_P D cl (ws.set k (a, .inl (cA, N, .inr (.inr (.inr (.inr f2)))))) H := by
  intro i q hi
  have hl := (List.getElem?_eq_some_iff.mp hk).1
  by_cases hik : i = k
  · subst hik
    rw [List.getElem?_set_self hl] at hi
    cases hi
    have h2 := h i _ hk
    have e2 : vp_cell cA (N, .inr (.inr (.inr (.inr f)))) = vp_cell cA (N, .inr (.inr (.inr (.inr f2)))) := by
      rw [vp_cell_q, vp_cell_q]
      unfold arrV
      congr 1
      apply Array.ext
      · simp
      · intro i h3 h4
        simp only [Array.size_ofFn] at h3
        simp only [Array.getElem_ofFn]
        rw [e i h3]
    show H[a]? = some (vp_cell cA (N, .inr (.inr (.inr (.inr f2)))))
    rw [← e2]
    exact h2
  · rw [List.getElem?_set_ne (Ne.symm hik)] at hi
    exact h i q hi
theorem D_setA {A : Nat → Prop} {ws : va_W} {a : Nat} {e0 e : va_E} (h : va_D A ws) (k : Nat) (hk : ws[k]? = some (a, e0)) : va_D A (ws.set k (a, e)) := h.set hk
/-- twelve duties, one by one -/
def ct_news (g : dd_G) (a b : Nat → Nat) (i : Nat) : va_W := (List.range i).flatMap fun k => [(a k, .inr (0, [.ref (b k), .int 0, .int 0, .int 0, .int 0, .int 0, .int 0, .int 0, .int 1])), (b k, .inl (g.2.1, 40, .inl (fun _ => 0)))]
theorem ct_news_s (g : dd_G) (a b : Nat → Nat) (i q q2 : Nat) : ct_news g (va_up a i q) (va_up b i q2) (i + 1) = ct_news g a b i ++ [(q, .inr (0, [.ref q2, .int 0, .int 0, .int 0, .int 0, .int 0, .int 0, .int 0, .int 1])), (q2, .inl (g.2.1, 40, .inl (fun _ => 0)))] := by
  unfold ct_news
  rw [List.range_succ, List.flatMap_append]
  congr 1
  · rw [List.flatMap_def, List.flatMap_def]
    congr 1
    refine List.map_congr_left fun k hk => ?_
    have h1 : k ≠ i := Nat.ne_of_lt (List.mem_range.mp hk)
    simp [va_up, h1]
  · simp [va_up]
/-- where everything lies -/
def adC (h0 : Nat) (adT : Nat → Nat) (ru dq dt ro : Nat) (r : Nat → Nat) (tr tr2 ot ot2 qu qk qn ex nd nd2 : Nat) (a b : Nat → Nat) : Nat → Nat := fun k =>
  if k < 12 then a k else if k = 12 then tr else if k = 13 then ot else if k = 14 then nd else if k < 27 then b (k - 15) else if k = 27 then tr2 else if k = 28 then ot2 else if k = 29 then nd2
  else if k = 30 then h0 else if k = 31 then adT 0 else if k = 32 then ru else if k = 33 then dq else if k = 34 then dt else if k = 35 then ro else if k = 36 then qu else if k = 37 then qk else if k = 38 then qn else if k = 39 then ex
  else if k < 45 then adT (k - 39) else if k < 53 then r (k - 45) else adT (k - 47)
/-- the class's ints before the constructor's last loops -/
def sg5 (tS : dd_S) : dd_S := fun k =>
  if k < 15 then (fun j => if j = 8 then 1 else 0)
  else if k = 31 then tS 0
  else if k = 32 then (fun j => if j = 0 then 270 else if j = 1 then 720 else if j = 2 then 30 else if j = 3 then 660 else 0)
  else if k < 40 then (fun _ => 0)
  else if k < 45 then tS (k - 39)
  else if k < 53 then (fun _ => 0)
  else tS (k - 47)
/-- the reference's ints before its constructor's loops -/
def sg6 : dd_S := fun k => if k = 0 then (fun j => if j = 11 then 270 else if j = 12 then 720 else if j = 13 then 30 else if j = 14 then 660 else 0) else (fun _ => 0)
theorem qw_287 : Cond.methodLink RX3 1 objectInit ∈ lw_all := lw_in 92 (by decide +kernel) rfl
theorem qw_288 : Cond.instanceMethod objectInit ∈ lw_all := lw_in 56 (by decide +kernel) rfl
theorem qw_289 : Cond.code objectInit ⟨#[0xb1]⟩ 1 none ∈ lw_all := lw_in 57 (by decide +kernel) rfl
theorem qw_290 : Cond.fieldLink RX3 7 (TX3 0).1 (TX3 0).2.1 (TX3 0).2.2.1 ∈ lw_all := lw_in 93 (by decide +kernel) rfl
theorem qw_291 : Cond.fieldLink RX3 13 (TX3 1).1 (TX3 1).2.1 (TX3 1).2.2.1 ∈ lw_all := lw_in 95 (by decide +kernel) rfl
theorem qw_292 : Cond.fieldLink RX3 16 (TX3 2).1 (TX3 2).2.1 (TX3 2).2.2.1 ∈ lw_all := lw_in 97 (by decide +kernel) rfl
theorem qw_293 : Cond.fieldLink RX3 19 (TX3 3).1 (TX3 3).2.1 (TX3 3).2.2.1 ∈ lw_all := lw_in 99 (by decide +kernel) rfl
theorem qw_294 : Cond.methodLink RX1 3 objectInit ∈ lw_all := lw_in 176 (by decide +kernel) rfl
theorem qw_295 : Cond.methodLink RX0 3 objectInit ∈ lw_all := lw_in 117 (by decide +kernel) rfl
theorem qw_296 : Cond.arrayClass .int ∈ lw_all := lw_in 86 (by decide +kernel) rfl
theorem qw_297 : Cond.methodLink RX2 3 objectInit ∈ lw_all := lw_in 159 (by decide +kernel) rfl
set_option maxHeartbeats 4000000 in
set_option maxRecDepth 100000 in
theorem c_X3_init (l : Launch) (g : dd_G) (h0 : Nat) (sz : Nat) : Met l yX3_init (lw_ws yX3_init cX3_init 1 none) ({ frames := 1, cells := 0, slots := 0, locals := 12 } : Room) (va_Pc [.ref h0] (PreK g [(h0, .inr (3, [.int 0, .int 0, .int 0, .int 0]))] sz)) (va_Qv (fun (u : Unit) => True) (fun u t => va_P g.1 vwCl ([(h0, .inr (3, [.int 270, .int 720, .int 30, .int 660]))]) t.heap ∧ va_D (va_A [(h0, .inr (3, [.int 0, .int 0, .int 0, .int 0]))] sz) ([(h0, .inr (3, [.int 270, .int 720, .int 30, .int 660]))])) (va_A [(h0, .inr (3, [.int 0, .int 0, .int 0, .int 0]))] sz)) 0 0 (va_A [(h0, .inr (3, [.int 0, .int 0, .int 0, .int 0]))] sz) := by
  refine Met.ofW (cc := cX3_init) (maxL := 1) (ret := none) (by decide) rfl ?_
  intro p e s m args below meth c s₁ B hml hv
  obtain ⟨rfl, ⟨rfl, hP, hK, hD0⟩, hAO⟩ := hv
  have hx := B.exec
  have hb := B.bytes
  have hr := B.returns
  have hts := atoms_spec (ws := (lw_ws yX3_init cX3_init 1 none)) B.pre
  have hts : ∀ w ∈ lw_all, w.before _ s = true := fun w h => hts w (List.mem_cons_of_mem _ h)
  have hown : s.vm.findClass RX3 = some m.cls := findClass_of_methodNamed B.named
  have hlocks := B.notSynchronized
  have hin : meth.name = "<init>" := (name_of_methodNamed B.named B.method).1
  have hD := hD0.self (sz := s.heap.size)
  generalize hAe : va_A [(h0, .inr (3, [.int 0, .int 0, .int 0, .int 0]))] s.heap.size = A at hD ⊢
  have hA : ∀ q : Nat, s.heap.size ≤ q → A q := fun q h => by rw [← hAe]; exact Or.inr h
  have hS : va_S A s.heap s.heap [] := va_S.rf
  have hl := lv_entry ([.ref h0]) (n := 1) (Nat.le_of_ble_eq_true rfl)
  rw [lg_entry_eq]
  generalize (lg_sl ([.ref h0]) ++ List.replicate (1 - (lg_sl ([.ref h0])).length) Slot.unset).toArray = ls at hl ⊢
  have hl : lv_has ls 1 [(0, .ref h0)] := hl
  refine lv_aload_n hx hb dX3_init_0 rfl (lv_at hl 0 rfl) ?_
  refine W.objInit hx hb hown (hts _ qw_287) (hts _ qw_288) (hts _ qw_289) rfl (by rw [hml]; exact hl.1) rfl dX3_init_1 (Nat.le_of_ble_eq_true rfl) (Nat.le_of_ble_eq_true rfl) ?_
  refine W.eq (g2 := F0 m 4 ls []) rfl ?_
  refine lv_aload_n hx hb dX3_init_4 rfl (lv_at hl 0 rfl) ?_
  refine lv_sipush (v := 270) hx hb dX3_init_5 (by decide) ?_
  refine va_put (D := g.1) (ci := 3) (v := .int 270) (ty := .int) (C := RX3) (T := TX3) (N := 4) hx hb hts inw_X3 tyX3 tyX3_ok nmX3 hown hK.1 hP hD hS 0 rfl rfl 0 (by decide) (hts _ qw_290) (fun _ h9 => h9) rfl (tyX3_ok 0 (by decide)) rfl rfl (Nat.le_of_ble_eq_true rfl) dX3_init_8 (fun H locs hP hD hS => ?_)
  have hP : va_P g.1 vwCl [(h0, .inr (3, [.int 270, .int 0, .int 0, .int 0]))] H := hP
  have hD : va_D _ [(h0, .inr (3, [.int 270, .int 0, .int 0, .int 0]))] := hD
  refine lv_aload_n hx hb dX3_init_11 rfl (lv_at hl 0 rfl) ?_
  refine lv_sipush (v := 720) hx hb dX3_init_12 (by decide) ?_
  refine va_put (D := g.1) (ci := 3) (v := .int 720) (ty := .int) (C := RX3) (T := TX3) (N := 4) hx hb hts inw_X3 tyX3 tyX3_ok nmX3 hown hK.1 hP hD hS 0 rfl rfl 1 (by decide) (hts _ qw_291) (fun _ h9 => h9) rfl (tyX3_ok 1 (by decide)) rfl rfl (Nat.le_of_ble_eq_true rfl) dX3_init_15 (fun H locs hP hD hS => ?_)
  have hP : va_P g.1 vwCl [(h0, .inr (3, [.int 270, .int 720, .int 0, .int 0]))] H := hP
  have hD : va_D _ [(h0, .inr (3, [.int 270, .int 720, .int 0, .int 0]))] := hD
  refine lv_aload_n hx hb dX3_init_18 rfl (lv_at hl 0 rfl) ?_
  refine lv_bipush (v := 30) hx hb dX3_init_19 (by decide) ?_
  refine va_put (D := g.1) (ci := 3) (v := .int 30) (ty := .int) (C := RX3) (T := TX3) (N := 4) hx hb hts inw_X3 tyX3 tyX3_ok nmX3 hown hK.1 hP hD hS 0 rfl rfl 2 (by decide) (hts _ qw_292) (fun _ h9 => h9) rfl (tyX3_ok 2 (by decide)) rfl rfl (Nat.le_of_ble_eq_true rfl) dX3_init_21 (fun H locs hP hD hS => ?_)
  have hP : va_P g.1 vwCl [(h0, .inr (3, [.int 270, .int 720, .int 30, .int 0]))] H := hP
  have hD : va_D _ [(h0, .inr (3, [.int 270, .int 720, .int 30, .int 0]))] := hD
  refine lv_aload_n hx hb dX3_init_24 rfl (lv_at hl 0 rfl) ?_
  refine lv_sipush (v := 660) hx hb dX3_init_25 (by decide) ?_
  refine va_put (D := g.1) (ci := 3) (v := .int 660) (ty := .int) (C := RX3) (T := TX3) (N := 4) hx hb hts inw_X3 tyX3 tyX3_ok nmX3 hown hK.1 hP hD hS 0 rfl rfl 3 (by decide) (hts _ qw_293) (fun _ h9 => h9) rfl (tyX3_ok 3 (by decide)) rfl rfl (Nat.le_of_ble_eq_true rfl) dX3_init_28 (fun H locs hP hD hS => ?_)
  have hP : va_P g.1 vwCl [(h0, .inr (3, [.int 270, .int 720, .int 30, .int 660]))] H := hP
  have hD : va_D _ [(h0, .inr (3, [.int 270, .int 720, .int 30, .int 660]))] := hD
  exact W.vret hx hb hr (fun t ht hW => ⟨⟨(), rfl, trivial, P_at ht hP, hD⟩, hS.F ht⟩) hS.2.2 dX3_init_31
set_option maxHeartbeats 4000000 in
set_option maxRecDepth 100000 in
theorem c_X1_init (l : Launch) (g : dd_G) (h0 : Nat) (sz : Nat) : Met l yX1_init (lw_ws yX1_init cX1_init 1 none) ({ frames := 1, cells := 0, slots := 0, locals := 12 } : Room) (va_Pc [.ref h0] (PreK g [(h0, .inr (1, [.int 0, .int 0, .int 0, .int 0]))] sz)) (va_Qv (fun (u : Unit) => True) (fun u t => va_P g.1 vwCl ([(h0, .inr (1, [.int 0, .int 0, .int 0, .int 0]))]) t.heap ∧ va_D (va_A [(h0, .inr (1, [.int 0, .int 0, .int 0, .int 0]))] sz) ([(h0, .inr (1, [.int 0, .int 0, .int 0, .int 0]))])) (va_A [(h0, .inr (1, [.int 0, .int 0, .int 0, .int 0]))] sz)) 0 0 (va_A [(h0, .inr (1, [.int 0, .int 0, .int 0, .int 0]))] sz) := by
  refine Met.ofW (cc := cX1_init) (maxL := 1) (ret := none) (by decide) rfl ?_
  intro p e s m args below meth c s₁ B hml hv
  obtain ⟨rfl, ⟨rfl, hP, hK, hD0⟩, hAO⟩ := hv
  have hx := B.exec
  have hb := B.bytes
  have hr := B.returns
  have hts := atoms_spec (ws := (lw_ws yX1_init cX1_init 1 none)) B.pre
  have hts : ∀ w ∈ lw_all, w.before _ s = true := fun w h => hts w (List.mem_cons_of_mem _ h)
  have hown : s.vm.findClass RX1 = some m.cls := findClass_of_methodNamed B.named
  have hlocks := B.notSynchronized
  have hin : meth.name = "<init>" := (name_of_methodNamed B.named B.method).1
  have hD := hD0.self (sz := s.heap.size)
  generalize hAe : va_A [(h0, .inr (1, [.int 0, .int 0, .int 0, .int 0]))] s.heap.size = A at hD ⊢
  have hA : ∀ q : Nat, s.heap.size ≤ q → A q := fun q h => by rw [← hAe]; exact Or.inr h
  have hS : va_S A s.heap s.heap [] := va_S.rf
  have hl := lv_entry ([.ref h0]) (n := 1) (Nat.le_of_ble_eq_true rfl)
  rw [lg_entry_eq]
  generalize (lg_sl ([.ref h0]) ++ List.replicate (1 - (lg_sl ([.ref h0])).length) Slot.unset).toArray = ls at hl ⊢
  have hl : lv_has ls 1 [(0, .ref h0)] := hl
  refine lv_aload_n hx hb dX1_init_0 rfl (lv_at hl 0 rfl) ?_
  refine W.objInit hx hb hown (hts _ qw_294) (hts _ qw_288) (hts _ qw_289) rfl (by rw [hml]; exact hl.1) rfl dX1_init_1 (Nat.le_of_ble_eq_true rfl) (Nat.le_of_ble_eq_true rfl) ?_
  refine W.eq (g2 := F0 m 4 ls []) rfl ?_
  exact W.vret hx hb hr (fun t ht hW => ⟨⟨(), rfl, trivial, P_at ht hP, hD⟩, hS.F ht⟩) hS.2.2 dX1_init_4
set_option maxHeartbeats 4000000 in
set_option maxRecDepth 100000 in
theorem c_X0_init (l : Launch) (g : dd_G) (h0 : Nat) (sz : Nat) : Met l yX0_init (lw_ws yX0_init cX0_init 1 none) ({ frames := 1, cells := 1, slots := 40, locals := 12 } : Room) (va_Pc [.ref h0] (PreK g [(h0, .inr (0, [.null, .int 0, .int 0, .int 0, .int 0, .int 0, .int 0, .int 0, .int 0]))] sz)) (va_Qv (fun (u : Nat) => True) (fun u t => va_P g.1 vwCl ([(h0, .inr (0, [.ref u, .int 0, .int 0, .int 0, .int 0, .int 0, .int 0, .int 0, .int 1])), (u, .inl (g.2.1, 40, .inl (fun _ => 0)))]) t.heap ∧ va_D (va_A [(h0, .inr (0, [.null, .int 0, .int 0, .int 0, .int 0, .int 0, .int 0, .int 0, .int 0]))] sz) ([(h0, .inr (0, [.ref u, .int 0, .int 0, .int 0, .int 0, .int 0, .int 0, .int 0, .int 1])), (u, .inl (g.2.1, 40, .inl (fun _ => 0)))])) (va_A [(h0, .inr (0, [.null, .int 0, .int 0, .int 0, .int 0, .int 0, .int 0, .int 0, .int 0]))] sz)) 1 40 (va_A [(h0, .inr (0, [.null, .int 0, .int 0, .int 0, .int 0, .int 0, .int 0, .int 0, .int 0]))] sz) := by
  refine Met.ofW (cc := cX0_init) (maxL := 1) (ret := none) (by decide) rfl ?_
  intro p e s m args below meth c s₁ B hml hv
  obtain ⟨rfl, ⟨rfl, hP, hK, hD0⟩, hAO⟩ := hv
  have hx := B.exec
  have hb := B.bytes
  have hr := B.returns
  have hts := atoms_spec (ws := (lw_ws yX0_init cX0_init 1 none)) B.pre
  have hts : ∀ w ∈ lw_all, w.before _ s = true := fun w h => hts w (List.mem_cons_of_mem _ h)
  have hown : s.vm.findClass RX0 = some m.cls := findClass_of_methodNamed B.named
  have hlocks := B.notSynchronized
  have hin : meth.name = "<init>" := (name_of_methodNamed B.named B.method).1
  have hD := hD0.self (sz := s.heap.size)
  generalize hAe : va_A [(h0, .inr (0, [.null, .int 0, .int 0, .int 0, .int 0, .int 0, .int 0, .int 0, .int 0]))] s.heap.size = A at hD ⊢
  have hA : ∀ q : Nat, s.heap.size ≤ q → A q := fun q h => by rw [← hAe]; exact Or.inr h
  have hS : va_S A s.heap s.heap [] := va_S.rf
  have hl := lv_entry ([.ref h0]) (n := 1) (Nat.le_of_ble_eq_true rfl)
  rw [lg_entry_eq]
  generalize (lg_sl ([.ref h0]) ++ List.replicate (1 - (lg_sl ([.ref h0])).length) Slot.unset).toArray = ls at hl ⊢
  have hl : lv_has ls 1 [(0, .ref h0)] := hl
  refine lv_aload_n hx hb dX0_init_0 rfl (lv_at hl 0 rfl) ?_
  refine W.objInit hx hb hown (hts _ qw_295) (hts _ qw_288) (hts _ qw_289) rfl (by rw [hml]; exact hl.1) rfl dX0_init_1 (Nat.le_of_ble_eq_true rfl) (Nat.le_of_ble_eq_true rfl) ?_
  refine W.eq (g2 := F0 m 4 ls []) rfl ?_
  refine lv_aload_n hx hb dX0_init_4 rfl (lv_at hl 0 rfl) ?_
  refine lv_bipush (v := 40) hx hb dX0_init_5 (by decide) ?_
  refine K_newI (N := 40) hx hb (hts _ qw_296) hK hP hD hS hA (by decide) (by decide) (by decide) (Nat.le_of_ble_eq_true rfl) (Nat.le_of_ble_eq_true rfl) dX0_init_7 (fun q1 H hP hD hS => ?_)
  have hP : va_P g.1 vwCl [(h0, .inr (0, [.null, .int 0, .int 0, .int 0, .int 0, .int 0, .int 0, .int 0, .int 0])), (q1, .inl (g.2.1, 40, .inl (fun _ => 0)))] H := hP
  have hD : va_D _ [(h0, .inr (0, [.null, .int 0, .int 0, .int 0, .int 0, .int 0, .int 0, .int 0, .int 0])), (q1, .inl (g.2.1, 40, .inl (fun _ => 0)))] := hD
  refine W.widen (k := 1) (n := 40) (by decide) (by decide) ?_
  refine va_putF (D := g.1) (ci := 0) (v := .ref q1) (ty := .array .int) (C := RX0) (T := TX0) (N := 9) hx hb hts inw_X0 tyX0 tyX0_ok nmX0 hown hK.1 hP hD hS 0 rfl rfl 0 (by decide) (hts _ qw_5) (fun _ h9 => h9) rfl hin rfl (tyX0_ok 0 (by decide)) rfl rfl (Nat.le_of_ble_eq_true rfl) dX0_init_9 (fun H locs hP hD hS => ?_)
  have hP : va_P g.1 vwCl [(h0, .inr (0, [.ref q1, .int 0, .int 0, .int 0, .int 0, .int 0, .int 0, .int 0, .int 0])), (q1, .inl (g.2.1, 40, .inl (fun _ => 0)))] H := hP
  have hD : va_D _ [(h0, .inr (0, [.ref q1, .int 0, .int 0, .int 0, .int 0, .int 0, .int 0, .int 0, .int 0])), (q1, .inl (g.2.1, 40, .inl (fun _ => 0)))] := hD
  refine lv_aload_n hx hb dX0_init_12 rfl (lv_at hl 0 rfl) ?_
  refine lv_iconst (v := 1) hx hb dX0_init_13 (by decide) ?_
  refine va_put (D := g.1) (ci := 0) (v := .int 1) (ty := .boolean) (C := RX0) (T := TX0) (N := 9) hx hb hts inw_X0 tyX0 tyX0_ok nmX0 hown hK.1 hP hD hS 0 rfl rfl 8 (by decide) (hts _ qw_23) (fun _ h9 => h9) rfl (tyX0_ok 8 (by decide)) rfl rfl (Nat.le_of_ble_eq_true rfl) dX0_init_14 (fun H locs hP hD hS => ?_)
  have hP : va_P g.1 vwCl [(h0, .inr (0, [.ref q1, .int 0, .int 0, .int 0, .int 0, .int 0, .int 0, .int 0, .int 1])), (q1, .inl (g.2.1, 40, .inl (fun _ => 0)))] H := hP
  have hD : va_D _ [(h0, .inr (0, [.ref q1, .int 0, .int 0, .int 0, .int 0, .int 0, .int 0, .int 0, .int 1])), (q1, .inl (g.2.1, 40, .inl (fun _ => 0)))] := hD
  exact W.vret hx hb hr (fun t ht hW => ⟨⟨q1, rfl, trivial, P_at ht hP, hD⟩, hS.F ht⟩) hS.2.2 dX0_init_17
set_option maxHeartbeats 4000000 in
set_option maxRecDepth 100000 in
theorem c_X2_init (l : Launch) (g : dd_G) (h0 : Nat) (sz : Nat) : Met l yX2_init (lw_ws yX2_init cX2_init 1 none) ({ frames := 1, cells := 2, slots := 80, locals := 12 } : Room) (va_Pc [.ref h0] (PreK g [(h0, .inr (2, [.null, .null, .int 0]))] sz)) (va_Qv (fun (u : Nat × Nat) => True) (fun u t => va_P g.1 vwCl ([(h0, .inr (2, [.ref u.1, .ref u.2, .int 0])), (u.1, .inl (g.2.1, 40, .inl (fun _ => 0))), (u.2, .inl (g.2.1, 40, .inl (fun _ => 0)))]) t.heap ∧ va_D (va_A [(h0, .inr (2, [.null, .null, .int 0]))] sz) ([(h0, .inr (2, [.ref u.1, .ref u.2, .int 0])), (u.1, .inl (g.2.1, 40, .inl (fun _ => 0))), (u.2, .inl (g.2.1, 40, .inl (fun _ => 0)))])) (va_A [(h0, .inr (2, [.null, .null, .int 0]))] sz)) 2 80 (va_A [(h0, .inr (2, [.null, .null, .int 0]))] sz) := by
  refine Met.ofW (cc := cX2_init) (maxL := 1) (ret := none) (by decide) rfl ?_
  intro p e s m args below meth c s₁ B hml hv
  obtain ⟨rfl, ⟨rfl, hP, hK, hD0⟩, hAO⟩ := hv
  have hx := B.exec
  have hb := B.bytes
  have hr := B.returns
  have hts := atoms_spec (ws := (lw_ws yX2_init cX2_init 1 none)) B.pre
  have hts : ∀ w ∈ lw_all, w.before _ s = true := fun w h => hts w (List.mem_cons_of_mem _ h)
  have hown : s.vm.findClass RX2 = some m.cls := findClass_of_methodNamed B.named
  have hlocks := B.notSynchronized
  have hin : meth.name = "<init>" := (name_of_methodNamed B.named B.method).1
  have hD := hD0.self (sz := s.heap.size)
  generalize hAe : va_A [(h0, .inr (2, [.null, .null, .int 0]))] s.heap.size = A at hD ⊢
  have hA : ∀ q : Nat, s.heap.size ≤ q → A q := fun q h => by rw [← hAe]; exact Or.inr h
  have hS : va_S A s.heap s.heap [] := va_S.rf
  have hl := lv_entry ([.ref h0]) (n := 1) (Nat.le_of_ble_eq_true rfl)
  rw [lg_entry_eq]
  generalize (lg_sl ([.ref h0]) ++ List.replicate (1 - (lg_sl ([.ref h0])).length) Slot.unset).toArray = ls at hl ⊢
  have hl : lv_has ls 1 [(0, .ref h0)] := hl
  refine lv_aload_n hx hb dX2_init_0 rfl (lv_at hl 0 rfl) ?_
  refine W.objInit hx hb hown (hts _ qw_297) (hts _ qw_288) (hts _ qw_289) rfl (by rw [hml]; exact hl.1) rfl dX2_init_1 (Nat.le_of_ble_eq_true rfl) (Nat.le_of_ble_eq_true rfl) ?_
  refine W.eq (g2 := F0 m 4 ls []) rfl ?_
  refine lv_aload_n hx hb dX2_init_4 rfl (lv_at hl 0 rfl) ?_
  refine lv_bipush (v := 40) hx hb dX2_init_5 (by decide) ?_
  refine K_newI (N := 40) hx hb (hts _ qw_296) hK hP hD hS hA (by decide) (by decide) (by decide) (Nat.le_of_ble_eq_true rfl) (Nat.le_of_ble_eq_true rfl) dX2_init_7 (fun q1 H hP hD hS => ?_)
  have hP : va_P g.1 vwCl [(h0, .inr (2, [.null, .null, .int 0])), (q1, .inl (g.2.1, 40, .inl (fun _ => 0)))] H := hP
  have hD : va_D _ [(h0, .inr (2, [.null, .null, .int 0])), (q1, .inl (g.2.1, 40, .inl (fun _ => 0)))] := hD
  refine W.widen (k := 1) (n := 40) (by decide) (by decide) ?_
  refine va_putF (D := g.1) (ci := 2) (v := .ref q1) (ty := .array .int) (C := RX2) (T := TX2) (N := 3) hx hb hts inw_X2 tyX2 tyX2_ok nmX2 hown hK.1 hP hD hS 0 rfl rfl 0 (by decide) (hts _ qw_72) (fun _ h9 => h9) rfl hin rfl (tyX2_ok 0 (by decide)) rfl rfl (Nat.le_of_ble_eq_true rfl) dX2_init_9 (fun H locs hP hD hS => ?_)
  have hP : va_P g.1 vwCl [(h0, .inr (2, [.ref q1, .null, .int 0])), (q1, .inl (g.2.1, 40, .inl (fun _ => 0)))] H := hP
  have hD : va_D _ [(h0, .inr (2, [.ref q1, .null, .int 0])), (q1, .inl (g.2.1, 40, .inl (fun _ => 0)))] := hD
  refine lv_aload_n hx hb dX2_init_12 rfl (lv_at hl 0 rfl) ?_
  refine lv_bipush (v := 40) hx hb dX2_init_13 (by decide) ?_
  refine K_newI (N := 40) hx hb (hts _ qw_296) hK hP hD hS hA (by decide) (by decide) (by decide) (Nat.le_of_ble_eq_true rfl) (Nat.le_of_ble_eq_true rfl) dX2_init_15 (fun q2 H hP hD hS => ?_)
  have hP : va_P g.1 vwCl [(h0, .inr (2, [.ref q1, .null, .int 0])), (q1, .inl (g.2.1, 40, .inl (fun _ => 0))), (q2, .inl (g.2.1, 40, .inl (fun _ => 0)))] H := hP
  have hD : va_D _ [(h0, .inr (2, [.ref q1, .null, .int 0])), (q1, .inl (g.2.1, 40, .inl (fun _ => 0))), (q2, .inl (g.2.1, 40, .inl (fun _ => 0)))] := hD
  refine W.widen (k := 2) (n := 80) (by decide) (by decide) ?_
  refine va_putF (D := g.1) (ci := 2) (v := .ref q2) (ty := .array .int) (C := RX2) (T := TX2) (N := 3) hx hb hts inw_X2 tyX2 tyX2_ok nmX2 hown hK.1 hP hD hS 0 rfl rfl 1 (by decide) (hts _ qw_71) (fun _ h9 => h9) rfl hin rfl (tyX2_ok 1 (by decide)) rfl rfl (Nat.le_of_ble_eq_true rfl) dX2_init_17 (fun H locs hP hD hS => ?_)
  have hP : va_P g.1 vwCl [(h0, .inr (2, [.ref q1, .ref q2, .int 0])), (q1, .inl (g.2.1, 40, .inl (fun _ => 0))), (q2, .inl (g.2.1, 40, .inl (fun _ => 0)))] H := hP
  have hD : va_D _ [(h0, .inr (2, [.ref q1, .ref q2, .int 0])), (q1, .inl (g.2.1, 40, .inl (fun _ => 0))), (q2, .inl (g.2.1, 40, .inl (fun _ => 0)))] := hD
  exact W.vret hx hb hr (fun t ht hW => ⟨⟨(q1, q2), rfl, trivial, P_at ht hP, hD⟩, hS.F ht⟩) hS.2.2 dX2_init_20
