theorem va_AOA.use {t : FieldType} {args : Array Value} {U : State} (h : va_AOA t U) : (Cond.arrayOver (.array t)).before args U = true := h
/-! ===== BEGIN new T[n][m]: the outer array a place, the inner ones among the pooled ===== -/
/-- f, but v at every address of l -/
def vr_up {α : Type} (f : Nat → α) (l : List Nat) (v : α) : Nat → α := fun a => if a ∈ l then v else f a
theorem vr_up_in {α : Type} {f : Nat → α} {l : List Nat} {v : α} {a : Nat} (h : a ∈ l) : vr_up f l v a = v := if_pos h
theorem vr_up_ne {α : Type} {f : Nat → α} {l : List Nat} {v : α} {a : Nat} (h : a ∉ l) : vr_up f l v a = f a := if_neg h
theorem vr_rows {L l : List Nat} {f : Nat → va_E} {e : va_E} (h : ∀ a, a ∈ l → a ∉ L) : va_pl L f ++ l.map (fun a => (a, e)) = va_pl (L ++ l) (vr_up f l e) := by
  unfold va_pl
  rw [List.map_append]
  congr 1
  · apply List.map_congr_left
    intro a ha
    rw [vr_up_ne (fun q => h a q ha)]
  · apply List.map_congr_left
    intro a ha
    rw [vr_up_in ha]
theorem vr_lay {X rows : va_W} {x : Nat × va_E} {pl : va_W} {D : va_G} {cl : List vw_C} {H : Heap} (hP : va_P D cl (((X ++ pl) ++ [x]) ++ rows) H) : va_P D cl ((X ++ [x]) ++ (pl ++ rows)) H := by
  rw [List.append_assoc (X ++ pl)] at hP
  have h := va_P.swap hP
  rw [← List.append_assoc X] at h
  have h2 := va_P.swap h
  rw [List.append_assoc (X ++ [x])] at h2
  exact h2
theorem vr_layD {X rows : va_W} {x : Nat × va_E} {pl : va_W} {A : Nat → Prop} (hD : va_D A (((X ++ pl) ++ [x]) ++ rows)) : va_D A ((X ++ [x]) ++ (pl ++ rows)) := by
  rw [List.append_assoc (X ++ pl)] at hD
  have h := va_D.swap hD
  rw [← List.append_assoc X] at h
  have h2 := va_D.swap h
  rw [List.append_assoc (X ++ [x])] at h2
  exact h2
theorem vr_outer (c : ClassId) (N h0 : Nat) : ∀ i : Nat, Jvm.Free.Multi.outerC c N h0 i = arrV c N (fun j => va_rf (if j < i then some (h0 + 1 + j) else none))
  | 0 => by
    show ({ cls := c, slots := Array.replicate N .null, vm := .none } : Cell) = _
    rw [arrV_new]
    refine congrArg (arrV c N) (funext fun j => ?_)
    simp [va_rf]
  | i + 1 => by
    show (Jvm.Free.Multi.outerC c N h0 i).setSlot i (.ref (h0 + 1 + i)) = _
    rw [vr_outer c N h0 i, arrV_store]
    refine congrArg (arrV c N) (funext fun j => ?_)
    by_cases e : j = i
    · subst e
      simp [updV, va_rf]
    · by_cases h : j < i
      · simp [updV, e, h, Nat.lt_succ_of_lt h]
      · simp [updV, e, h, show ¬ j < i + 1 by omega]
section VGM
variable {p : Program} {l : Launch} {e : Env} {R : Room} {s : State} {m : MethodId} {args : Array Value} {below : List Frame} {meth : Method} {c : Code} {H : Heap} {locs : List Loc} {cells slots : Nat} {Q : State → Prop}
variable {cc : ByteArray} {pc : Nat} {ls : Array Slot} {rest : List Value} {D : va_G} {cl : List vw_C} {A : Nat → Prop} {a : Nat} {tys : List (ClassId × FieldType)} {ws : va_W} {H0 : Heap}
theorem va_mna {X : va_W} {L : List Nat} {f : Nat → va_E} {cc : ByteArray} (hexec : p.tables.exec = Jvm.exec) (hb : c.code = cc) {own : String} {index : Nat} {ty : FieldType} {cy : ClassId} (hown : s.vm.findClass own = some m.cls) (hclink : (Cond.classLink own index ("[" ++ (FieldType.array ty).toString)).before args s = true) (hover : va_AOA ty s) (harr : (Cond.arrayClass ty).before args s = true) (hcy : s.vm.findClass (FieldType.array ty).toString = some cy)
    (hK : va_K D cl tys s) (hP : va_P D cl (X ++ va_pl L f) H) (hD : va_D A (X ++ va_pl L f)) (hS : va_S A H0 H locs) (hA : ∀ q, H0.size ≤ q → A q) {n k : Int32} {N' K' : Nat} {z : vp_A} (hn : ¬ n < 0) (hk : ¬ k < 0) (hN : n.toNatClampNeg = N') (hM : k.toNatClampNeg = K')
    (hb1 : N' * 4 ≤ 536870912) (hb2 : K' * componentBytes ty ≤ 536870912) (hb3 : K' ≤ 536870912) (hdf : fits ty (defaultValue ty) = true) (hdd : (defaultValue ty).isDefault = true) (hcells : cells + (1 + N') ≤ R.cells) (hslots : slots + (N' + N' * K') ≤ R.slots) (hz : ∀ c : ClassId, Jvm.Free.Multi.innerC c K' (defaultValue ty) = vp_cell c z) (hdg : decode cc pc = .ok (.multianewarray index 2, 4))
    (kk : ∀ (q : Nat) (r : Nat → Nat) (cA : ClassId) (H1 : Heap), (∀ i j : Nat, i < N' → j < N' → r i = r j → i = j) → (∀ i : Nat, i < N' → r i ∉ L) → va_K D cl (tys ++ [(cA, .array ty)]) s →
      va_P D cl ((X ++ [(q, .inl (cA, N', .inr (.inr (.inr (.inr (fun i => if i < N' then some (r i) else none))))))]) ++ va_pl (L ++ (List.range N').map r) (vr_up f ((List.range N').map r) (.inl (cy, z)))) H1 → va_D A ((X ++ [(q, .inl (cA, N', .inr (.inr (.inr (.inr (fun i => if i < N' then some (r i) else none))))))]) ++ va_pl (L ++ (List.range N').map r) (vr_up f ((List.range N').map r) (.inl (cy, z)))) → va_S A H0 H1 locs →
      W p l e R s m args below meth c H1 locs (cells + 1 + N') (slots + N' + N' * K') Q (F0 m (pc + 4) ls (.ref q :: rest))) : W p l e R s m args below meth c H locs cells slots Q (F0 m pc ls (.int k :: .int n :: rest)) := by
  subst hN
  subst hM
  intro T hT Xs
  obtain ⟨vm₁, cA, comp, -, fA, fC, hO, -, X', step⟩ := Xs.multianewarray2F hexec hown hclink (va_AOA.use hover) harr (g := F0 m pc ls (.int k :: .int n :: rest)) rfl (by rw [hb]; exact hdg) rfl hn hk hb1 hb2 hb3 hdf hdd hcells hslots
  have ec : some cy = some comp := hcy.symm.trans fC
  cases ec
  generalize hF : Jvm.Free.Multi.fill (T.setVm vm₁) cA cy n.toNatClampNeg k.toNatClampNeg (defaultValue ty) n.toNatClampNeg = F at X' step
  have hTh : (T.setVm vm₁).heap = H := hT
  obtain ⟨f1, f2, -, -⟩ := Jvm.Free.Multi.fill_facts (T.setVm vm₁) cA cy n.toNatClampNeg k.toNatClampNeg (defaultValue ty) n.toNatClampNeg
  rw [hF, hTh] at f1 f2
  have hold : ∀ x : Nat, x < H.size → F.heap[x]? = H[x]? := fun x hx => by
    have := Jvm.Free.Multi.fill_old (T.setVm vm₁) cA cy n.toNatClampNeg k.toNatClampNeg (defaultValue ty) (a := x) (by rw [hTh]; exact hx) n.toNatClampNeg
    rw [hF, hTh] at this
    exact this
  have hrow : ∀ j : Nat, j < n.toNatClampNeg → F.heap[H.size + 1 + j]? = some (vp_cell cy z) := fun j hj => by
    have := Jvm.Free.Multi.fill_inner (T.setVm vm₁) cA cy n.toNatClampNeg k.toNatClampNeg (defaultValue ty) n.toNatClampNeg j hj
    rw [hF, hTh, hz] at this
    exact this
  have hout : Jvm.Free.Multi.outerC cA n.toNatClampNeg H.size n.toNatClampNeg = vp_cell cA (n.toNatClampNeg, .inr (.inr (.inr (.inr (fun i => if i < n.toNatClampNeg then some (H.size + 1 + i) else none))))) := by
    rw [vp_cell_q]
    exact vr_outer cA n.toNatClampNeg H.size n.toNatClampNeg
  rw [hout] at f2
  have hlt : ∀ a, a ∈ L → a < H.size := fun a ha => by
    obtain ⟨k9, hk9⟩ := va_pl_get (X := X) (f := f) ha
    exact (hP k9 _ hk9).lt
  have hnl : ∀ i : Nat, i < n.toNatClampNeg → H.size + 1 + i ∉ L := fun i _ h => by
    have := hlt _ h
    omega
  have hnm : ∀ a, a ∈ (List.range n.toNatClampNeg).map (fun i => H.size + 1 + i) → a ∉ L := fun a ha h => by
    obtain ⟨i, -, rfl⟩ := List.mem_map.mp ha
    have := hlt _ h
    omega
  have hP0 : va_P D cl (X ++ va_pl L f) F.heap := hP.kept (fun k9 x hx => hold x.1 ((hP k9 x hx).lt))
  have hP1 : va_P D cl ((X ++ va_pl L f) ++ [(H.size, .inl (cA, n.toNatClampNeg, .inr (.inr (.inr (.inr (fun i => if i < n.toNatClampNeg then some (H.size + 1 + i) else none))))))]) F.heap := hP0.app (fun k9 x hx => by
    have h0 : k9 < 1 := (List.getElem?_eq_some_iff.mp hx).1
    rw [show k9 = 0 by omega] at hx
    cases hx
    exact f2)
  have hP2 : va_P D cl (((X ++ va_pl L f) ++ [(H.size, .inl (cA, n.toNatClampNeg, .inr (.inr (.inr (.inr (fun i => if i < n.toNatClampNeg then some (H.size + 1 + i) else none))))))]) ++ ((List.range n.toNatClampNeg).map (fun i => H.size + 1 + i)).map (fun a => (a, .inl (cy, z)))) F.heap := hP1.app (fun k9 x hx => by
    obtain ⟨a, ha, rfl⟩ := List.mem_map.mp (List.mem_of_getElem? hx)
    obtain ⟨i, hi, rfl⟩ := List.mem_map.mp ha
    exact hrow i (List.mem_range.mp hi))
  have hD2 : va_D A (((X ++ va_pl L f) ++ [(H.size, .inl (cA, n.toNatClampNeg, .inr (.inr (.inr (.inr (fun i => if i < n.toNatClampNeg then some (H.size + 1 + i) else none))))))]) ++ ((List.range n.toNatClampNeg).map (fun i => H.size + 1 + i)).map (fun a => (a, .inl (cy, z)))) := by
    have hD1 := hD.push (e := .inl (cA, n.toNatClampNeg, .inr (.inr (.inr (.inr (fun i => if i < n.toNatClampNeg then some (H.size + 1 + i) else none)))))) hP rfl (hA _ hS.1)
    generalize hW1 : (X ++ va_pl L f) ++ [(H.size, .inl (cA, n.toNatClampNeg, .inr (.inr (.inr (.inr (fun i => if i < n.toNatClampNeg then some (H.size + 1 + i) else none))))))] = W1 at hD1 hP1 ⊢
    have hle : ∀ (k9 : Nat) (x : Nat × va_E), W1[k9]? = some x → x.1 ≤ H.size := fun k9 x hx => by
      rw [← hW1] at hx
      by_cases hl : k9 < (X ++ va_pl L f).length
      · rw [List.getElem?_append_left hl] at hx
        exact Nat.le_of_lt ((hP k9 x hx).lt)
      · rw [List.getElem?_append_right (by omega)] at hx
        have h0 : k9 - (X ++ va_pl L f).length < 1 := (List.getElem?_eq_some_iff.mp hx).1
        rw [show k9 - (X ++ va_pl L f).length = 0 by omega] at hx
        cases hx
        exact Nat.le_refl _
    have hr : ∀ (k9 : Nat) (x : Nat × va_E), (((List.range n.toNatClampNeg).map (fun i => H.size + 1 + i)).map (fun a => ((a, .inl (cy, z)) : Nat × va_E)))[k9]? = some x → x.1 = H.size + 1 + k9 := fun k9 x hx => by
      rw [List.getElem?_map, List.getElem?_map] at hx
      by_cases h9 : k9 < n.toNatClampNeg
      · rw [List.getElem?_range h9] at hx
        cases hx
        rfl
      · have hn0 : (List.range n.toNatClampNeg)[k9]? = none := List.getElem?_eq_none (by rw [List.length_range]; omega)
        rw [hn0] at hx
        cases hx
    refine ⟨fun i j x y hi hj hxy => ?_, fun k9 x hx => ?_⟩
    · by_cases h1 : i < W1.length <;> by_cases h2 : j < W1.length
      · rw [List.getElem?_append_left h1] at hi
        rw [List.getElem?_append_left h2] at hj
        exact hD1.1 i j x y hi hj hxy
      · rw [List.getElem?_append_left h1] at hi
        rw [List.getElem?_append_right (by omega)] at hj
        have := hle _ _ hi
        have := hr _ _ hj
        omega
      · rw [List.getElem?_append_right (by omega)] at hi
        rw [List.getElem?_append_left h2] at hj
        have := hle _ _ hj
        have := hr _ _ hi
        omega
      · rw [List.getElem?_append_right (by omega)] at hi hj
        have := hr _ _ hi
        have := hr _ _ hj
        omega
    · by_cases h1 : k9 < W1.length
      · rw [List.getElem?_append_left h1] at hx
        exact hD1.2 k9 x hx
      · rw [List.getElem?_append_right (by omega)] at hx
        have := hr _ _ hx
        exact hA _ (by have := hS.1; omega)
  have hAr : ArrOfT s cA (.array ty) := fun N9 z9 => by
    obtain ⟨-, k9, hk9, cm9, hkk9⟩ := (hO 0 0 0).1
    exact ⟨(fun q hq => by cases hq), k9, hk9, cm9, hkk9⟩
  have hK2 : va_K D cl (tys ++ [(cA, .array ty)]) s := ⟨hK.1, fun k9 x hx => by
    by_cases hl : k9 < tys.length
    · rw [List.getElem?_append_left hl] at hx
      exact hK.2 k9 x hx
    · rw [List.getElem?_append_right (by omega)] at hx
      have h0 : k9 - tys.length < 1 := (List.getElem?_eq_some_iff.mp hx).1
      rw [show k9 - tys.length = 0 by omega] at hx
      cases hx
      exact ⟨hAr, fA⟩⟩
  obtain ⟨t, a1, b1⟩ := kk H.size (fun i => H.size + 1 + i) cA F.heap (fun i j _ _ h => by have h9 : H.size + 1 + i = H.size + 1 + j := h; omega) hnl hK2 (by rw [← vr_rows hnm]; exact vr_lay hP2) (by rw [← vr_rows hnm]; exact vr_layD hD2) ⟨by rw [f1]; have := hS.1; omega, fun x h1 h2 => (hold x (Nat.lt_of_lt_of_le h1 hS.1)).trans (hS.2.1 x h1 h2), hS.2.2⟩ F rfl X'
  refine ⟨t, step t ?_, b1⟩
  have e : T.heap.size = H.size := by rw [hT]
  rw [e]
  exact a1
end VGM
/-! ===== END ===== -/
section
variable {p : Program} {l : Launch} {e : Env} {R : Room} {s : State} {m : MethodId} {args : Array Value} {below : List Frame} {meth : Method} {c : Code} {H : Heap} {locs : List Loc} {cells slots mc ms : Nat} {Q : State → Prop}
variable {cc : ByteArray} {pc : Nat} {ls : Array Slot} {rest st0 : List Value} {a : Array Value} {g : dd_G} {ws : va_W} {A A0 : Nat → Prop} {H0 : Heap}
theorem K_mna {N M : Nat} {n k : Int32} {own : String} {index : Nat} (hx : p.tables.exec = Jvm.exec) (hb : c.code = cc) (hown : s.vm.findClass own = some m.cls) (hclink : (Cond.classLink own index "[[I").before args s = true) (hAO : AO s) (harr : (Cond.arrayClass .int).before args s = true) (hK : KC g s) (hP : va_P g.1 vwCl ws H) (hD : va_D A ws) (hS : va_S A s.heap H locs) (hA : ∀ q, s.heap.size ≤ q → A q) (hn : ¬ n < 0) (hk : ¬ k < 0) (hN : n.toNatClampNeg = N) (hM : k.toNatClampNeg = M) (hb1 : N * 4 ≤ 536870912) (hb2 : M * componentBytes .int ≤ 536870912) (hb3 : M ≤ 536870912) (hcells : cells + (1 + N) ≤ R.cells) (hslots : slots + (N + N * M) ≤ R.slots) (hdg : decode cc pc = .ok (.multianewarray index 2, 4))
    (kk : ∀ (q : Nat) (r : Nat → Nat) (H1 : Heap), va_P g.1 vwCl (ws ++ ((q, .inl (g.2.2.2, N, .inr (.inr (.inr (.inr (fun i => if i < N then some (r i) else none)))))) :: (List.range N).map (fun i => (r i, .inl (g.2.1, M, .inl (fun _ => 0)))))) H1 → va_D A (ws ++ ((q, .inl (g.2.2.2, N, .inr (.inr (.inr (.inr (fun i => if i < N then some (r i) else none)))))) :: (List.range N).map (fun i => (r i, .inl (g.2.1, M, .inl (fun _ => 0)))))) → va_S A s.heap H1 locs →
      W p l e R s m args below meth c H1 locs (cells + 1 + N) (slots + N + N * M) Q (F0 m (pc + 4) ls (.ref q :: rest))) : W p l e R s m args below meth c H locs cells slots Q (F0 m pc ls (.int k :: .int n :: rest)) := by
  have ecy : s.vm.findClass (FieldType.array .int).toString = some g.2.1 := (hK.1.2 0 (g.2.1, .int) rfl).2
  have e0 : "[" ++ (FieldType.array .int).toString = "[[I" := by decide
  have hz : ∀ c : ClassId, Jvm.Free.Multi.innerC c M (defaultValue .int) = vp_cell c (M, .inl (fun _ => 0)) := fun c => by
    show _ = arrV c M (fun _ => defaultValue .int)
    rw [← arrV_new]
    rfl
  have hP0 : va_P g.1 vwCl (ws ++ va_pl [] (fun _ => .inr (0, []))) H := by
    rw [show va_pl [] (fun _ => (.inr (0, []) : va_E)) = [] from rfl, List.append_nil]
    exact hP
  have hD0 : va_D A (ws ++ va_pl [] (fun _ => .inr (0, []))) := by
    rw [show va_pl [] (fun _ => (.inr (0, []) : va_E)) = [] from rfl, List.append_nil]
    exact hD
  refine va_mna (ty := .int) (cy := g.2.1) (X := ws) (L := []) (f := fun _ => .inr (0, [])) (z := (M, .inl (fun _ => 0))) hx hb hown (by rw [e0]; exact hclink) hAO.2 harr ecy hK.1 hP0 hD0 hS hA hn hk hN hM hb1 hb2 hb3 (by decide) (by decide) hcells hslots hz hdg (fun q r cA H1 hinj hnl hK1 hP1 hD1 hS1 => ?_)
  have e1 : s.vm.findClass ("[" ++ (FieldType.array .int).toString) = some cA := (hK1.2 3 (cA, .array .int) rfl).2
  have e2 : s.vm.findClass ("[" ++ (FieldType.array .int).toString) = some g.2.2.2 := (hK.1.2 2 (g.2.2.2, .array .int) rfl).2
  have e3 : cA = g.2.2.2 := Option.some.inj (e1.symm.trans e2)
  subst e3
  have eL : (ws ++ [(q, .inl (g.2.2.2, N, .inr (.inr (.inr (.inr (fun i => if i < N then some (r i) else none))))))]) ++ va_pl ([] ++ (List.range N).map r) (vr_up (fun _ => .inr (0, [])) ((List.range N).map r) (.inl (g.2.1, (M, .inl (fun _ => 0))))) = ws ++ ((q, .inl (g.2.2.2, N, .inr (.inr (.inr (.inr (fun i => if i < N then some (r i) else none)))))) :: (List.range N).map (fun i => (r i, .inl (g.2.1, M, .inl (fun _ => 0))))) := by
    rw [← vr_rows (L := []) (f := fun _ => .inr (0, [])) (e := .inl (g.2.1, (M, .inl (fun _ => 0)))) (fun _ _ h => absurd h List.not_mem_nil)]
    simp [va_pl]
  rw [eL] at hP1 hD1
  exact kk q r H1 hP1 hD1 hS1
end
theorem qw_298 : Cond.methodLink RX4 3 objectInit ∈ lw_all := lw_in 63 (by decide +kernel) rfl
theorem qw_299 : Cond.classLink RX4 9 "[[I" ∈ lw_all := lw_in 64 (by decide +kernel) rfl
set_option maxHeartbeats 4000000 in
set_option maxRecDepth 100000 in
theorem c_X4_init (l : Launch) (g : dd_G) (h0 : Nat) (sz : Nat) (tS : dd_S) (hft : f_X4_init_50 64 (fun _ _ => 0) 0 = some tS) : Met l yX4_init (lw_ws yX4_init cX4_init 3 none) ({ frames := 1, cells := 11, slots := 202, locals := 12 } : Room) (va_Pc [.ref h0] (PreK g [(h0, .inr (4, [.null, .null, .null, .null, .null, .int 0]))] sz)) (va_Qv (fun (u : Nat → Nat) => u 0 = h0) (fun u t => va_P g.1 vwCl (WT g u tS ++ []) t.heap ∧ va_D (va_A [(h0, .inr (4, [.null, .null, .null, .null, .null, .int 0]))] sz) (WT g u tS ++ [])) (va_A [(h0, .inr (4, [.null, .null, .null, .null, .null, .int 0]))] sz)) 11 202 (va_A [(h0, .inr (4, [.null, .null, .null, .null, .null, .int 0]))] sz) := by
  refine Met.ofW (cc := cX4_init) (maxL := 3) (ret := none) (by decide) rfl ?_
  intro p e s m args below meth c s₁ B hml hv
  obtain ⟨rfl, ⟨rfl, hP, hK, hD0⟩, hAO⟩ := hv
  have hx := B.exec
  have hb := B.bytes
  have hr := B.returns
  have hts := atoms_spec (ws := (lw_ws yX4_init cX4_init 3 none)) B.pre
  have hts : ∀ w ∈ lw_all, w.before _ s = true := fun w h => hts w (List.mem_cons_of_mem _ h)
  have hown : s.vm.findClass RX4 = some m.cls := findClass_of_methodNamed B.named
  have hlocks := B.notSynchronized
  have hin : meth.name = "<init>" := (name_of_methodNamed B.named B.method).1
  have hD := hD0.self (sz := s.heap.size)
  generalize hAe : va_A [(h0, .inr (4, [.null, .null, .null, .null, .null, .int 0]))] s.heap.size = A at hD ⊢
  have hA : ∀ q : Nat, s.heap.size ≤ q → A q := fun q h => by rw [← hAe]; exact Or.inr h
  have hS : va_S A s.heap s.heap [] := va_S.rf
  have hl := lv_entry ([.ref h0]) (n := 3) (Nat.le_of_ble_eq_true rfl)
  rw [lg_entry_eq]
  generalize (lg_sl ([.ref h0]) ++ List.replicate (3 - (lg_sl ([.ref h0])).length) Slot.unset).toArray = ls at hl ⊢
  have hl : lv_has ls 3 [(0, .ref h0)] := hl
  refine lv_aload_n hx hb dX4_init_0 rfl (lv_at hl 0 rfl) ?_
  refine W.objInit hx hb hown (hts _ qw_298) (hts _ qw_288) (hts _ qw_289) rfl (by rw [hml]; exact hl.1) rfl dX4_init_1 (Nat.le_of_ble_eq_true rfl) (Nat.le_of_ble_eq_true rfl) ?_
  refine W.eq (g2 := F0 m 4 ls []) rfl ?_
  refine lv_aload_n hx hb dX4_init_4 rfl (lv_at hl 0 rfl) ?_
  refine lv_bipush (v := 6) hx hb dX4_init_5 (by decide) ?_
  refine lv_bipush (v := 6) hx hb dX4_init_7 (by decide) ?_
  refine K_mna (N := 6) (M := 6) hx hb hown (hts _ qw_299) hAO (hts _ qw_296) hK hP hD hS hA (by decide) (by decide) (by decide) (by decide) (by decide) (by decide) (by decide) (Nat.le_of_ble_eq_true rfl) (Nat.le_of_ble_eq_true rfl) dX4_init_9 (fun q1 r2 H hP hD hS => ?_)
  have hP : va_P g.1 vwCl [(h0, .inr (4, [.null, .null, .null, .null, .null, .int 0])), (q1, .inl (g.2.2.2, 6, .inr (.inr (.inr (.inr (fun i => if i < 6 then some (r2 i) else none)))))), ((r2 0), .inl (g.2.1, 6, .inl (fun _ => 0))), ((r2 1), .inl (g.2.1, 6, .inl (fun _ => 0))), ((r2 2), .inl (g.2.1, 6, .inl (fun _ => 0))), ((r2 3), .inl (g.2.1, 6, .inl (fun _ => 0))), ((r2 4), .inl (g.2.1, 6, .inl (fun _ => 0))), ((r2 5), .inl (g.2.1, 6, .inl (fun _ => 0)))] H := hP
  have hD : va_D _ [(h0, .inr (4, [.null, .null, .null, .null, .null, .int 0])), (q1, .inl (g.2.2.2, 6, .inr (.inr (.inr (.inr (fun i => if i < 6 then some (r2 i) else none)))))), ((r2 0), .inl (g.2.1, 6, .inl (fun _ => 0))), ((r2 1), .inl (g.2.1, 6, .inl (fun _ => 0))), ((r2 2), .inl (g.2.1, 6, .inl (fun _ => 0))), ((r2 3), .inl (g.2.1, 6, .inl (fun _ => 0))), ((r2 4), .inl (g.2.1, 6, .inl (fun _ => 0))), ((r2 5), .inl (g.2.1, 6, .inl (fun _ => 0)))] := hD
  refine W.widen (k := 7) (n := 42) (by decide) (by decide) ?_
  refine va_putF (D := g.1) (ci := 4) (v := .ref q1) (ty := .array (.array .int)) (C := RX4) (T := TX4) (N := 6) hx hb hts inw_X4 tyX4 tyX4_ok nmX4 hown hK.1 hP hD hS 0 rfl rfl 0 (by decide) (hts _ qw_4) (fun _ h9 => h9) rfl hin rfl (tyX4_ok 0 (by decide)) rfl rfl (Nat.le_of_ble_eq_true rfl) dX4_init_13 (fun H locs hP hD hS => ?_)
  have hP : va_P g.1 vwCl [(h0, .inr (4, [.ref q1, .null, .null, .null, .null, .int 0])), (q1, .inl (g.2.2.2, 6, .inr (.inr (.inr (.inr (fun i => if i < 6 then some (r2 i) else none)))))), ((r2 0), .inl (g.2.1, 6, .inl (fun _ => 0))), ((r2 1), .inl (g.2.1, 6, .inl (fun _ => 0))), ((r2 2), .inl (g.2.1, 6, .inl (fun _ => 0))), ((r2 3), .inl (g.2.1, 6, .inl (fun _ => 0))), ((r2 4), .inl (g.2.1, 6, .inl (fun _ => 0))), ((r2 5), .inl (g.2.1, 6, .inl (fun _ => 0)))] H := hP
  have hD : va_D _ [(h0, .inr (4, [.ref q1, .null, .null, .null, .null, .int 0])), (q1, .inl (g.2.2.2, 6, .inr (.inr (.inr (.inr (fun i => if i < 6 then some (r2 i) else none)))))), ((r2 0), .inl (g.2.1, 6, .inl (fun _ => 0))), ((r2 1), .inl (g.2.1, 6, .inl (fun _ => 0))), ((r2 2), .inl (g.2.1, 6, .inl (fun _ => 0))), ((r2 3), .inl (g.2.1, 6, .inl (fun _ => 0))), ((r2 4), .inl (g.2.1, 6, .inl (fun _ => 0))), ((r2 5), .inl (g.2.1, 6, .inl (fun _ => 0)))] := hD
  refine lv_aload_n hx hb dX4_init_16 rfl (lv_at hl 0 rfl) ?_
  refine lv_bipush (v := 40) hx hb dX4_init_17 (by decide) ?_
  refine K_newI (N := 40) hx hb (hts _ qw_296) hK hP hD hS hA (by decide) (by decide) (by decide) (Nat.le_of_ble_eq_true rfl) (Nat.le_of_ble_eq_true rfl) dX4_init_19 (fun q3 H hP hD hS => ?_)
  have hP : va_P g.1 vwCl [(h0, .inr (4, [.ref q1, .null, .null, .null, .null, .int 0])), (q1, .inl (g.2.2.2, 6, .inr (.inr (.inr (.inr (fun i => if i < 6 then some (r2 i) else none)))))), ((r2 0), .inl (g.2.1, 6, .inl (fun _ => 0))), ((r2 1), .inl (g.2.1, 6, .inl (fun _ => 0))), ((r2 2), .inl (g.2.1, 6, .inl (fun _ => 0))), ((r2 3), .inl (g.2.1, 6, .inl (fun _ => 0))), ((r2 4), .inl (g.2.1, 6, .inl (fun _ => 0))), ((r2 5), .inl (g.2.1, 6, .inl (fun _ => 0))), (q3, .inl (g.2.1, 40, .inl (fun _ => 0)))] H := hP
  have hD : va_D _ [(h0, .inr (4, [.ref q1, .null, .null, .null, .null, .int 0])), (q1, .inl (g.2.2.2, 6, .inr (.inr (.inr (.inr (fun i => if i < 6 then some (r2 i) else none)))))), ((r2 0), .inl (g.2.1, 6, .inl (fun _ => 0))), ((r2 1), .inl (g.2.1, 6, .inl (fun _ => 0))), ((r2 2), .inl (g.2.1, 6, .inl (fun _ => 0))), ((r2 3), .inl (g.2.1, 6, .inl (fun _ => 0))), ((r2 4), .inl (g.2.1, 6, .inl (fun _ => 0))), ((r2 5), .inl (g.2.1, 6, .inl (fun _ => 0))), (q3, .inl (g.2.1, 40, .inl (fun _ => 0)))] := hD
  refine W.widen (k := 8) (n := 82) (by decide) (by decide) ?_
  refine va_putF (D := g.1) (ci := 4) (v := .ref q3) (ty := .array .int) (C := RX4) (T := TX4) (N := 6) hx hb hts inw_X4 tyX4 tyX4_ok nmX4 hown hK.1 hP hD hS 0 rfl rfl 1 (by decide) (hts _ qw_1) (fun _ h9 => h9) rfl hin rfl (tyX4_ok 1 (by decide)) rfl rfl (Nat.le_of_ble_eq_true rfl) dX4_init_21 (fun H locs hP hD hS => ?_)
  have hP : va_P g.1 vwCl [(h0, .inr (4, [.ref q1, .ref q3, .null, .null, .null, .int 0])), (q1, .inl (g.2.2.2, 6, .inr (.inr (.inr (.inr (fun i => if i < 6 then some (r2 i) else none)))))), ((r2 0), .inl (g.2.1, 6, .inl (fun _ => 0))), ((r2 1), .inl (g.2.1, 6, .inl (fun _ => 0))), ((r2 2), .inl (g.2.1, 6, .inl (fun _ => 0))), ((r2 3), .inl (g.2.1, 6, .inl (fun _ => 0))), ((r2 4), .inl (g.2.1, 6, .inl (fun _ => 0))), ((r2 5), .inl (g.2.1, 6, .inl (fun _ => 0))), (q3, .inl (g.2.1, 40, .inl (fun _ => 0)))] H := hP
  have hD : va_D _ [(h0, .inr (4, [.ref q1, .ref q3, .null, .null, .null, .int 0])), (q1, .inl (g.2.2.2, 6, .inr (.inr (.inr (.inr (fun i => if i < 6 then some (r2 i) else none)))))), ((r2 0), .inl (g.2.1, 6, .inl (fun _ => 0))), ((r2 1), .inl (g.2.1, 6, .inl (fun _ => 0))), ((r2 2), .inl (g.2.1, 6, .inl (fun _ => 0))), ((r2 3), .inl (g.2.1, 6, .inl (fun _ => 0))), ((r2 4), .inl (g.2.1, 6, .inl (fun _ => 0))), ((r2 5), .inl (g.2.1, 6, .inl (fun _ => 0))), (q3, .inl (g.2.1, 40, .inl (fun _ => 0)))] := hD
  refine lv_aload_n hx hb dX4_init_24 rfl (lv_at hl 0 rfl) ?_
  refine lv_bipush (v := 40) hx hb dX4_init_25 (by decide) ?_
  refine K_newI (N := 40) hx hb (hts _ qw_296) hK hP hD hS hA (by decide) (by decide) (by decide) (Nat.le_of_ble_eq_true rfl) (Nat.le_of_ble_eq_true rfl) dX4_init_27 (fun q4 H hP hD hS => ?_)
  have hP : va_P g.1 vwCl [(h0, .inr (4, [.ref q1, .ref q3, .null, .null, .null, .int 0])), (q1, .inl (g.2.2.2, 6, .inr (.inr (.inr (.inr (fun i => if i < 6 then some (r2 i) else none)))))), ((r2 0), .inl (g.2.1, 6, .inl (fun _ => 0))), ((r2 1), .inl (g.2.1, 6, .inl (fun _ => 0))), ((r2 2), .inl (g.2.1, 6, .inl (fun _ => 0))), ((r2 3), .inl (g.2.1, 6, .inl (fun _ => 0))), ((r2 4), .inl (g.2.1, 6, .inl (fun _ => 0))), ((r2 5), .inl (g.2.1, 6, .inl (fun _ => 0))), (q3, .inl (g.2.1, 40, .inl (fun _ => 0))), (q4, .inl (g.2.1, 40, .inl (fun _ => 0)))] H := hP
  have hD : va_D _ [(h0, .inr (4, [.ref q1, .ref q3, .null, .null, .null, .int 0])), (q1, .inl (g.2.2.2, 6, .inr (.inr (.inr (.inr (fun i => if i < 6 then some (r2 i) else none)))))), ((r2 0), .inl (g.2.1, 6, .inl (fun _ => 0))), ((r2 1), .inl (g.2.1, 6, .inl (fun _ => 0))), ((r2 2), .inl (g.2.1, 6, .inl (fun _ => 0))), ((r2 3), .inl (g.2.1, 6, .inl (fun _ => 0))), ((r2 4), .inl (g.2.1, 6, .inl (fun _ => 0))), ((r2 5), .inl (g.2.1, 6, .inl (fun _ => 0))), (q3, .inl (g.2.1, 40, .inl (fun _ => 0))), (q4, .inl (g.2.1, 40, .inl (fun _ => 0)))] := hD
  refine W.widen (k := 9) (n := 122) (by decide) (by decide) ?_
  refine va_putF (D := g.1) (ci := 4) (v := .ref q4) (ty := .array .int) (C := RX4) (T := TX4) (N := 6) hx hb hts inw_X4 tyX4 tyX4_ok nmX4 hown hK.1 hP hD hS 0 rfl rfl 2 (by decide) (hts _ qw_2) (fun _ h9 => h9) rfl hin rfl (tyX4_ok 2 (by decide)) rfl rfl (Nat.le_of_ble_eq_true rfl) dX4_init_29 (fun H locs hP hD hS => ?_)
  have hP : va_P g.1 vwCl [(h0, .inr (4, [.ref q1, .ref q3, .ref q4, .null, .null, .int 0])), (q1, .inl (g.2.2.2, 6, .inr (.inr (.inr (.inr (fun i => if i < 6 then some (r2 i) else none)))))), ((r2 0), .inl (g.2.1, 6, .inl (fun _ => 0))), ((r2 1), .inl (g.2.1, 6, .inl (fun _ => 0))), ((r2 2), .inl (g.2.1, 6, .inl (fun _ => 0))), ((r2 3), .inl (g.2.1, 6, .inl (fun _ => 0))), ((r2 4), .inl (g.2.1, 6, .inl (fun _ => 0))), ((r2 5), .inl (g.2.1, 6, .inl (fun _ => 0))), (q3, .inl (g.2.1, 40, .inl (fun _ => 0))), (q4, .inl (g.2.1, 40, .inl (fun _ => 0)))] H := hP
  have hD : va_D _ [(h0, .inr (4, [.ref q1, .ref q3, .ref q4, .null, .null, .int 0])), (q1, .inl (g.2.2.2, 6, .inr (.inr (.inr (.inr (fun i => if i < 6 then some (r2 i) else none)))))), ((r2 0), .inl (g.2.1, 6, .inl (fun _ => 0))), ((r2 1), .inl (g.2.1, 6, .inl (fun _ => 0))), ((r2 2), .inl (g.2.1, 6, .inl (fun _ => 0))), ((r2 3), .inl (g.2.1, 6, .inl (fun _ => 0))), ((r2 4), .inl (g.2.1, 6, .inl (fun _ => 0))), ((r2 5), .inl (g.2.1, 6, .inl (fun _ => 0))), (q3, .inl (g.2.1, 40, .inl (fun _ => 0))), (q4, .inl (g.2.1, 40, .inl (fun _ => 0)))] := hD
  refine lv_aload_n hx hb dX4_init_32 rfl (lv_at hl 0 rfl) ?_
  refine lv_bipush (v := 40) hx hb dX4_init_33 (by decide) ?_
  refine K_newI (N := 40) hx hb (hts _ qw_296) hK hP hD hS hA (by decide) (by decide) (by decide) (Nat.le_of_ble_eq_true rfl) (Nat.le_of_ble_eq_true rfl) dX4_init_35 (fun q5 H hP hD hS => ?_)
  have hP : va_P g.1 vwCl [(h0, .inr (4, [.ref q1, .ref q3, .ref q4, .null, .null, .int 0])), (q1, .inl (g.2.2.2, 6, .inr (.inr (.inr (.inr (fun i => if i < 6 then some (r2 i) else none)))))), ((r2 0), .inl (g.2.1, 6, .inl (fun _ => 0))), ((r2 1), .inl (g.2.1, 6, .inl (fun _ => 0))), ((r2 2), .inl (g.2.1, 6, .inl (fun _ => 0))), ((r2 3), .inl (g.2.1, 6, .inl (fun _ => 0))), ((r2 4), .inl (g.2.1, 6, .inl (fun _ => 0))), ((r2 5), .inl (g.2.1, 6, .inl (fun _ => 0))), (q3, .inl (g.2.1, 40, .inl (fun _ => 0))), (q4, .inl (g.2.1, 40, .inl (fun _ => 0))), (q5, .inl (g.2.1, 40, .inl (fun _ => 0)))] H := hP
  have hD : va_D _ [(h0, .inr (4, [.ref q1, .ref q3, .ref q4, .null, .null, .int 0])), (q1, .inl (g.2.2.2, 6, .inr (.inr (.inr (.inr (fun i => if i < 6 then some (r2 i) else none)))))), ((r2 0), .inl (g.2.1, 6, .inl (fun _ => 0))), ((r2 1), .inl (g.2.1, 6, .inl (fun _ => 0))), ((r2 2), .inl (g.2.1, 6, .inl (fun _ => 0))), ((r2 3), .inl (g.2.1, 6, .inl (fun _ => 0))), ((r2 4), .inl (g.2.1, 6, .inl (fun _ => 0))), ((r2 5), .inl (g.2.1, 6, .inl (fun _ => 0))), (q3, .inl (g.2.1, 40, .inl (fun _ => 0))), (q4, .inl (g.2.1, 40, .inl (fun _ => 0))), (q5, .inl (g.2.1, 40, .inl (fun _ => 0)))] := hD
  refine W.widen (k := 10) (n := 162) (by decide) (by decide) ?_
  refine va_putF (D := g.1) (ci := 4) (v := .ref q5) (ty := .array .int) (C := RX4) (T := TX4) (N := 6) hx hb hts inw_X4 tyX4 tyX4_ok nmX4 hown hK.1 hP hD hS 0 rfl rfl 3 (by decide) (hts _ qw_0) (fun _ h9 => h9) rfl hin rfl (tyX4_ok 3 (by decide)) rfl rfl (Nat.le_of_ble_eq_true rfl) dX4_init_37 (fun H locs hP hD hS => ?_)
  have hP : va_P g.1 vwCl [(h0, .inr (4, [.ref q1, .ref q3, .ref q4, .ref q5, .null, .int 0])), (q1, .inl (g.2.2.2, 6, .inr (.inr (.inr (.inr (fun i => if i < 6 then some (r2 i) else none)))))), ((r2 0), .inl (g.2.1, 6, .inl (fun _ => 0))), ((r2 1), .inl (g.2.1, 6, .inl (fun _ => 0))), ((r2 2), .inl (g.2.1, 6, .inl (fun _ => 0))), ((r2 3), .inl (g.2.1, 6, .inl (fun _ => 0))), ((r2 4), .inl (g.2.1, 6, .inl (fun _ => 0))), ((r2 5), .inl (g.2.1, 6, .inl (fun _ => 0))), (q3, .inl (g.2.1, 40, .inl (fun _ => 0))), (q4, .inl (g.2.1, 40, .inl (fun _ => 0))), (q5, .inl (g.2.1, 40, .inl (fun _ => 0)))] H := hP
  have hD : va_D _ [(h0, .inr (4, [.ref q1, .ref q3, .ref q4, .ref q5, .null, .int 0])), (q1, .inl (g.2.2.2, 6, .inr (.inr (.inr (.inr (fun i => if i < 6 then some (r2 i) else none)))))), ((r2 0), .inl (g.2.1, 6, .inl (fun _ => 0))), ((r2 1), .inl (g.2.1, 6, .inl (fun _ => 0))), ((r2 2), .inl (g.2.1, 6, .inl (fun _ => 0))), ((r2 3), .inl (g.2.1, 6, .inl (fun _ => 0))), ((r2 4), .inl (g.2.1, 6, .inl (fun _ => 0))), ((r2 5), .inl (g.2.1, 6, .inl (fun _ => 0))), (q3, .inl (g.2.1, 40, .inl (fun _ => 0))), (q4, .inl (g.2.1, 40, .inl (fun _ => 0))), (q5, .inl (g.2.1, 40, .inl (fun _ => 0)))] := hD
  refine lv_aload_n hx hb dX4_init_40 rfl (lv_at hl 0 rfl) ?_
  refine lv_bipush (v := 40) hx hb dX4_init_41 (by decide) ?_
  refine K_newI (N := 40) hx hb (hts _ qw_296) hK hP hD hS hA (by decide) (by decide) (by decide) (Nat.le_of_ble_eq_true rfl) (Nat.le_of_ble_eq_true rfl) dX4_init_43 (fun q6 H hP hD hS => ?_)
  have hP : va_P g.1 vwCl [(h0, .inr (4, [.ref q1, .ref q3, .ref q4, .ref q5, .null, .int 0])), (q1, .inl (g.2.2.2, 6, .inr (.inr (.inr (.inr (fun i => if i < 6 then some (r2 i) else none)))))), ((r2 0), .inl (g.2.1, 6, .inl (fun _ => 0))), ((r2 1), .inl (g.2.1, 6, .inl (fun _ => 0))), ((r2 2), .inl (g.2.1, 6, .inl (fun _ => 0))), ((r2 3), .inl (g.2.1, 6, .inl (fun _ => 0))), ((r2 4), .inl (g.2.1, 6, .inl (fun _ => 0))), ((r2 5), .inl (g.2.1, 6, .inl (fun _ => 0))), (q3, .inl (g.2.1, 40, .inl (fun _ => 0))), (q4, .inl (g.2.1, 40, .inl (fun _ => 0))), (q5, .inl (g.2.1, 40, .inl (fun _ => 0))), (q6, .inl (g.2.1, 40, .inl (fun _ => 0)))] H := hP
  have hD : va_D _ [(h0, .inr (4, [.ref q1, .ref q3, .ref q4, .ref q5, .null, .int 0])), (q1, .inl (g.2.2.2, 6, .inr (.inr (.inr (.inr (fun i => if i < 6 then some (r2 i) else none)))))), ((r2 0), .inl (g.2.1, 6, .inl (fun _ => 0))), ((r2 1), .inl (g.2.1, 6, .inl (fun _ => 0))), ((r2 2), .inl (g.2.1, 6, .inl (fun _ => 0))), ((r2 3), .inl (g.2.1, 6, .inl (fun _ => 0))), ((r2 4), .inl (g.2.1, 6, .inl (fun _ => 0))), ((r2 5), .inl (g.2.1, 6, .inl (fun _ => 0))), (q3, .inl (g.2.1, 40, .inl (fun _ => 0))), (q4, .inl (g.2.1, 40, .inl (fun _ => 0))), (q5, .inl (g.2.1, 40, .inl (fun _ => 0))), (q6, .inl (g.2.1, 40, .inl (fun _ => 0)))] := hD
  refine W.widen (k := 11) (n := 202) (by decide) (by decide) ?_
  refine va_putF (D := g.1) (ci := 4) (v := .ref q6) (ty := .array .int) (C := RX4) (T := TX4) (N := 6) hx hb hts inw_X4 tyX4 tyX4_ok nmX4 hown hK.1 hP hD hS 0 rfl rfl 4 (by decide) (hts _ qw_3) (fun _ h9 => h9) rfl hin rfl (tyX4_ok 4 (by decide)) rfl rfl (Nat.le_of_ble_eq_true rfl) dX4_init_45 (fun H locs hP hD hS => ?_)
  have hP : va_P g.1 vwCl [(h0, .inr (4, [.ref q1, .ref q3, .ref q4, .ref q5, .ref q6, .int 0])), (q1, .inl (g.2.2.2, 6, .inr (.inr (.inr (.inr (fun i => if i < 6 then some (r2 i) else none)))))), ((r2 0), .inl (g.2.1, 6, .inl (fun _ => 0))), ((r2 1), .inl (g.2.1, 6, .inl (fun _ => 0))), ((r2 2), .inl (g.2.1, 6, .inl (fun _ => 0))), ((r2 3), .inl (g.2.1, 6, .inl (fun _ => 0))), ((r2 4), .inl (g.2.1, 6, .inl (fun _ => 0))), ((r2 5), .inl (g.2.1, 6, .inl (fun _ => 0))), (q3, .inl (g.2.1, 40, .inl (fun _ => 0))), (q4, .inl (g.2.1, 40, .inl (fun _ => 0))), (q5, .inl (g.2.1, 40, .inl (fun _ => 0))), (q6, .inl (g.2.1, 40, .inl (fun _ => 0)))] H := hP
  have hD : va_D _ [(h0, .inr (4, [.ref q1, .ref q3, .ref q4, .ref q5, .ref q6, .int 0])), (q1, .inl (g.2.2.2, 6, .inr (.inr (.inr (.inr (fun i => if i < 6 then some (r2 i) else none)))))), ((r2 0), .inl (g.2.1, 6, .inl (fun _ => 0))), ((r2 1), .inl (g.2.1, 6, .inl (fun _ => 0))), ((r2 2), .inl (g.2.1, 6, .inl (fun _ => 0))), ((r2 3), .inl (g.2.1, 6, .inl (fun _ => 0))), ((r2 4), .inl (g.2.1, 6, .inl (fun _ => 0))), ((r2 5), .inl (g.2.1, 6, .inl (fun _ => 0))), (q3, .inl (g.2.1, 40, .inl (fun _ => 0))), (q4, .inl (g.2.1, 40, .inl (fun _ => 0))), (q5, .inl (g.2.1, 40, .inl (fun _ => 0))), (q6, .inl (g.2.1, 40, .inl (fun _ => 0)))] := hD
  refine lv_iconst (v := 0) hx hb dX4_init_48 (by decide) ?_
  refine lv_istore_n (lv' := [(1, .int 0), (0, .ref h0)]) hx hb dX4_init_49 rfl hl (by decide) rfl (fun ls hl => ?_)
  obtain ⟨ad, had⟩ : ∃ ad : Nat → Nat, ad = fun k => [h0, q1, q3, q4, q5, q6, r2 0, r2 1, r2 2, r2 3, r2 4, r2 5].getD k 0 := ⟨_, rfl⟩
  have hP := P_set (f2 := fun j => some (ad (6 + j))) hP 1 rfl (fun j hj => by subst had; rcases (show j = 0 ∨ j = 1 ∨ j = 2 ∨ j = 3 ∨ j = 4 ∨ j = 5 by omega) with rfl | rfl | rfl | rfl | rfl | rfl <;> rfl)
  have hD : va_D A _ := D_setA (e := .inl (g.2.2.2, 6, .inr (.inr (.inr (.inr (fun j => some (ad (6 + j)))))))) hD 1 rfl
  have hP : va_P g.1 vwCl (WT g ad (fun _ _ => 0) ++ []) H := by subst had; exact hP.sub [0, 1, 8, 9, 10, 11, 2, 3, 4, 5, 6, 7] rfl
  have hD : ∀ s2 : dd_S, va_D A (WT g ad s2 ++ []) := fun s2 => dd_D (sg := fun _ _ => 0) (by subst had; exact hD.sub [0, 1, 8, 9, 10, 11, 2, 3, 4, 5, 6, 7] (by decide) rfl)
  have h0e : ad 0 = h0 := by subst had; rfl
  rw [← h0e] at hl
  refine sg_X4_init hx hb hts hown hK hD tS (fun H locs ls hP hS => ?_) _ 0 _ _ _ hft hP hS (lv_sub hl [1, 0] rfl)
  exact W.vret hx hb hr (fun t ht hW => ⟨⟨ad, rfl, h0e, P_at ht hP, hD tS⟩, hS.F ht⟩) hS.2.2 dX4_init_95
