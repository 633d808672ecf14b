/-! the timetable while it is made: 0 the timetable, 1 ways, 2..5 its rows, 6..11 the ways' rows -/
def cdT (c : ClassId × ClassId × ClassId) (ad : Nat → Nat) (k : Nat) (f : Nat → Int32) : va_E :=
  if k = 0 then .inr (4, [.ref (ad 1), .ref (ad 2), .ref (ad 3), .ref (ad 4), .ref (ad 5), .int (f 5)])
  else if k = 1 then .inl (c.2.2, 6, .inr (.inr (.inr (.inr (fun j => some (ad (6 + j)))))))
  else if k < 6 then .inl (c.1, 40, .inl f)
  else .inl (c.1, 6, .inl f)
abbrev WT (g : dd_G) (ad : Nat → Nat) (sg : dd_S) : va_W := dd_wd 12 (cdT g.2 ad) ad sg
theorem ct_0 {c : ClassId × ClassId × ClassId} {ad : Nat → Nat} {f : Nat → Int32} : cdT c ad 0 f = .inr (4, [.ref (ad 1), .ref (ad 2), .ref (ad 3), .ref (ad 4), .ref (ad 5), .int (f 5)]) := rfl
theorem ct_1 {c : ClassId × ClassId × ClassId} {ad : Nat → Nat} {f : Nat → Int32} : cdT c ad 1 f = .inl (c.2.2, 6, .inr (.inr (.inr (.inr (fun j => some (ad (6 + j))))))) := rfl
theorem ct_rows {c : ClassId × ClassId × ClassId} {ad : Nat → Nat} {f : Nat → Int32} {i : Nat} (h : i < 6) : cdT c ad (6 + i) f = .inl (c.1, 6, .inl f) := by
  have h1 : ¬ 6 + i = 0 := by omega
  have h2 : ¬ 6 + i = 1 := by omega
  have h3 : ¬ 6 + i < 6 := by omega
  simp only [cdT, if_neg h1, if_neg h2, if_neg h3]
def f_X4_init_58 (k_50 : dd_S → Int32 → Option (dd_S)) : Nat → dd_S → Int32 → Int32 → Option (dd_S)
  | 0, _, _, _ => none
  | n + 1, sg, v1, v2 => if (6 : Int32) ≤ v2 then (lt (v1 + (1 : Int32)) (fun x3 : Int32 => k_50 sg x3)) else (gd (ix v1 6) (if v1 = v2 then (gd (ix v2 6) (lt (st2 sg (6 + v1.toNatClampNeg) v2.toNatClampNeg (0 : Int32)) (fun sg10 : dd_S => lt (v2 + (1 : Int32)) (fun x11 : Int32 => f_X4_init_58 k_50 n sg10 v1 x11)))) else (gd (ix v2 6) (lt (st2 sg (6 + v1.toNatClampNeg) v2.toNatClampNeg (15 : Int32)) (fun sg7 : dd_S => lt (v2 + (1 : Int32)) (fun x8 : Int32 => f_X4_init_58 k_50 n sg7 v1 x8))))))
def f_X4_init_50 : Nat → dd_S → Int32 → Option (dd_S)
  | 0, _, _ => none
  | n + 1, sg, v1 => if (6 : Int32) ≤ v1 then (some sg) else (f_X4_init_58 (fun zs z0 => f_X4_init_50 n zs z0) 64 sg v1 (0 : Int32))
def f_X5_init_174 (k_166 : dd_S → Int32 → Option (dd_S)) : Nat → dd_S → Int32 → Int32 → Option (dd_S)
  | 0, _, _, _ => none
  | n + 1, sg, v1, v2 => if (7 : Int32) ≤ v2 then (lt (v1 + (1 : Int32)) (fun x7 : Int32 => k_166 sg x7)) else (gd (ix v1 8) (gd (ix v2 7) (lt (st2 sg (45 + v1.toNatClampNeg) v2.toNatClampNeg (-1 : Int32)) (fun sg10 : dd_S => lt (v2 + (1 : Int32)) (fun x11 : Int32 => f_X5_init_174 k_166 n sg10 v1 x11)))))
def f_X5_init_166 : Nat → dd_S → Int32 → Option (dd_S)
  | 0, _, _ => none
  | n + 1, sg, v1 => if (8 : Int32) ≤ v1 then (some sg) else (f_X5_init_174 (fun zs z0 => f_X5_init_166 n zs z0) 64 sg v1 (0 : Int32))
def f_X5_init_142 : Nat → dd_S → Int32 → Option (dd_S)
  | 0, _, _ => none
  | n + 1, sg, v1 => if (40 : Int32) ≤ v1 then (f_X5_init_166 64 sg (0 : Int32)) else (gd (ix v1 40) (lt (st2 sg 34 v1.toNatClampNeg (-1 : Int32)) (fun sg3 : dd_S => lt (v1 + (1 : Int32)) (fun x4 : Int32 => f_X5_init_142 n sg3 x4))))
theorem gfT_X4_11 {p : Program} {l : Launch} {e : Env} {R : Room} {s : State} {m : MethodId} {args : Array Value} {below : List Frame} {meth : Method} {c : Code} {H : Heap} {locs : List Loc} {cells slots : Nat} {Q : State → Prop} {cc : ByteArray} {pc : Nat} {ls : Array Slot} {rest : List Value} {g : dd_G} {ad : Nat → Nat} {sg : dd_S} {X : va_W} (hx : p.tables.exec = Jvm.exec) (hb : c.code = cc) (hts : ∀ w ∈ lw_all, w.before args s = true) (hown : s.vm.findClass RX4 = some m.cls) (hK : KC g s) (hP : va_P g.1 vwCl (WT g ad sg ++ X) H) (hdg : decode cc pc = .ok (.getfield 11, 3))
    (kk : W p l e R s m args below meth c H locs cells slots Q (F0 m (pc + 3) ls (.ref (ad 1) :: rest))) : W p l e R s m args below meth c H locs cells slots Q (F0 m pc ls (.ref (ad 0) :: rest)) :=
  W_get hx hb hts inw_X4 hown hK hP 0 (by decide) ct_0 rfl 0 (by decide) qw_4 rfl rfl hdg kk
set_option maxHeartbeats 4000000 in
set_option maxRecDepth 100000 in
theorem sg_X4_init {p : Program} {l : Launch} {e : Env} {R : Room} {s : State} {m : MethodId} {args : Array Value} {below : List Frame} {meth : Method} {c : Code} {cells slots : Nat} {Q : State → Prop} {g : dd_G} {ad : Nat → Nat} {X : va_W} {A : Nat → Prop} {H0 : Heap} (hx : p.tables.exec = Jvm.exec) (hb : c.code = cX4_init) (hts : ∀ w ∈ lw_all, w.before args s = true) (hown : s.vm.findClass RX4 = some m.cls) (hK : KC g s) (hD : ∀ s2 : dd_S, va_D A (WT g ad s2 ++ X)) (s0 : dd_S) (fin : ∀ (H : Heap) (locs : List Loc) (ls : Array Slot), va_P g.1 vwCl (WT g ad s0 ++ X) H → va_S A H0 H locs → W p l e R s m args below meth c H locs cells slots Q (F0 m 95 ls [])) : ∀ (sg : dd_S) (v1 : Int32) (H : Heap) (locs : List Loc) (ls : Array Slot), f_X4_init_50 64 sg v1 = some s0 → va_P g.1 vwCl (WT g ad sg ++ X) H → va_S A H0 H locs → lv_has ls 3 [(0, .ref (ad 0)), (1, .int v1)] → W p l e R s m args below meth c H locs cells slots Q (F0 m 50 ls []) := by
  have hL_58 : ∀ (k_50 : dd_S → Int32 → Option (dd_S)) (hk_50 : ∀ (sg : dd_S) (v1 : Int32) (H : Heap) (locs : List Loc) (ls : Array Slot), k_50 sg v1 = some s0 → va_P g.1 vwCl (WT g ad sg ++ X) H → va_S A H0 H locs → lv_has ls 3 [(0, .ref (ad 0)), (1, .int v1)] → W p l e R s m args below meth c H locs cells slots Q (F0 m 50 ls [])) (n : Nat), ∀ (sg : dd_S) (v1 : Int32) (v2 : Int32) (H : Heap) (locs : List Loc) (ls : Array Slot), f_X4_init_58 k_50 n sg v1 v2 = some s0 → va_P g.1 vwCl (WT g ad sg ++ X) H → va_S A H0 H locs → lv_has ls 3 [(0, .ref (ad 0)), (1, .int v1), (2, .int v2)] → W p l e R s m args below meth c H locs cells slots Q (F0 m 58 ls []) := by
    intro k_50 hk_50 n
    induction n with
    | zero =>
      intro sg v1 v2 H locs ls hf
      rw [f_X4_init_58] at hf
      cases hf
    | succ n ih =>
      intro sg v1 v2 H locs ls hf hP hS hl
      rw [f_X4_init_58] at hf
      refine lv_iload_n hx hb dX4_init_58 rfl (lv_at hl 2 rfl) ?_
      refine lv_bipush (v := (6 : Int32)) hx hb dX4_init_59 (by decide) ?_
      refine lv_icmp_ge (tgt := 89) hx hb dX4_init_61 (by decide) (fun c2 => ?_) (fun c2 => ?_)
      · have hf := if_t c2 hf
        obtain ⟨x3, ex3, hf⟩ := lt_ex hf
        refine lv_iinc (v := x3) (lv' := [(1, .int x3), (0, .ref (ad 0)), (2, .int v2)]) hx hb dX4_init_89 hl (k := 1) rfl (by rw [ex3]; rfl) (by decide) rfl (fun ls hl => ?_)
        refine lv_goto (tgt := 50) hx hb dX4_init_92 (by decide) ?_
        exact hk_50 sg x3 _ _ _ hf hP hS (lv_sub hl [1, 0] rfl)
      · have hf := if_f c2 hf
        refine lv_aload_n hx hb dX4_init_64 rfl (lv_at hl 0 rfl) ?_
        refine gfT_X4_11 hx hb hts hown hK hP dX4_init_65 ?_
        refine lv_iload_n hx hb dX4_init_68 rfl (lv_at hl 1 rfl) ?_
        obtain ⟨hi4, hf⟩ := gd_so hf
        refine W_aald (b := fun j => 6 + j) hx hb hK hP 1 (by decide) ct_1 2 rfl rfl (ix_in hi4) dX4_init_69 ?_
        refine lv_iload_n hx hb dX4_init_70 rfl (lv_at hl 2 rfl) ?_
        refine lv_iload_n hx hb dX4_init_71 rfl (lv_at hl 1 rfl) ?_
        refine lv_iload_n hx hb dX4_init_72 rfl (lv_at hl 2 rfl) ?_
        refine lv_icmp_ne (tgt := 80) hx hb dX4_init_73 (by decide) (fun c5 => ?_) (fun c5 => ?_)
        · have hf := if_f c5 hf
          refine lv_bipush (v := (15 : Int32)) hx hb dX4_init_80 (by decide) ?_
          obtain ⟨hi6, hf⟩ := gd_so hf
          obtain ⟨sg7, esg7, hf⟩ := lt_ex hf
          refine W_iast hx hb hK hP hD hS (6 + v1.toNatClampNeg) (by have := ix_lt (m := 6) hi4 (by decide); omega) (fun _ => (ct_rows (ix_lt hi4 (by decide)))) (ix_in hi6) dX4_init_82 (fun H locs hP hS => ?_)
          rw [← esg7] at hP
          obtain ⟨x8, ex8, hf⟩ := lt_ex hf
          refine lv_iinc (v := x8) (lv' := [(2, .int x8), (0, .ref (ad 0)), (1, .int v1)]) hx hb dX4_init_83 hl (k := 2) rfl (by rw [ex8]; rfl) (by decide) rfl (fun ls hl => ?_)
          refine lv_goto (tgt := 58) hx hb dX4_init_86 (by decide) ?_
          exact ih sg7 v1 x8 _ _ _ hf hP hS (lv_sub hl [1, 2, 0] rfl)
        · have hf := if_t c5 hf
          refine lv_iconst (v := (0 : Int32)) hx hb dX4_init_76 (by decide) ?_
          refine lv_goto (tgt := 82) hx hb dX4_init_77 (by decide) ?_
          obtain ⟨hi9, hf⟩ := gd_so hf
          obtain ⟨sg10, esg10, hf⟩ := lt_ex hf
          refine W_iast hx hb hK hP hD hS (6 + v1.toNatClampNeg) (by have := ix_lt (m := 6) hi4 (by decide); omega) (fun _ => (ct_rows (ix_lt hi4 (by decide)))) (ix_in hi9) dX4_init_82 (fun H locs hP hS => ?_)
          rw [← esg10] at hP
          obtain ⟨x11, ex11, hf⟩ := lt_ex hf
          refine lv_iinc (v := x11) (lv' := [(2, .int x11), (0, .ref (ad 0)), (1, .int v1)]) hx hb dX4_init_83 hl (k := 2) rfl (by rw [ex11]; rfl) (by decide) rfl (fun ls hl => ?_)
          refine lv_goto (tgt := 58) hx hb dX4_init_86 (by decide) ?_
          exact ih sg10 v1 x11 _ _ _ hf hP hS (lv_sub hl [1, 2, 0] rfl)
  have hL_50 : ∀ (n : Nat), ∀ (sg : dd_S) (v1 : Int32) (H : Heap) (locs : List Loc) (ls : Array Slot), f_X4_init_50 n sg v1 = some s0 → va_P g.1 vwCl (WT g ad sg ++ X) H → va_S A H0 H locs → lv_has ls 3 [(0, .ref (ad 0)), (1, .int v1)] → W p l e R s m args below meth c H locs cells slots Q (F0 m 50 ls []) := by
    intro n
    induction n with
    | zero =>
      intro sg v1 H locs ls hf
      rw [f_X4_init_50] at hf
      cases hf
    | succ n ih =>
      intro sg v1 H locs ls hf hP hS hl
      rw [f_X4_init_50] at hf
      refine lv_iload_n hx hb dX4_init_50 rfl (lv_at hl 1 rfl) ?_
      refine lv_bipush (v := (6 : Int32)) hx hb dX4_init_51 (by decide) ?_
      refine lv_icmp_ge (tgt := 95) hx hb dX4_init_53 (by decide) (fun c1 => ?_) (fun c1 => ?_)
      · have hf := if_t c1 hf
        obtain rfl := so1 hf
        exact fin _ _ _ hP hS
      · have hf := if_f c1 hf
        refine lv_iconst (v := (0 : Int32)) hx hb dX4_init_56 (by decide) ?_
        refine lv_istore_n (lv' := [(2, .int (0 : Int32)), (0, .ref (ad 0)), (1, .int v1)]) hx hb dX4_init_57 rfl hl (by decide) rfl (fun ls hl => ?_)
        exact hL_58 (fun zs z0 => f_X4_init_50 n zs z0) ih 64 sg v1 (0 : Int32) _ _ _ hf hP hS (lv_sub hl [1, 2, 0] rfl)
  exact hL_50 64
set_option maxHeartbeats 4000000 in
set_option maxRecDepth 100000 in
theorem sg_X5_init {p : Program} {l : Launch} {e : Env} {R : Room} {s : State} {m : MethodId} {args : Array Value} {below : List Frame} {meth : Method} {c : Code} {cells slots : Nat} {Q : State → Prop} {g : dd_G} {ad : Nat → Nat} {X : va_W} {A : Nat → Prop} {H0 : Heap} (hx : p.tables.exec = Jvm.exec) (hb : c.code = cX5_init) (hts : ∀ w ∈ lw_all, w.before args s = true) (hown : s.vm.findClass RX5 = some m.cls) (hK : KC g s) (hD : ∀ s2 : dd_S, va_D A (WC g ad s2 ++ X)) (s0 : dd_S) (fin : ∀ (H : Heap) (locs : List Loc) (ls : Array Slot), va_P g.1 vwCl (WC g ad s0 ++ X) H → va_S A H0 H locs → W p l e R s m args below meth c H locs cells slots Q (F0 m 201 ls [])) : ∀ (sg : dd_S) (v1 : Int32) (H : Heap) (locs : List Loc) (ls : Array Slot), f_X5_init_142 64 sg v1 = some s0 → va_P g.1 vwCl (WC g ad sg ++ X) H → va_S A H0 H locs → lv_has ls 3 [(0, .ref (ad 30)), (1, .int v1)] → W p l e R s m args below meth c H locs cells slots Q (F0 m 142 ls []) := by
  have hL_174 : ∀ (k_166 : dd_S → Int32 → Option (dd_S)) (hk_166 : ∀ (sg : dd_S) (v1 : Int32) (H : Heap) (locs : List Loc) (ls : Array Slot), k_166 sg v1 = some s0 → va_P g.1 vwCl (WC g ad sg ++ X) H → va_S A H0 H locs → lv_has ls 3 [(0, .ref (ad 30)), (1, .int v1)] → W p l e R s m args below meth c H locs cells slots Q (F0 m 166 ls [])) (n : Nat), ∀ (sg : dd_S) (v1 : Int32) (v2 : Int32) (H : Heap) (locs : List Loc) (ls : Array Slot), f_X5_init_174 k_166 n sg v1 v2 = some s0 → va_P g.1 vwCl (WC g ad sg ++ X) H → va_S A H0 H locs → lv_has ls 3 [(0, .ref (ad 30)), (1, .int v1), (2, .int v2)] → W p l e R s m args below meth c H locs cells slots Q (F0 m 174 ls []) := by
    intro k_166 hk_166 n
    induction n with
    | zero =>
      intro sg v1 v2 H locs ls hf
      rw [f_X5_init_174] at hf
      cases hf
    | succ n ih =>
      intro sg v1 v2 H locs ls hf hP hS hl
      rw [f_X5_init_174] at hf
      refine lv_iload_n hx hb dX5_init_174 rfl (lv_at hl 2 rfl) ?_
      refine lv_bipush (v := (7 : Int32)) hx hb dX5_init_175 (by decide) ?_
      refine lv_icmp_ge (tgt := 195) hx hb dX5_init_177 (by decide) (fun c6 => ?_) (fun c6 => ?_)
      · have hf := if_t c6 hf
        obtain ⟨x7, ex7, hf⟩ := lt_ex hf
        refine lv_iinc (v := x7) (lv' := [(1, .int x7), (0, .ref (ad 30)), (2, .int v2)]) hx hb dX5_init_195 hl (k := 1) rfl (by rw [ex7]; rfl) (by decide) rfl (fun ls hl => ?_)
        refine lv_goto (tgt := 166) hx hb dX5_init_198 (by decide) ?_
        exact hk_166 sg x7 _ _ _ hf hP hS (lv_sub hl [1, 0] rfl)
      · have hf := if_f c6 hf
        refine lv_aload_n hx hb dX5_init_180 rfl (lv_at hl 0 rfl) ?_
        refine gf_X5_35 hx hb hts hown hK hP dX5_init_181 ?_
        refine lv_iload_n hx hb dX5_init_184 rfl (lv_at hl 1 rfl) ?_
        obtain ⟨hi8, hf⟩ := gd_so hf
        refine W_aald (b := fun j => 45 + j) hx hb hK hP 35 (by decide) cc_35 2 rfl rfl (ix_in hi8) dX5_init_185 ?_
        refine lv_iload_n hx hb dX5_init_186 rfl (lv_at hl 2 rfl) ?_
        refine lv_iconst (v := (-1 : Int32)) hx hb dX5_init_187 (by decide) ?_
        obtain ⟨hi9, hf⟩ := gd_so hf
        obtain ⟨sg10, esg10, hf⟩ := lt_ex hf
        refine W_iast hx hb hK hP hD hS (45 + v1.toNatClampNeg) (by have := ix_lt (m := 8) hi8 (by decide); omega) (fun _ => (cc_roster (ix_lt hi8 (by decide)))) (ix_in hi9) dX5_init_188 (fun H locs hP hS => ?_)
        rw [← esg10] at hP
        obtain ⟨x11, ex11, hf⟩ := lt_ex hf
        refine lv_iinc (v := x11) (lv' := [(2, .int x11), (0, .ref (ad 30)), (1, .int v1)]) hx hb dX5_init_189 hl (k := 2) rfl (by rw [ex11]; rfl) (by decide) rfl (fun ls hl => ?_)
        refine lv_goto (tgt := 174) hx hb dX5_init_192 (by decide) ?_
        exact ih sg10 v1 x11 _ _ _ hf hP hS (lv_sub hl [1, 2, 0] rfl)
  have hL_166 : ∀ (n : Nat), ∀ (sg : dd_S) (v1 : Int32) (H : Heap) (locs : List Loc) (ls : Array Slot), f_X5_init_166 n sg v1 = some s0 → va_P g.1 vwCl (WC g ad sg ++ X) H → va_S A H0 H locs → lv_has ls 3 [(0, .ref (ad 30)), (1, .int v1)] → W p l e R s m args below meth c H locs cells slots Q (F0 m 166 ls []) := by
    intro n
    induction n with
    | zero =>
      intro sg v1 H locs ls hf
      rw [f_X5_init_166] at hf
      cases hf
    | succ n ih =>
      intro sg v1 H locs ls hf hP hS hl
      rw [f_X5_init_166] at hf
      refine lv_iload_n hx hb dX5_init_166 rfl (lv_at hl 1 rfl) ?_
      refine lv_bipush (v := (8 : Int32)) hx hb dX5_init_167 (by decide) ?_
      refine lv_icmp_ge (tgt := 201) hx hb dX5_init_169 (by decide) (fun c5 => ?_) (fun c5 => ?_)
      · have hf := if_t c5 hf
        obtain rfl := so1 hf
        exact fin _ _ _ hP hS
      · have hf := if_f c5 hf
        refine lv_iconst (v := (0 : Int32)) hx hb dX5_init_172 (by decide) ?_
        refine lv_istore_n (lv' := [(2, .int (0 : Int32)), (0, .ref (ad 30)), (1, .int v1)]) hx hb dX5_init_173 rfl hl (by decide) rfl (fun ls hl => ?_)
        exact hL_174 (fun zs z0 => f_X5_init_166 n zs z0) ih 64 sg v1 (0 : Int32) _ _ _ hf hP hS (lv_sub hl [1, 2, 0] rfl)
  have hL_142 : ∀ (n : Nat), ∀ (sg : dd_S) (v1 : Int32) (H : Heap) (locs : List Loc) (ls : Array Slot), f_X5_init_142 n sg v1 = some s0 → va_P g.1 vwCl (WC g ad sg ++ X) H → va_S A H0 H locs → lv_has ls 3 [(0, .ref (ad 30)), (1, .int v1)] → W p l e R s m args below meth c H locs cells slots Q (F0 m 142 ls []) := by
    intro n
    induction n with
    | zero =>
      intro sg v1 H locs ls hf
      rw [f_X5_init_142] at hf
      cases hf
    | succ n ih =>
      intro sg v1 H locs ls hf hP hS hl
      rw [f_X5_init_142] at hf
      refine lv_iload_n hx hb dX5_init_142 rfl (lv_at hl 1 rfl) ?_
      refine lv_aload_n hx hb dX5_init_143 rfl (lv_at hl 0 rfl) ?_
      refine gf_X5_29 hx hb hts hown hK hP dX5_init_144 ?_
      refine W_alen (v := (40 : Int32)) hx hb hK hP 34 (by decide) cc_34 0 rfl (by decide) dX5_init_147 ?_
      refine lv_icmp_ge (tgt := 164) hx hb dX5_init_148 (by decide) (fun c1 => ?_) (fun c1 => ?_)
      · have hf := if_t c1 hf
        refine lv_iconst (v := (0 : Int32)) hx hb dX5_init_164 (by decide) ?_
        refine lv_istore_n (lv' := [(1, .int (0 : Int32)), (0, .ref (ad 30))]) hx hb dX5_init_165 rfl hl (by decide) rfl (fun ls hl => ?_)
        exact hL_166 64 sg (0 : Int32) _ _ _ hf hP hS (lv_sub hl [1, 0] rfl)
      · have hf := if_f c1 hf
        refine lv_aload_n hx hb dX5_init_151 rfl (lv_at hl 0 rfl) ?_
        refine gf_X5_29 hx hb hts hown hK hP dX5_init_152 ?_
        refine lv_iload_n hx hb dX5_init_155 rfl (lv_at hl 1 rfl) ?_
        refine lv_iconst (v := (-1 : Int32)) hx hb dX5_init_156 (by decide) ?_
        obtain ⟨hi2, hf⟩ := gd_so hf
        obtain ⟨sg3, esg3, hf⟩ := lt_ex hf
        refine W_iast hx hb hK hP hD hS 34 (by decide) (fun _ => cc_34) (ix_in hi2) dX5_init_157 (fun H locs hP hS => ?_)
        rw [← esg3] at hP
        obtain ⟨x4, ex4, hf⟩ := lt_ex hf
        refine lv_iinc (v := x4) (lv' := [(1, .int x4), (0, .ref (ad 30))]) hx hb dX5_init_158 hl (k := 1) rfl (by rw [ex4]; rfl) (by decide) rfl (fun ls hl => ?_)
        refine lv_goto (tgt := 142) hx hb dX5_init_161 (by decide) ?_
        exact ih sg3 x4 _ _ _ hf hP hS (lv_sub hl [1, 0] rfl)
  exact hL_142 64
