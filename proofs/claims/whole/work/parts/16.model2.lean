/-! a row that a method makes for itself: behind the world -/
def TM (g : dd_G) (n : Nat) (cd : Nat → (Nat → Int32) → va_E) (ad : Nat → Nat) (X : va_W) (s : State) (q : Nat) (cA : ClassId) (ty : FieldType) (N : Nat) : Prop :=
  s.heap.size ≤ q ∧ va_K g.1 vwCl (dd_tys g.2 ++ [(cA, ty)]) s ∧ ∀ (s2 : dd_S) (f : Nat → Int32), va_D (dd_A n ad X s.heap.size) (dd_wd n cd ad s2 ++ (X ++ [(q, .inl (cA, N, .inl f))]))
theorem dd_tmp {n : Nat} {cd : Nat → (Nat → Int32) → va_E} {ad : Nat → Nat} {sg : dd_S} {X : va_W} {t : Nat × va_E} : (dd_wd n cd ad sg ++ (X ++ [t]))[n + X.length]? = some t := by
  rw [← List.append_assoc, List.getElem?_append_right (by simp [dd_wd])]
  simp [dd_wd]
theorem dd_tmpset {n : Nat} {cd : Nat → (Nat → Int32) → va_E} {ad : Nat → Nat} {sg : dd_S} {X : va_W} {t t2 : Nat × va_E} : (dd_wd n cd ad sg ++ (X ++ [t])).set (n + X.length) t2 = dd_wd n cd ad sg ++ (X ++ [t2]) := by
  rw [← List.append_assoc, List.set_append_right (h := by simp [dd_wd])]
  simp [dd_wd]
theorem P_drop {D : va_G} {cl : List vw_C} {w X : va_W} {t : Nat × va_E} {H : Heap} (h : va_P D cl (w ++ (X ++ [t])) H) : va_P D cl (w ++ X) H := by
  intro k q hk
  refine h k q ?_
  rw [← List.append_assoc, List.getElem?_append_left (List.getElem?_eq_some_iff.mp hk).1]
  exact hk
section
variable {p : Program} {l : Launch} {e : Env} {R : Room} {s : State} {m : MethodId} {args : Array Value} {below : List Frame} {meth : Method} {c : Code} {H : Heap} {locs : List Loc} {cells slots : Nat} {Q : State → Prop}
variable {cc : ByteArray} {pc : Nat} {ls : Array Slot} {rest : List Value} {g : dd_G} {ad : Nat → Nat} {sg : dd_S}
theorem W_newT {n N : Nat} {cd : Nat → (Nat → Int32) → va_E} {X : va_W} {atype : ArrayType} {ty : FieldType} (hx : p.tables.exec = Jvm.exec) (hb : c.code = cc) (harr : (Cond.arrayClass (newarray.typeOf atype)).before args s = true) (hty : newarray.typeOf atype = ty) (hK : KC g s) (hP : va_P g.1 vwCl (dd_wd n cd ad sg ++ X) H) (hD : ∀ s2 : dd_S, va_D (dd_A n ad X s.heap.size) (dd_wd n cd ad s2 ++ X)) (hS : va_S (dd_A n ad X s.heap.size) s.heap H locs)
    {nn : Int32} (ha : ∀ cA : ClassId, vp_cell cA (N, .inl (fun _ => 0)) = arrV cA N (fun _ => defaultValue ty)) (hn : ¬ nn < 0) (hN : nn.toNatClampNeg = N) (hbytes : N * componentBytes ty ≤ 536870912) (hcells : cells + 1 ≤ R.cells) (hslots : slots + N ≤ R.slots) (hdg : decode cc pc = .ok (.newarray atype, 2))
    (kk : ∀ (q : Nat) (cA : ClassId) (H1 : Heap), TM g n cd ad X s q cA ty N → va_P g.1 vwCl (dd_wd n cd ad sg ++ (X ++ [(q, .inl (cA, N, .inl (fun _ => 0)))])) H1 → va_S (dd_A n ad X s.heap.size) s.heap H1 locs →
      W p l e R s m args below meth c H1 locs (cells + 1) (slots + N) Q (F0 m (pc + 2) ls (.ref q :: rest))) : W p l e R s m args below meth c H locs cells slots Q (F0 m pc ls (.int nn :: rest)) := by
  refine va_newa (ty := ty) hx hb harr hty hK.1 hP (hD sg) hS (fun q h => dd_A_new h) (a0 := (N, .inl (fun _ => 0))) ha hn hN hbytes hcells hslots hdg (fun q cA H1 hK1 hP1 hD1 hS1 => ?_)
  rw [List.append_assoc] at hP1 hD1
  refine kk q cA H1 ⟨?_, hK1, fun s2 f => dd_ads hD1 (by simp [dd_wd])⟩ hP1 hS1
  have hq := hD1.2 _ _ dd_tmp
  rcases hq with ⟨k, hk, e1⟩ | ⟨x, hx1, e1⟩ | h1
  · have h2 := hD1.1 _ _ _ _ (dd_at hk rfl) dd_tmp e1.symm
    omega
  · obtain ⟨i, hi⟩ := List.getElem?_of_mem hx1
    have hil := (List.getElem?_eq_some_iff.mp hi).1
    have h3 : (dd_wd n cd ad sg ++ (X ++ [(q, .inl (cA, N, .inl (fun _ => 0)))]))[n + i]? = some x := by
      rw [List.getElem?_append_right (by simp [dd_wd])]
      simp only [dd_len, Nat.add_sub_cancel_left]
      rw [List.getElem?_append_left hil]
      exact hi
    have h2 := hD1.1 _ _ _ _ h3 dd_tmp e1.symm
    omega
  · exact h1
end
def f_X6_told_92 (a1 : Int32) (a2 : Int32) (sg : dd_S) (tm : (Nat → Int32)) (t0 : Int32) (t1 : Int32) : Option (Int32 × dd_S) := gd (ix t1 9) (lt (upd tm t1.toNatClampNeg t0) (fun tm26 : Nat → Int32 => gd (ix a2 9) (some ((tm26 a2.toNatClampNeg), sg))))
def f_X6_told_75 (a1 : Int32) (a2 : Int32) (sg : dd_S) (tm : (Nat → Int32)) (t0 : Int32) (t1 : Int32) : Option (Int32 × dd_S) := gd (ix t1 9) (lt (upd tm t1.toNatClampNeg t0) (fun tm21 : Nat → Int32 => bd (f_X6_isFixed sg a1) (fun r23 : Int32 => if r23 = (0 : Int32) then (f_X6_told_92 a1 a2 sg tm21 (0 : Int32) (8 : Int32)) else (f_X6_told_92 a1 a2 sg tm21 (1 : Int32) (8 : Int32)))))
def f_X6_told (sg : dd_S) (a1 : Int32) (a2 : Int32) : Option (Int32 × dd_S) := bd2 (f_X6_look sg a1) (fun (r3 : Int32) (sg2 : dd_S) => lt (fun _ : Nat => (0 : Int32)) (fun tm4 : Nat → Int32 => gd (ix (0 : Int32) 9) (lt (upd tm4 (0 : Int32).toNatClampNeg (sg2 0 16)) (fun tm6 : Nat → Int32 => gd (ix (1 : Int32) 9) (lt (upd tm6 (1 : Int32).toNatClampNeg (sg2 0 17)) (fun tm8 : Nat → Int32 => gd (ix (2 : Int32) 9) (lt (upd tm8 (2 : Int32).toNatClampNeg (sg2 0 18)) (fun tm10 : Nat → Int32 => gd (ix (3 : Int32) 9) (lt (upd tm10 (3 : Int32).toNatClampNeg (sg2 0 19)) (fun tm12 : Nat → Int32 => gd (ix (4 : Int32) 9) (lt (upd tm12 (4 : Int32).toNatClampNeg (sg2 0 20)) (fun tm14 : Nat → Int32 => gd (ix (5 : Int32) 9) (lt (upd tm14 (5 : Int32).toNatClampNeg (sg2 0 21)) (fun tm16 : Nat → Int32 => gd (ix (6 : Int32) 9) (lt (upd tm16 (6 : Int32).toNatClampNeg (sg2 0 22)) (fun tm18 : Nat → Int32 => if (sg2 0 23) = (0 : Int32) then (f_X6_told_75 a1 a2 sg2 tm18 (0 : Int32) (7 : Int32)) else (f_X6_told_75 a1 a2 sg2 tm18 (1 : Int32) (7 : Int32))))))))))))))))))
def f_X6_duty_37 (a1 : Int32) (a2 : Int32) (sg : dd_S) (t0 : Int32) : Option (Int32 × dd_S) := some (t0, sg)
def f_X6_duty_32 (a1 : Int32) (a2 : Int32) (sg : dd_S) : Option (Int32 × dd_S) := bd2 (f_X6_no sg (1 : Int32)) (fun (r13 : Int32) (sg12 : dd_S) => f_X6_duty_37 a1 a2 sg12 r13)
def f_X6_duty (sg : dd_S) (a1 : Int32) (a2 : Int32) : Option (Int32 × dd_S) := lt (st2 sg 0 0 (0 : Int32)) (fun sg1 : dd_S => bd (f_X6_isDuty sg1 a1) (fun r3 : Int32 => if r3 = (0 : Int32) then (f_X6_duty_32 a1 a2 sg1) else (bd (f_X6_isIn sg1 a2 (0 : Int32) (8 : Int32)) (fun r6 : Int32 => if r6 = (0 : Int32) then (f_X6_duty_32 a1 a2 sg1) else (bd2 (f_X6_told sg1 a1 a2) (fun (r10 : Int32) (sg9 : dd_S) => f_X6_duty_37 a1 a2 sg9 r10))))))
def f_X6_plan_76 (k_12 : dd_S → (Nat → Int32) → Int32 → Option (Int32 × dd_S)) (k_25 : dd_S → (Nat → Int32) → Int32 → Int32 → Int32 → Option (Int32 × dd_S)) (sg : dd_S) (tm : (Nat → Int32)) (v2 : Int32) (v3 : Int32) (v4 : Int32) : Option (Int32 × dd_S) := lt (v4 + (1 : Int32)) (fun x21 : Int32 => k_25 sg tm v2 v3 x21)
def f_X6_plan_73 (k_12 : dd_S → (Nat → Int32) → Int32 → Option (Int32 × dd_S)) (k_25 : dd_S → (Nat → Int32) → Int32 → Int32 → Int32 → Option (Int32 × dd_S)) (sg : dd_S) (tm : (Nat → Int32)) (v2 : Int32) (v4 : Int32) : Option (Int32 × dd_S) := f_X6_plan_76 k_12 k_25 sg tm v2 v4 v4
def f_X6_plan_105 (sg : dd_S) (tm : (Nat → Int32)) : Option (Int32 × dd_S) := bd (f_X6_freeTrips sg) (fun r5 : Int32 => some (r5, sg))
def f_X6_plan_25 (k_12 : dd_S → (Nat → Int32) → Int32 → Option (Int32 × dd_S)) : Nat → dd_S → (Nat → Int32) → Int32 → Int32 → Int32 → Option (Int32 × dd_S)
  | 0, _, _, _, _, _ => none
  | n + 1, sg, tm, v2, v3, v4 => if (sg 0 2) ≤ v4 then (if v3 = (-1 : Int32) then (f_X6_plan_105 sg tm) else (gd (ix v3 40) (lt (upd tm v3.toNatClampNeg (1 : Int32)) (fun tm9 : Nat → Int32 => bd (f_X6_place sg v3) (fun sg11 : dd_S => lt (v2 + (1 : Int32)) (fun x12 : Int32 => k_12 sg11 tm9 x12)))))) else (gd (ix v4 40) (if (tm v4.toNatClampNeg) = (0 : Int32) then (gd (ix v4 40) (if (sg 6 v4.toNatClampNeg) = (-1 : Int32) then (if v3 = (-1 : Int32) then (f_X6_plan_73 k_12 (fun zs zt z0 z1 z2 => f_X6_plan_25 k_12 n zs zt z0 z1 z2) sg tm v2 v4) else (gd (ix v4 40) (gd (ix v3 40) (if (sg 4 v3.toNatClampNeg) ≤ (sg 4 v4.toNatClampNeg) then (f_X6_plan_76 k_12 (fun zs zt z0 z1 z2 => f_X6_plan_25 k_12 n zs zt z0 z1 z2) sg tm v2 v3 v4) else (f_X6_plan_73 k_12 (fun zs zt z0 z1 z2 => f_X6_plan_25 k_12 n zs zt z0 z1 z2) sg tm v2 v4))))) else (f_X6_plan_76 k_12 (fun zs zt z0 z1 z2 => f_X6_plan_25 k_12 n zs zt z0 z1 z2) sg tm v2 v3 v4))) else (f_X6_plan_76 k_12 (fun zs zt z0 z1 z2 => f_X6_plan_25 k_12 n zs zt z0 z1 z2) sg tm v2 v3 v4)))
def f_X6_plan_12 : Nat → dd_S → (Nat → Int32) → Int32 → Option (Int32 × dd_S)
  | 0, _, _, _ => none
  | n + 1, sg, tm, v2 => if (sg 0 2) ≤ v2 then (f_X6_plan_105 sg tm) else (f_X6_plan_25 (fun zs zt z0 => f_X6_plan_12 n zs zt z0) 64 sg tm v2 (-1 : Int32) (0 : Int32))
def f_X6_plan (sg : dd_S) : Option (Int32 × dd_S) := lt (st2 sg 0 0 (0 : Int32)) (fun sg1 : dd_S => lt (fun _ : Nat => (0 : Int32)) (fun tm2 : Nat → Int32 => f_X6_plan_12 64 sg1 tm2 (0 : Int32)))
def f_X6_fill_114 (a1 : Int32) (k_28 : dd_S → (Nat → Int32) → Int32 → Int32 → Option (Int32 × dd_S)) (k_46 : dd_S → (Nat → Int32) → Int32 → Int32 → Int32 → Int32 → Int32 → Option (Int32 × dd_S)) (sg : dd_S) (tm : (Nat → Int32)) (v3 : Int32) (v4 : Int32) (v5 : Int32) (v6 : Int32) (v7 : Int32) : Option (Int32 × dd_S) := lt (v7 + (1 : Int32)) (fun x42 : Int32 => k_46 sg tm v3 v4 v5 v6 x42)
def f_X6_fill_104 (a1 : Int32) (k_28 : dd_S → (Nat → Int32) → Int32 → Int32 → Option (Int32 × dd_S)) (k_46 : dd_S → (Nat → Int32) → Int32 → Int32 → Int32 → Int32 → Int32 → Option (Int32 × dd_S)) (sg : dd_S) (tm : (Nat → Int32)) (v3 : Int32) (v4 : Int32) (v7 : Int32) : Option (Int32 × dd_S) := f_X6_fill_114 a1 k_28 k_46 sg tm v3 v4 v7 (sg 0 17) v7
def f_X6_fill_186 (a1 : Int32) (k_28 : dd_S → (Nat → Int32) → Int32 → Int32 → Option (Int32 × dd_S)) (k_140 : dd_S → (Nat → Int32) → Int32 → Int32 → Int32 → Int32 → Int32 → Option (Int32 × dd_S)) (sg : dd_S) (tm : (Nat → Int32)) (v3 : Int32) (v4 : Int32) (v5 : Int32) (v7 : Int32) (v8 : Int32) : Option (Int32 × dd_S) := lt (v8 + (1 : Int32)) (fun x44 : Int32 => k_140 sg tm v3 v4 v5 v7 x44)
def f_X6_fill_182 (a1 : Int32) (k_28 : dd_S → (Nat → Int32) → Int32 → Int32 → Option (Int32 × dd_S)) (k_140 : dd_S → (Nat → Int32) → Int32 → Int32 → Int32 → Int32 → Int32 → Option (Int32 × dd_S)) (sg : dd_S) (tm : (Nat → Int32)) (v3 : Int32) (v4 : Int32) (v5 : Int32) (v8 : Int32) : Option (Int32 × dd_S) := f_X6_fill_186 a1 k_28 k_140 sg tm v3 v4 v5 v8 v8
def f_X6_fill_218 (a1 : Int32) (k_28 : dd_S → (Nat → Int32) → Int32 → Int32 → Option (Int32 × dd_S)) (sg : dd_S) (tm : (Nat → Int32)) (v3 : Int32) (v4 : Int32) : Option (Int32 × dd_S) := lt (v4 + (1 : Int32)) (fun x43 : Int32 => k_28 sg tm v3 x43)
def f_X6_fill_140 (a1 : Int32) (k_28 : dd_S → (Nat → Int32) → Int32 → Int32 → Option (Int32 × dd_S)) : Nat → dd_S → (Nat → Int32) → Int32 → Int32 → Int32 → Int32 → Int32 → Option (Int32 × dd_S)
  | 0, _, _, _, _, _, _, _ => none
  | n + 1, sg, tm, v3, v4, v5, v7, v8 => if (sg 0 9) ≤ v8 then (if v7 = (-1 : Int32) then (lt (v3 + (1 : Int32)) (fun x29 : Int32 => f_X6_fill_218 a1 k_28 sg tm x29 v4)) else (gd (ix (((7 : Int32) * v7) + a1) 56) (lt (st2 sg 7 (((7 : Int32) * v7) + a1).toNatClampNeg v5) (fun sg28 : dd_S => f_X6_fill_218 a1 k_28 sg28 tm v3 v4)))) else (bd2 (f_X6_reasonFor sg v8 a1 v5) (fun (r32 : Int32) (sg31 : dd_S) => if r32 = (0 : Int32) then (if v7 = (-1 : Int32) then (f_X6_fill_182 a1 k_28 (fun zs zt z0 z1 z2 z3 z4 => f_X6_fill_140 a1 k_28 n zs zt z0 z1 z2 z3 z4) sg31 tm v3 v4 v5 v8) else (bd2 (f_X6_weekOf sg31 v8) (fun (r37 : Int32) (sg36 : dd_S) => bd2 (f_X6_weekOf sg36 v7) (fun (r40 : Int32) (sg39 : dd_S) => if r40 ≤ r37 then (f_X6_fill_186 a1 k_28 (fun zs zt z0 z1 z2 z3 z4 => f_X6_fill_140 a1 k_28 n zs zt z0 z1 z2 z3 z4) sg39 tm v3 v4 v5 v7 v8) else (f_X6_fill_182 a1 k_28 (fun zs zt z0 z1 z2 z3 z4 => f_X6_fill_140 a1 k_28 n zs zt z0 z1 z2 z3 z4) sg39 tm v3 v4 v5 v8))))) else (f_X6_fill_186 a1 k_28 (fun zs zt z0 z1 z2 z3 z4 => f_X6_fill_140 a1 k_28 n zs zt z0 z1 z2 z3 z4) sg31 tm v3 v4 v5 v7 v8)))
def f_X6_fill_224 (a1 : Int32) (sg : dd_S) (tm : (Nat → Int32)) (v3 : Int32) : Option (Int32 × dd_S) := some (v3, sg)
def f_X6_fill_46 (a1 : Int32) (k_28 : dd_S → (Nat → Int32) → Int32 → Int32 → Option (Int32 × dd_S)) : Nat → dd_S → (Nat → Int32) → Int32 → Int32 → Int32 → Int32 → Int32 → Option (Int32 × dd_S)
  | 0, _, _, _, _, _, _, _ => none
  | n + 1, sg, tm, v3, v4, v5, v6, v7 => if (sg 0 8) ≤ v7 then (if v5 = (-1 : Int32) then (f_X6_fill_224 a1 sg tm v3) else (gd (ix v5 12) (lt (upd tm v5.toNatClampNeg (1 : Int32)) (fun tm13 : Nat → Int32 => f_X6_fill_140 a1 k_28 64 sg tm13 v3 v4 v5 (-1 : Int32) (0 : Int32))))) else (bd2 (f_X6_look sg v7) (fun (r16 : Int32) (sg15 : dd_S) => gd (ix v7 12) (if (tm v7.toNatClampNeg) = (0 : Int32) then (if (sg15 0 16) = (0 : Int32) then (f_X6_fill_114 a1 k_28 (fun zs zt z0 z1 z2 z3 z4 => f_X6_fill_46 a1 k_28 n zs zt z0 z1 z2 z3 z4) sg15 tm v3 v4 v5 v6 v7) else (bd (f_X6_isTaken sg15 a1 v7) (fun r21 : Int32 => if r21 = (0 : Int32) then (if v5 = (-1 : Int32) then (f_X6_fill_104 a1 k_28 (fun zs zt z0 z1 z2 z3 z4 => f_X6_fill_46 a1 k_28 n zs zt z0 z1 z2 z3 z4) sg15 tm v3 v4 v7) else (if (sg15 0 17) < v6 then (f_X6_fill_104 a1 k_28 (fun zs zt z0 z1 z2 z3 z4 => f_X6_fill_46 a1 k_28 n zs zt z0 z1 z2 z3 z4) sg15 tm v3 v4 v7) else (f_X6_fill_114 a1 k_28 (fun zs zt z0 z1 z2 z3 z4 => f_X6_fill_46 a1 k_28 n zs zt z0 z1 z2 z3 z4) sg15 tm v3 v4 v5 v6 v7))) else (f_X6_fill_114 a1 k_28 (fun zs zt z0 z1 z2 z3 z4 => f_X6_fill_46 a1 k_28 n zs zt z0 z1 z2 z3 z4) sg15 tm v3 v4 v5 v6 v7)))) else (f_X6_fill_114 a1 k_28 (fun zs zt z0 z1 z2 z3 z4 => f_X6_fill_46 a1 k_28 n zs zt z0 z1 z2 z3 z4) sg15 tm v3 v4 v5 v6 v7))))
def f_X6_fill_28 (a1 : Int32) : Nat → dd_S → (Nat → Int32) → Int32 → Int32 → Option (Int32 × dd_S)
  | 0, _, _, _, _ => none
  | n + 1, sg, tm, v3, v4 => if (sg 0 8) ≤ v4 then (f_X6_fill_224 a1 sg tm v3) else (f_X6_fill_46 a1 (fun zs zt z0 z1 => f_X6_fill_28 a1 n zs zt z0 z1) 64 sg tm v3 v4 (-1 : Int32) (0 : Int32) (0 : Int32))
def f_X6_fill (sg : dd_S) (a1 : Int32) : Option (Int32 × dd_S) := lt (st2 sg 0 0 (0 : Int32)) (fun sg1 : dd_S => bd (f_X6_isDay sg1 a1) (fun r3 : Int32 => if r3 = (0 : Int32) then (bd2 (f_X6_no sg1 (1 : Int32)) (fun (r8 : Int32) (sg7 : dd_S) => some (r8, sg7))) else (lt (fun _ : Nat => (0 : Int32)) (fun tm5 : Nat → Int32 => f_X6_fill_28 a1 64 sg1 tm5 (0 : Int32) (0 : Int32)))))
def f_X6_digest_118 (k_107 : dd_S → Nat → Int64 → Int32 → Option (Int64 × dd_S)) : Nat → dd_S → Nat → Int64 → Int32 → Int32 → Option (Int64 × dd_S)
  | 0, _, _, _, _, _ => none
  | n + 1, sg, ct, v1, v3, v4 => if (9 : Int32) ≤ v4 then (lt (v3 + (1 : Int32)) (fun x19 : Int32 => k_107 sg ct v1 x19)) else (gd (decide (ct < 108)) (bd2 (f_X6_told sg v3 v4) (fun (r22 : Int32) (sg21 : dd_S) => lt (ct + 1) (fun ct24 : Nat => lt ((v1 * (31 : Int64)) + r22.toInt64) (fun x25 : Int64 => lt (v4 + (1 : Int32)) (fun x26 : Int32 => f_X6_digest_118 k_107 n sg21 ct24 x25 v3 x26))))))
def f_X6_digest_166 : Nat → dd_S → Nat → Int64 → Int32 → Option (Int64 × dd_S)
  | 0, _, _, _, _ => none
  | n + 1, sg, ct, v1, v3 => if ((7 : Int32) * (sg 0 9)) ≤ v3 then (some (v1, sg)) else (gd (ix v3 56) (lt ((v1 * (31 : Int64)) + (sg 7 v3.toNatClampNeg).toInt64) (fun x16 : Int64 => lt (v3 + (1 : Int32)) (fun x17 : Int32 => f_X6_digest_166 n sg ct x16 x17))))
def f_X6_digest_107 : Nat → dd_S → Nat → Int64 → Int32 → Option (Int64 × dd_S)
  | 0, _, _, _, _ => none
  | n + 1, sg, ct, v1, v3 => if (sg 0 8) ≤ v3 then (lt ((v1 * (31 : Int64)) + (sg 0 9).toInt64) (fun x13 : Int64 => f_X6_digest_166 64 sg ct x13 (0 : Int32))) else (f_X6_digest_118 (fun zs zc z0 z1 => f_X6_digest_107 n zs zc z0 z1) 64 sg ct v1 v3 (0 : Int32))
def f_X6_digest_17 : Nat → dd_S → Nat → Int64 → Int32 → Option (Int64 × dd_S)
  | 0, _, _, _, _ => none
  | n + 1, sg, ct, v1, v3 => if (sg 0 2) ≤ v3 then (lt ((v1 * (31 : Int64)) + (sg 0 8).toInt64) (fun x4 : Int64 => f_X6_digest_107 64 sg ct x4 (0 : Int32))) else (gd (ix v3 40) (gd (ix v3 40) (gd (ix v3 40) (gd (ix v3 40) (gd (ix v3 40) (lt ((((((((((v1 * (31 : Int64)) + (sg 2 v3.toNatClampNeg).toInt64) * (31 : Int64)) + (sg 3 v3.toNatClampNeg).toInt64) * (31 : Int64)) + (sg 4 v3.toNatClampNeg).toInt64) * (31 : Int64)) + (sg 5 v3.toNatClampNeg).toInt64) * (31 : Int64)) + (sg 6 v3.toNatClampNeg).toInt64) (fun x10 : Int64 => lt (v3 + (1 : Int32)) (fun x11 : Int32 => f_X6_digest_17 n sg ct x10 x11))))))))
def f_X6_digest (sg : dd_S) : Option (Int64 × dd_S) := lt (st2 sg 0 0 (0 : Int32)) (fun sg1 : dd_S => lt ((9641 : Int64) + (sg1 0 2).toInt64) (fun x2 : Int64 => f_X6_digest_17 64 sg1 0 x2 (0 : Int32)))
theorem qw_447 : Cond.arrayClass .int ∈ lw_all := lw_in 116 (by decide +kernel) rfl
theorem qw_448 : Cond.methodLink RX6 132 yX6_told ∈ lw_all := lw_in 978 (by decide +kernel) rfl
theorem qw_449 : Cond.instanceMethod yX6_told ∈ lw_all := lw_in 980 (by decide +kernel) rfl
theorem qw_450 : Cond.selects RX6 yX6_told yX6_told ∈ lw_all := lw_in 50 (by decide +kernel) rfl
theorem qw_451 : Cond.code yX6_told cX6_told 4 (some .int) ∈ lw_all := lw_in 981 (by decide +kernel) rfl
theorem qw_452 : Cond.arrayClass .boolean ∈ lw_all := lw_in 1006 (by decide +kernel) rfl
theorem qw_453 : Cond.methodLink RX6 141 yX6_place ∈ lw_all := lw_in 1002 (by decide +kernel) rfl
theorem qw_454 : Cond.instanceMethod yX6_place ∈ lw_all := lw_in 1004 (by decide +kernel) rfl
theorem qw_455 : Cond.selects RX6 yX6_place yX6_place ∈ lw_all := lw_in 53 (by decide +kernel) rfl
theorem qw_456 : Cond.code yX6_place cX6_place 3 (none) ∈ lw_all := lw_in 1005 (by decide +kernel) rfl
theorem qw_457 : Cond.constantLong RX6 185 (9641 : Int64) ∈ lw_all := lw_in 1106 (by decide +kernel) rfl
theorem qw_458 : Cond.constantLong RX6 187 (31 : Int64) ∈ lw_all := lw_in 1107 (by decide +kernel) rfl
theorem gl_X6_132 : GoodIn lw_all (wsV RX6 132 RX6 yX6_told (lw_ws yX6_told cX6_told 4 (some .int))) := lw_gV qw_448 qw_449 qw_450 qw_263 qw_451
theorem yd_X6_told : yX6_told.cls = RX6 ∧ yX6_told.cls ≠ "java/lang/invoke/MethodHandle" ∧ yX6_told.cls ≠ "java/lang/invoke/VarHandle" ∧ (parseMethodDescriptor yX6_told.desc).map (fun d => d.parameters.length) = some 2 := by decide +kernel
theorem gl_X6_141 : GoodIn lw_all (wsV RX6 141 RX6 yX6_place (lw_ws yX6_place cX6_place 3 (none))) := lw_gV qw_453 qw_454 qw_455 qw_263 qw_456
theorem yd_X6_place : yX6_place.cls = RX6 ∧ yX6_place.cls ≠ "java/lang/invoke/MethodHandle" ∧ yX6_place.cls ≠ "java/lang/invoke/VarHandle" ∧ (parseMethodDescriptor yX6_place.desc).map (fun d => d.parameters.length) = some 1 := by decide +kernel
set_option maxHeartbeats 4000000 in
set_option maxRecDepth 100000 in
theorem c_X6_told (l : Launch) (g : dd_G) (ad : Nat → Nat) (X : va_W) (sz : Nat) (sg : dd_S) (a1 : Int32) (a2 : Int32) (r0 : Int32) (s0 : dd_S) (hf : f_X6_told sg a1 a2 = some (r0, s0)) : Met l yX6_told (lw_ws yX6_told cX6_told 4 (some .int)) ({ frames := 2, cells := 1, slots := 9, locals := 50 } : Room) (va_Pc [.ref (ad 0), .int a1, .int a2] (PreW g (WM g ad sg ++ X) sz)) (QI g (WM g ad s0 ++ X) (dd_A 9 ad X sz) r0) 1 9 (dd_A 9 ad X sz) := by
  refine Met.ofW (cc := cX6_told) (maxL := 4) (ret := some .int) (by decide) rfl ?_
  intro p e s m args below meth c s₁ B hml hv
  obtain ⟨rfl, rfl, hP, hK, hD0⟩ := hv
  have hx := B.exec
  have hb := B.bytes
  have hr := B.returns
  have hts := atoms_spec (ws := (lw_ws yX6_told cX6_told 4 (some .int))) B.pre
  have hts : ∀ w ∈ lw_all, w.before _ s = true := fun w h => hts w (List.mem_cons_of_mem _ h)
  have hown : s.vm.findClass RX6 = some m.cls := findClass_of_methodNamed B.named
  have hlocks := B.notSynchronized
  have hD : ∀ s2 : dd_S, va_D (dd_A 9 ad X s.heap.size) (WM g ad s2 ++ X) := fun s2 => dd_D (dd_A_D hD0)
  have hS : va_S (dd_A 9 ad X s.heap.size) s.heap s.heap [] := va_S.rf
  have hL_92 : ∀ (q0 : Nat) (cA0 : ClassId) (hT : TM g 9 (cdM g.2 ad) ad X s q0 cA0 .int 9), ∀ (sg : dd_S) (tm : Nat → Int32) (t0 : Int32) (t1 : Int32) (H : Heap) (locs : List Loc) (ls : Array Slot), f_X6_told_92 a1 a2 sg tm t0 t1 = some (r0, s0) → va_P g.1 vwCl (WM g ad sg ++ (X ++ [(q0, .inl (cA0, 9, .inl tm))])) H → va_S (dd_A 9 ad X s.heap.size) s.heap H locs → lv_has ls 4 [(2, .int a2)] → W p l e (headSpec (lw_ws yX6_told cX6_told 4 (some .int)) ({ frames := 2, cells := 1, slots := 9, locals := 50 } : Room)).room s m ([.ref (ad 0), .int a1, .int a2] : List Value).toArray below meth c H locs 1 9 (MQ below (QI g (WM g ad s0 ++ X) (dd_A 9 ad X s.heap.size) r0) ([.ref (ad 0), .int a1, .int a2] : List Value).toArray s 1 9 (dd_A 9 ad X s.heap.size)) (F0 m 92 ls [.int t0, .int t1, .ref q0, .ref q0]) := by
    intro q0 cA0 hT
    intro sg tm t0 t1 H locs ls hf hP hS hl
    unfold f_X6_told_92 at hf
    have hD : ∀ s2 : dd_S, va_D (dd_A 9 ad X s.heap.size) (WM g ad s2 ++ (X ++ [(q0, .inl (cA0, 9, .inl tm))])) := fun s2 => hT.2.2 s2 tm
    obtain ⟨hi25, hf⟩ := gd_so hf
    obtain ⟨tm26, etm26, hf⟩ := lt_ex hf
    refine va_iast hx hb hT.2.1 hP (hD _) hS (9 + X.length) 3 dd_tmp rfl (ix_in hi25) dX6_told_92 (fun H locs hP _ hS => ?_)
    rw [dd_tmpset, ← etm26] at hP
    have hD : ∀ s2 : dd_S, va_D (dd_A 9 ad X s.heap.size) (WM g ad s2 ++ (X ++ [(q0, .inl (cA0, 9, .inl tm26))])) := fun s2 => hT.2.2 s2 tm26
    refine lv_astore_n (lv' := [(3, .ref q0), (2, .int a2)]) hx hb dX6_told_93 rfl hl (by decide) rfl (fun ls hl => ?_)
    refine lv_aload_n hx hb dX6_told_94 rfl (lv_at hl 0 rfl) ?_
    refine lv_iload_n hx hb dX6_told_95 rfl (lv_at hl 1 rfl) ?_
    obtain ⟨hi27, hf⟩ := gd_so hf
    refine va_iald hx hb hT.2.1 hP (9 + X.length) 3 dd_tmp rfl (ix_in hi27) dX6_told_96 ?_
    have hP := P_drop hP
    exact W.iret (v := (tm26 a2.toNatClampNeg)) hx hb hr (fun t ht hW => ⟨⟨(tm26 a2.toNatClampNeg), (), rfl, (so2 hf).1, P_at2 (so2 hf).2 ht hP⟩, hS.F ht⟩) hS.2.2 dX6_told_97
  have hL_75 : ∀ (q0 : Nat) (cA0 : ClassId) (hT : TM g 9 (cdM g.2 ad) ad X s q0 cA0 .int 9), ∀ (sg : dd_S) (tm : Nat → Int32) (t0 : Int32) (t1 : Int32) (H : Heap) (locs : List Loc) (ls : Array Slot), f_X6_told_75 a1 a2 sg tm t0 t1 = some (r0, s0) → va_P g.1 vwCl (WM g ad sg ++ (X ++ [(q0, .inl (cA0, 9, .inl tm))])) H → va_S (dd_A 9 ad X s.heap.size) s.heap H locs → lv_has ls 4 [(0, .ref (ad 0)), (1, .int a1), (2, .int a2)] → W p l e (headSpec (lw_ws yX6_told cX6_told 4 (some .int)) ({ frames := 2, cells := 1, slots := 9, locals := 50 } : Room)).room s m ([.ref (ad 0), .int a1, .int a2] : List Value).toArray below meth c H locs 1 9 (MQ below (QI g (WM g ad s0 ++ X) (dd_A 9 ad X s.heap.size) r0) ([.ref (ad 0), .int a1, .int a2] : List Value).toArray s 1 9 (dd_A 9 ad X s.heap.size)) (F0 m 75 ls [.int t0, .int t1, .ref q0, .ref q0]) := by
    intro q0 cA0 hT
    intro sg tm t0 t1 H locs ls hf hP hS hl
    unfold f_X6_told_75 at hf
    have hD : ∀ s2 : dd_S, va_D (dd_A 9 ad X s.heap.size) (WM g ad s2 ++ (X ++ [(q0, .inl (cA0, 9, .inl tm))])) := fun s2 => hT.2.2 s2 tm
    obtain ⟨hi20, hf⟩ := gd_so hf
    obtain ⟨tm21, etm21, hf⟩ := lt_ex hf
    refine va_iast hx hb hT.2.1 hP (hD _) hS (9 + X.length) 3 dd_tmp rfl (ix_in hi20) dX6_told_75 (fun H locs hP _ hS => ?_)
    rw [dd_tmpset, ← etm21] at hP
    have hD : ∀ s2 : dd_S, va_D (dd_A 9 ad X s.heap.size) (WM g ad s2 ++ (X ++ [(q0, .inl (cA0, 9, .inl tm21))])) := fun s2 => hT.2.2 s2 tm21
    refine lv_dup hx hb dX6_told_76 rfl ?_
    refine lv_bipush (v := (8 : Int32)) hx hb dX6_told_77 (by decide) ?_
    refine lv_aload_n hx hb dX6_told_79 rfl (lv_at hl 0 rfl) ?_
    refine lv_iload_n hx hb dX6_told_80 rfl (lv_at hl 1 rfl) ?_
    obtain ⟨r23, q22, hf⟩ := bd_so hf
    refine cl_i (va_runV (As := [.int a1]) (rest := [.int (8 : Int32), .ref q0, .ref q0]) ⟨hx, hb, hml, hown, hts⟩ (c_X6_isFixed l g ad (X ++ [(q0, .inl (cA0, 9, .inl tm21))]) _ sg a1 r23 q22) (cwV 1 hts gl_X6_119 rfl rfl rfl yd_X6_isFixed ⟨Nat.le_of_ble_eq_true rfl, Nat.le_of_ble_eq_true rfl⟩) (preV_of hK hP (hD sg) (dd_at (by decide) cm_0) rfl) rfl rfl hl.1 rfl (lv_room (Nat.le_of_ble_eq_true rfl)) dX6_told_81 ⟨Nat.le_of_ble_eq_true rfl, Nat.le_of_ble_eq_true rfl⟩) hS (fun q h => dd_A_more hS.1 hT.1 h) (fun q h => dd_A_more hS.1 hT.1 h) (fun H locs hP hS => ?_)
    refine lv_if_eq (tgt := 91) hx hb dX6_told_84 (by decide) (fun c24 => ?_) (fun c24 => ?_)
    · have hf := if_t c24 hf
      refine lv_iconst (v := (0 : Int32)) hx hb dX6_told_91 (by decide) ?_
      exact hL_92 q0 cA0 hT sg tm21 (0 : Int32) (8 : Int32) _ _ _ hf hP hS (lv_sub hl [2] rfl)
    · have hf := if_f c24 hf
      refine lv_iconst (v := (1 : Int32)) hx hb dX6_told_87 (by decide) ?_
      refine lv_goto (tgt := 92) hx hb dX6_told_88 (by decide) ?_
      exact hL_92 q0 cA0 hT sg tm21 (1 : Int32) (8 : Int32) _ _ _ hf hP hS (lv_sub hl [2] rfl)
  unfold f_X6_told at hf
  have hl := lv_entry ([.ref (ad 0), .int a1, .int a2]) (n := 4) (Nat.le_of_ble_eq_true rfl)
  rw [lg_entry_eq]
  generalize (lg_sl ([.ref (ad 0), .int a1, .int a2]) ++ List.replicate (4 - (lg_sl ([.ref (ad 0), .int a1, .int a2])).length) Slot.unset).toArray = ls at hl ⊢
  have hl : lv_has ls 4 [(0, .ref (ad 0)), (1, .int a1), (2, .int a2)] := hl
  refine lv_aload_n hx hb dX6_told_0 rfl (lv_at hl 0 rfl) ?_
  refine lv_iload_n hx hb dX6_told_1 rfl (lv_at hl 1 rfl) ?_
  obtain ⟨r3, sg2, q1, hf⟩ := bd2_so hf
  refine cl_i (va_runV (As := [.int a1]) (rest := []) ⟨hx, hb, hml, hown, hts⟩ (c_X6_look l g ad X _ sg a1 r3 sg2 q1) (cwV 1 hts gl_X6_71 rfl rfl rfl yd_X6_look ⟨Nat.le_of_ble_eq_true rfl, Nat.le_of_ble_eq_true rfl⟩) (preV_of hK hP (hD sg) (dd_at (by decide) cm_0) rfl) rfl rfl hl.1 rfl (lv_room (Nat.le_of_ble_eq_true rfl)) dX6_told_2 ⟨Nat.le_of_ble_eq_true rfl, Nat.le_of_ble_eq_true rfl⟩) hS (fun q h => dd_A_mono hS.1 h) (fun q h => dd_A_mono hS.1 h) (fun H locs hP hS => ?_)
  refine lv_pop hx hb dX6_told_5 rfl ?_
  refine lv_bipush (v := (9 : Int32)) hx hb dX6_told_6 (by decide) ?_
  refine W_newT (N := 9) (atype := .int) (ty := .int) hx hb (hts _ qw_447) rfl hK hP hD hS (fun _ => rfl) (by decide) (by decide) (by decide) (Nat.le_of_ble_eq_true rfl) (Nat.le_of_ble_eq_true rfl) dX6_told_8 (fun q0 cA0 H hT hP hS => ?_)
  obtain ⟨tm4, etm4, hf⟩ := lt_ex hf
  rw [← etm4] at hP
  have hD : ∀ s2 : dd_S, va_D (dd_A 9 ad X s.heap.size) (WM g ad s2 ++ (X ++ [(q0, .inl (cA0, 9, .inl tm4))])) := fun s2 => hT.2.2 s2 tm4
  refine lv_dup hx hb dX6_told_10 rfl ?_
  refine lv_iconst (v := (0 : Int32)) hx hb dX6_told_11 (by decide) ?_
  refine lv_aload_n hx hb dX6_told_12 rfl (lv_at hl 0 rfl) ?_
  refine gf_X6_81 hx hb hts hown hK hP dX6_told_13 ?_
  obtain ⟨hi5, hf⟩ := gd_so hf
  obtain ⟨tm6, etm6, hf⟩ := lt_ex hf
  refine va_iast hx hb hT.2.1 hP (hD _) hS (9 + X.length) 3 dd_tmp rfl (ix_in hi5) dX6_told_16 (fun H locs hP _ hS => ?_)
  rw [dd_tmpset, ← etm6] at hP
  have hD : ∀ s2 : dd_S, va_D (dd_A 9 ad X s.heap.size) (WM g ad s2 ++ (X ++ [(q0, .inl (cA0, 9, .inl tm6))])) := fun s2 => hT.2.2 s2 tm6
  refine lv_dup hx hb dX6_told_17 rfl ?_
  refine lv_iconst (v := (1 : Int32)) hx hb dX6_told_18 (by decide) ?_
  refine lv_aload_n hx hb dX6_told_19 rfl (lv_at hl 0 rfl) ?_
  refine gf_X6_88 hx hb hts hown hK hP dX6_told_20 ?_
  obtain ⟨hi7, hf⟩ := gd_so hf
  obtain ⟨tm8, etm8, hf⟩ := lt_ex hf
  refine va_iast hx hb hT.2.1 hP (hD _) hS (9 + X.length) 3 dd_tmp rfl (ix_in hi7) dX6_told_23 (fun H locs hP _ hS => ?_)
  rw [dd_tmpset, ← etm8] at hP
  have hD : ∀ s2 : dd_S, va_D (dd_A 9 ad X s.heap.size) (WM g ad s2 ++ (X ++ [(q0, .inl (cA0, 9, .inl tm8))])) := fun s2 => hT.2.2 s2 tm8
  refine lv_dup hx hb dX6_told_24 rfl ?_
  refine lv_iconst (v := (2 : Int32)) hx hb dX6_told_25 (by decide) ?_
  refine lv_aload_n hx hb dX6_told_26 rfl (lv_at hl 0 rfl) ?_
  refine gf_X6_91 hx hb hts hown hK hP dX6_told_27 ?_
  obtain ⟨hi9, hf⟩ := gd_so hf
  obtain ⟨tm10, etm10, hf⟩ := lt_ex hf
  refine va_iast hx hb hT.2.1 hP (hD _) hS (9 + X.length) 3 dd_tmp rfl (ix_in hi9) dX6_told_30 (fun H locs hP _ hS => ?_)
  rw [dd_tmpset, ← etm10] at hP
  have hD : ∀ s2 : dd_S, va_D (dd_A 9 ad X s.heap.size) (WM g ad s2 ++ (X ++ [(q0, .inl (cA0, 9, .inl tm10))])) := fun s2 => hT.2.2 s2 tm10
  refine lv_dup hx hb dX6_told_31 rfl ?_
  refine lv_iconst (v := (3 : Int32)) hx hb dX6_told_32 (by decide) ?_
  refine lv_aload_n hx hb dX6_told_33 rfl (lv_at hl 0 rfl) ?_
  refine gf_X6_94 hx hb hts hown hK hP dX6_told_34 ?_
  obtain ⟨hi11, hf⟩ := gd_so hf
  obtain ⟨tm12, etm12, hf⟩ := lt_ex hf
  refine va_iast hx hb hT.2.1 hP (hD _) hS (9 + X.length) 3 dd_tmp rfl (ix_in hi11) dX6_told_37 (fun H locs hP _ hS => ?_)
  rw [dd_tmpset, ← etm12] at hP
  have hD : ∀ s2 : dd_S, va_D (dd_A 9 ad X s.heap.size) (WM g ad s2 ++ (X ++ [(q0, .inl (cA0, 9, .inl tm12))])) := fun s2 => hT.2.2 s2 tm12
  refine lv_dup hx hb dX6_told_38 rfl ?_
  refine lv_iconst (v := (4 : Int32)) hx hb dX6_told_39 (by decide) ?_
  refine lv_aload_n hx hb dX6_told_40 rfl (lv_at hl 0 rfl) ?_
  refine gf_X6_97 hx hb hts hown hK hP dX6_told_41 ?_
  obtain ⟨hi13, hf⟩ := gd_so hf
  obtain ⟨tm14, etm14, hf⟩ := lt_ex hf
  refine va_iast hx hb hT.2.1 hP (hD _) hS (9 + X.length) 3 dd_tmp rfl (ix_in hi13) dX6_told_44 (fun H locs hP _ hS => ?_)
  rw [dd_tmpset, ← etm14] at hP
  have hD : ∀ s2 : dd_S, va_D (dd_A 9 ad X s.heap.size) (WM g ad s2 ++ (X ++ [(q0, .inl (cA0, 9, .inl tm14))])) := fun s2 => hT.2.2 s2 tm14
  refine lv_dup hx hb dX6_told_45 rfl ?_
  refine lv_iconst (v := (5 : Int32)) hx hb dX6_told_46 (by decide) ?_
  refine lv_aload_n hx hb dX6_told_47 rfl (lv_at hl 0 rfl) ?_
  refine gf_X6_100 hx hb hts hown hK hP dX6_told_48 ?_
  obtain ⟨hi15, hf⟩ := gd_so hf
  obtain ⟨tm16, etm16, hf⟩ := lt_ex hf
  refine va_iast hx hb hT.2.1 hP (hD _) hS (9 + X.length) 3 dd_tmp rfl (ix_in hi15) dX6_told_51 (fun H locs hP _ hS => ?_)
  rw [dd_tmpset, ← etm16] at hP
  have hD : ∀ s2 : dd_S, va_D (dd_A 9 ad X s.heap.size) (WM g ad s2 ++ (X ++ [(q0, .inl (cA0, 9, .inl tm16))])) := fun s2 => hT.2.2 s2 tm16
  refine lv_dup hx hb dX6_told_52 rfl ?_
  refine lv_bipush (v := (6 : Int32)) hx hb dX6_told_53 (by decide) ?_
  refine lv_aload_n hx hb dX6_told_55 rfl (lv_at hl 0 rfl) ?_
  refine gf_X6_103 hx hb hts hown hK hP dX6_told_56 ?_
  obtain ⟨hi17, hf⟩ := gd_so hf
  obtain ⟨tm18, etm18, hf⟩ := lt_ex hf
  refine va_iast hx hb hT.2.1 hP (hD _) hS (9 + X.length) 3 dd_tmp rfl (ix_in hi17) dX6_told_59 (fun H locs hP _ hS => ?_)
  rw [dd_tmpset, ← etm18] at hP
  have hD : ∀ s2 : dd_S, va_D (dd_A 9 ad X s.heap.size) (WM g ad s2 ++ (X ++ [(q0, .inl (cA0, 9, .inl tm18))])) := fun s2 => hT.2.2 s2 tm18
  refine lv_dup hx hb dX6_told_60 rfl ?_
  refine lv_bipush (v := (7 : Int32)) hx hb dX6_told_61 (by decide) ?_
  refine lv_aload_n hx hb dX6_told_63 rfl (lv_at hl 0 rfl) ?_
  refine gf_X6_106 hx hb hts hown hK hP dX6_told_64 ?_
  refine lv_if_eq (tgt := 74) hx hb dX6_told_67 (by decide) (fun c19 => ?_) (fun c19 => ?_)
  · have hf := if_t c19 hf
    refine lv_iconst (v := (0 : Int32)) hx hb dX6_told_74 (by decide) ?_
    exact hL_75 q0 cA0 hT sg2 tm18 (0 : Int32) (7 : Int32) _ _ _ hf hP hS (lv_sub hl [0, 1, 2] rfl)
  · have hf := if_f c19 hf
    refine lv_iconst (v := (1 : Int32)) hx hb dX6_told_70 (by decide) ?_
    refine lv_goto (tgt := 75) hx hb dX6_told_71 (by decide) ?_
    exact hL_75 q0 cA0 hT sg2 tm18 (1 : Int32) (7 : Int32) _ _ _ hf hP hS (lv_sub hl [0, 1, 2] rfl)
set_option maxHeartbeats 4000000 in
set_option maxRecDepth 100000 in
theorem c_X6_duty (l : Launch) (g : dd_G) (ad : Nat → Nat) (X : va_W) (sz : Nat) (sg : dd_S) (a1 : Int32) (a2 : Int32) (r0 : Int32) (s0 : dd_S) (hf : f_X6_duty sg a1 a2 = some (r0, s0)) : Met l yX6_duty (lw_ws yX6_duty cX6_duty 3 (some .int)) ({ frames := 3, cells := 1, slots := 9, locals := 73 } : Room) (va_Pc [.ref (ad 0), .int a1, .int a2] (PreW g (WM g ad sg ++ X) sz)) (QI g (WM g ad s0 ++ X) (dd_A 9 ad X sz) r0) 1 9 (dd_A 9 ad X sz) := by
  refine Met.ofW (cc := cX6_duty) (maxL := 3) (ret := some .int) (by decide) rfl ?_
  intro p e s m args below meth c s₁ B hml hv
  obtain ⟨rfl, rfl, hP, hK, hD0⟩ := hv
  have hx := B.exec
  have hb := B.bytes
  have hr := B.returns
  have hts := atoms_spec (ws := (lw_ws yX6_duty cX6_duty 3 (some .int))) B.pre
  have hts : ∀ w ∈ lw_all, w.before _ s = true := fun w h => hts w (List.mem_cons_of_mem _ h)
  have hown : s.vm.findClass RX6 = some m.cls := findClass_of_methodNamed B.named
  have hlocks := B.notSynchronized
  have hD : ∀ s2 : dd_S, va_D (dd_A 9 ad X s.heap.size) (WM g ad s2 ++ X) := fun s2 => dd_D (dd_A_D hD0)
  have hS : va_S (dd_A 9 ad X s.heap.size) s.heap s.heap [] := va_S.rf
  have hL_37 : ∀ (sg : dd_S) (t0 : Int32) (H : Heap) (locs : List Loc) (ls : Array Slot), f_X6_duty_37 a1 a2 sg t0 = some (r0, s0) → va_P g.1 vwCl (WM g ad sg ++ X) H → va_S (dd_A 9 ad X s.heap.size) s.heap H locs → lv_has ls 3 [] → W p l e (headSpec (lw_ws yX6_duty cX6_duty 3 (some .int)) ({ frames := 3, cells := 1, slots := 9, locals := 73 } : Room)).room s m ([.ref (ad 0), .int a1, .int a2] : List Value).toArray below meth c H locs 1 9 (MQ below (QI g (WM g ad s0 ++ X) (dd_A 9 ad X s.heap.size) r0) ([.ref (ad 0), .int a1, .int a2] : List Value).toArray s 1 9 (dd_A 9 ad X s.heap.size)) (F0 m 37 ls [.int t0]) := by
    intro sg t0 H locs ls hf hP hS hl
    unfold f_X6_duty_37 at hf
    exact W.iret (v := t0) hx hb hr (fun t ht hW => ⟨⟨t0, (), rfl, (so2 hf).1, P_at2 (so2 hf).2 ht hP⟩, hS.F ht⟩) hS.2.2 dX6_duty_37
  have hL_32 : ∀ (sg : dd_S) (H : Heap) (locs : List Loc) (ls : Array Slot), f_X6_duty_32 a1 a2 sg = some (r0, s0) → va_P g.1 vwCl (WM g ad sg ++ X) H → va_S (dd_A 9 ad X s.heap.size) s.heap H locs → lv_has ls 3 [(0, .ref (ad 0))] → W p l e (headSpec (lw_ws yX6_duty cX6_duty 3 (some .int)) ({ frames := 3, cells := 1, slots := 9, locals := 73 } : Room)).room s m ([.ref (ad 0), .int a1, .int a2] : List Value).toArray below meth c H locs 0 0 (MQ below (QI g (WM g ad s0 ++ X) (dd_A 9 ad X s.heap.size) r0) ([.ref (ad 0), .int a1, .int a2] : List Value).toArray s 1 9 (dd_A 9 ad X s.heap.size)) (F0 m 32 ls []) := by
    intro sg H locs ls hf hP hS hl
    unfold f_X6_duty_32 at hf
    refine lv_aload_n hx hb dX6_duty_32 rfl (lv_at hl 0 rfl) ?_
    refine lv_iconst (v := (1 : Int32)) hx hb dX6_duty_33 (by decide) ?_
    obtain ⟨r13, sg12, q11, hf⟩ := bd2_so hf
    refine cl_i (va_runV (As := [.int (1 : Int32)]) (rest := []) ⟨hx, hb, hml, hown, hts⟩ (c_X6_no l g ad X _ sg (1 : Int32) r13 sg12 q11) (cwV 1 hts gl_X6_64 rfl rfl rfl yd_X6_no ⟨Nat.le_of_ble_eq_true rfl, Nat.le_of_ble_eq_true rfl⟩) (preV_of hK hP (hD sg) (dd_at (by decide) cm_0) rfl) rfl rfl hl.1 rfl (lv_room (Nat.le_of_ble_eq_true rfl)) dX6_duty_34 ⟨Nat.le_of_ble_eq_true rfl, Nat.le_of_ble_eq_true rfl⟩) hS (fun q h => dd_A_mono hS.1 h) (fun q h => dd_A_mono hS.1 h) (fun H locs hP hS => ?_)
    refine W.widen (k := 1) (n := 9) (by decide) (by decide) ?_
    exact hL_37 sg12 r13 _ _ _ hf hP hS (lv_sub hl [] rfl)
  unfold f_X6_duty at hf
  have hl := lv_entry ([.ref (ad 0), .int a1, .int a2]) (n := 3) (Nat.le_of_ble_eq_true rfl)
  rw [lg_entry_eq]
  generalize (lg_sl ([.ref (ad 0), .int a1, .int a2]) ++ List.replicate (3 - (lg_sl ([.ref (ad 0), .int a1, .int a2])).length) Slot.unset).toArray = ls at hl ⊢
  have hl : lv_has ls 3 [(0, .ref (ad 0)), (1, .int a1), (2, .int a2)] := hl
  refine lv_aload_n hx hb dX6_duty_0 rfl (lv_at hl 0 rfl) ?_
  refine lv_iconst (v := (0 : Int32)) hx hb dX6_duty_1 (by decide) ?_
  obtain ⟨sg1, esg1, hf⟩ := lt_ex hf
  refine pf_X6_47 hx hb hts hown hK hP hD hS dX6_duty_2 (fun H locs hP hS => ?_)
  rw [← esg1] at hP
  refine lv_aload_n hx hb dX6_duty_5 rfl (lv_at hl 0 rfl) ?_
  refine lv_iload_n hx hb dX6_duty_6 rfl (lv_at hl 1 rfl) ?_
  obtain ⟨r3, q2, hf⟩ := bd_so hf
  refine cl_i (va_runV (As := [.int a1]) (rest := []) ⟨hx, hb, hml, hown, hts⟩ (c_X6_isDuty l g ad X _ sg1 a1 r3 q2) (cwV 1 hts gl_X6_126 rfl rfl rfl yd_X6_isDuty ⟨Nat.le_of_ble_eq_true rfl, Nat.le_of_ble_eq_true rfl⟩) (preV_of hK hP (hD sg1) (dd_at (by decide) cm_0) rfl) rfl rfl hl.1 rfl (lv_room (Nat.le_of_ble_eq_true rfl)) dX6_duty_7 ⟨Nat.le_of_ble_eq_true rfl, Nat.le_of_ble_eq_true rfl⟩) hS (fun q h => dd_A_mono hS.1 h) (fun q h => dd_A_mono hS.1 h) (fun H locs hP hS => ?_)
  refine lv_if_eq (tgt := 32) hx hb dX6_duty_10 (by decide) (fun c4 => ?_) (fun c4 => ?_)
  · have hf := if_t c4 hf
    exact hL_32 sg1 _ _ _ hf hP hS (lv_sub hl [0] rfl)
  · have hf := if_f c4 hf
    refine lv_iload_n hx hb dX6_duty_13 rfl (lv_at hl 2 rfl) ?_
    refine lv_iconst (v := (0 : Int32)) hx hb dX6_duty_14 (by decide) ?_
    refine lv_bipush (v := (8 : Int32)) hx hb dX6_duty_15 (by decide) ?_
    obtain ⟨r6, q5, hf⟩ := bd_so hf
    refine cl_i (va_runS (As := [.int a2, .int (0 : Int32), .int (8 : Int32)]) (rest := []) ⟨hx, hb, hml, hown, hts⟩ (c_X6_isIn l g ad X _ sg1 a2 (0 : Int32) (8 : Int32) r6 q5) (cwS 3 hts gl_X6_53 rfl rfl rfl yd_X6_isIn ⟨Nat.le_of_ble_eq_true rfl, Nat.le_of_ble_eq_true rfl⟩) (preS_of hK hP (hD sg1)) rfl rfl hl.1 rfl (lv_room (Nat.le_of_ble_eq_true rfl)) dX6_duty_17 ⟨Nat.le_of_ble_eq_true rfl, Nat.le_of_ble_eq_true rfl⟩) hS (fun q h => dd_A_mono hS.1 h) (fun q h => dd_A_mono hS.1 h) (fun H locs hP hS => ?_)
    refine lv_if_eq (tgt := 32) hx hb dX6_duty_20 (by decide) (fun c7 => ?_) (fun c7 => ?_)
    · have hf := if_t c7 hf
      exact hL_32 sg1 _ _ _ hf hP hS (lv_sub hl [0] rfl)
    · have hf := if_f c7 hf
      refine lv_aload_n hx hb dX6_duty_23 rfl (lv_at hl 0 rfl) ?_
      refine lv_iload_n hx hb dX6_duty_24 rfl (lv_at hl 1 rfl) ?_
      refine lv_iload_n hx hb dX6_duty_25 rfl (lv_at hl 2 rfl) ?_
      obtain ⟨r10, sg9, q8, hf⟩ := bd2_so hf
      refine cl_i (va_runV (As := [.int a1, .int a2]) (rest := []) ⟨hx, hb, hml, hown, hts⟩ (c_X6_told l g ad X _ sg1 a1 a2 r10 sg9 q8) (cwV 2 hts gl_X6_132 rfl rfl rfl yd_X6_told ⟨Nat.le_of_ble_eq_true rfl, Nat.le_of_ble_eq_true rfl⟩) (preV_of hK hP (hD sg1) (dd_at (by decide) cm_0) rfl) rfl rfl hl.1 rfl (lv_room (Nat.le_of_ble_eq_true rfl)) dX6_duty_26 ⟨Nat.le_of_ble_eq_true rfl, Nat.le_of_ble_eq_true rfl⟩) hS (fun q h => dd_A_mono hS.1 h) (fun q h => dd_A_mono hS.1 h) (fun H locs hP hS => ?_)
      refine lv_goto (tgt := 37) hx hb dX6_duty_29 (by decide) ?_
      exact hL_37 sg9 r10 _ _ _ hf hP hS (lv_sub hl [] rfl)
set_option maxHeartbeats 4000000 in
set_option maxRecDepth 100000 in
theorem c_X6_plan (l : Launch) (g : dd_G) (ad : Nat → Nat) (X : va_W) (sz : Nat) (sg : dd_S) (r0 : Int32) (s0 : dd_S) (hf : f_X6_plan sg = some (r0, s0)) : Met l yX6_plan (lw_ws yX6_plan cX6_plan 5 (some .int)) ({ frames := 5, cells := 1, slots := 40, locals := 120 } : Room) (va_Pc [.ref (ad 0)] (PreW g (WM g ad sg ++ X) sz)) (QI g (WM g ad s0 ++ X) (dd_A 9 ad X sz) r0) 1 40 (dd_A 9 ad X sz) := by
  refine Met.ofW (cc := cX6_plan) (maxL := 5) (ret := some .int) (by decide) rfl ?_
  intro p e s m args below meth c s₁ B hml hv
  obtain ⟨rfl, rfl, hP, hK, hD0⟩ := hv
  have hx := B.exec
  have hb := B.bytes
  have hr := B.returns
  have hts := atoms_spec (ws := (lw_ws yX6_plan cX6_plan 5 (some .int))) B.pre
  have hts : ∀ w ∈ lw_all, w.before _ s = true := fun w h => hts w (List.mem_cons_of_mem _ h)
  have hown : s.vm.findClass RX6 = some m.cls := findClass_of_methodNamed B.named
  have hlocks := B.notSynchronized
  have hD : ∀ s2 : dd_S, va_D (dd_A 9 ad X s.heap.size) (WM g ad s2 ++ X) := fun s2 => dd_D (dd_A_D hD0)
  have hS : va_S (dd_A 9 ad X s.heap.size) s.heap s.heap [] := va_S.rf
  have hL_76 : ∀ (q0 : Nat) (cA0 : ClassId) (hT : TM g 9 (cdM g.2 ad) ad X s q0 cA0 .boolean 40), ∀ (k_12 : dd_S → (Nat → Int32) → Int32 → Option (Int32 × dd_S)) (hk_12 : ∀ (sg : dd_S) (tm : Nat → Int32) (v2 : Int32) (H : Heap) (locs : List Loc) (ls : Array Slot), k_12 sg tm v2 = some (r0, s0) → va_P g.1 vwCl (WM g ad sg ++ (X ++ [(q0, .inl (cA0, 40, .inl tm))])) H → va_S (dd_A 9 ad X s.heap.size) s.heap H locs → lv_has ls 5 [(0, .ref (ad 0)), (1, .ref q0), (2, .int v2)] → W p l e (headSpec (lw_ws yX6_plan cX6_plan 5 (some .int)) ({ frames := 5, cells := 1, slots := 40, locals := 120 } : Room)).room s m ([.ref (ad 0)] : List Value).toArray below meth c H locs 1 40 (MQ below (QI g (WM g ad s0 ++ X) (dd_A 9 ad X s.heap.size) r0) ([.ref (ad 0)] : List Value).toArray s 1 40 (dd_A 9 ad X s.heap.size)) (F0 m 12 ls [])) (k_25 : dd_S → (Nat → Int32) → Int32 → Int32 → Int32 → Option (Int32 × dd_S)) (hk_25 : ∀ (sg : dd_S) (tm : Nat → Int32) (v2 : Int32) (v3 : Int32) (v4 : Int32) (H : Heap) (locs : List Loc) (ls : Array Slot), k_25 sg tm v2 v3 v4 = some (r0, s0) → va_P g.1 vwCl (WM g ad sg ++ (X ++ [(q0, .inl (cA0, 40, .inl tm))])) H → va_S (dd_A 9 ad X s.heap.size) s.heap H locs → lv_has ls 5 [(0, .ref (ad 0)), (1, .ref q0), (2, .int v2), (3, .int v3), (4, .int v4)] → W p l e (headSpec (lw_ws yX6_plan cX6_plan 5 (some .int)) ({ frames := 5, cells := 1, slots := 40, locals := 120 } : Room)).room s m ([.ref (ad 0)] : List Value).toArray below meth c H locs 1 40 (MQ below (QI g (WM g ad s0 ++ X) (dd_A 9 ad X s.heap.size) r0) ([.ref (ad 0)] : List Value).toArray s 1 40 (dd_A 9 ad X s.heap.size)) (F0 m 25 ls [])), ∀ (sg : dd_S) (tm : Nat → Int32) (v2 : Int32) (v3 : Int32) (v4 : Int32) (H : Heap) (locs : List Loc) (ls : Array Slot), f_X6_plan_76 k_12 k_25 sg tm v2 v3 v4 = some (r0, s0) → va_P g.1 vwCl (WM g ad sg ++ (X ++ [(q0, .inl (cA0, 40, .inl tm))])) H → va_S (dd_A 9 ad X s.heap.size) s.heap H locs → lv_has ls 5 [(0, .ref (ad 0)), (1, .ref q0), (2, .int v2), (3, .int v3), (4, .int v4)] → W p l e (headSpec (lw_ws yX6_plan cX6_plan 5 (some .int)) ({ frames := 5, cells := 1, slots := 40, locals := 120 } : Room)).room s m ([.ref (ad 0)] : List Value).toArray below meth c H locs 1 40 (MQ below (QI g (WM g ad s0 ++ X) (dd_A 9 ad X s.heap.size) r0) ([.ref (ad 0)] : List Value).toArray s 1 40 (dd_A 9 ad X s.heap.size)) (F0 m 76 ls []) := by
    intro q0 cA0 hT
    intro k_12 hk_12 k_25 hk_25 sg tm v2 v3 v4 H locs ls hf hP hS hl
    unfold f_X6_plan_76 at hf
    have hD : ∀ s2 : dd_S, va_D (dd_A 9 ad X s.heap.size) (WM g ad s2 ++ (X ++ [(q0, .inl (cA0, 40, .inl tm))])) := fun s2 => hT.2.2 s2 tm
    obtain ⟨x21, ex21, hf⟩ := lt_ex hf
    refine lv_iinc (v := x21) (lv' := [(4, .int x21), (0, .ref (ad 0)), (1, .ref q0), (2, .int v2), (3, .int v3)]) hx hb dX6_plan_76 hl (k := 4) rfl (by rw [ex21]; rfl) (by decide) rfl (fun ls hl => ?_)
    refine lv_goto (tgt := 25) hx hb dX6_plan_79 (by decide) ?_
    exact hk_25 sg tm v2 v3 x21 _ _ _ hf hP hS (lv_sub hl [1, 2, 3, 4, 0] rfl)
  have hL_73 : ∀ (q0 : Nat) (cA0 : ClassId) (hT : TM g 9 (cdM g.2 ad) ad X s q0 cA0 .boolean 40), ∀ (k_12 : dd_S → (Nat → Int32) → Int32 → Option (Int32 × dd_S)) (hk_12 : ∀ (sg : dd_S) (tm : Nat → Int32) (v2 : Int32) (H : Heap) (locs : List Loc) (ls : Array Slot), k_12 sg tm v2 = some (r0, s0) → va_P g.1 vwCl (WM g ad sg ++ (X ++ [(q0, .inl (cA0, 40, .inl tm))])) H → va_S (dd_A 9 ad X s.heap.size) s.heap H locs → lv_has ls 5 [(0, .ref (ad 0)), (1, .ref q0), (2, .int v2)] → W p l e (headSpec (lw_ws yX6_plan cX6_plan 5 (some .int)) ({ frames := 5, cells := 1, slots := 40, locals := 120 } : Room)).room s m ([.ref (ad 0)] : List Value).toArray below meth c H locs 1 40 (MQ below (QI g (WM g ad s0 ++ X) (dd_A 9 ad X s.heap.size) r0) ([.ref (ad 0)] : List Value).toArray s 1 40 (dd_A 9 ad X s.heap.size)) (F0 m 12 ls [])) (k_25 : dd_S → (Nat → Int32) → Int32 → Int32 → Int32 → Option (Int32 × dd_S)) (hk_25 : ∀ (sg : dd_S) (tm : Nat → Int32) (v2 : Int32) (v3 : Int32) (v4 : Int32) (H : Heap) (locs : List Loc) (ls : Array Slot), k_25 sg tm v2 v3 v4 = some (r0, s0) → va_P g.1 vwCl (WM g ad sg ++ (X ++ [(q0, .inl (cA0, 40, .inl tm))])) H → va_S (dd_A 9 ad X s.heap.size) s.heap H locs → lv_has ls 5 [(0, .ref (ad 0)), (1, .ref q0), (2, .int v2), (3, .int v3), (4, .int v4)] → W p l e (headSpec (lw_ws yX6_plan cX6_plan 5 (some .int)) ({ frames := 5, cells := 1, slots := 40, locals := 120 } : Room)).room s m ([.ref (ad 0)] : List Value).toArray below meth c H locs 1 40 (MQ below (QI g (WM g ad s0 ++ X) (dd_A 9 ad X s.heap.size) r0) ([.ref (ad 0)] : List Value).toArray s 1 40 (dd_A 9 ad X s.heap.size)) (F0 m 25 ls [])), ∀ (sg : dd_S) (tm : Nat → Int32) (v2 : Int32) (v4 : Int32) (H : Heap) (locs : List Loc) (ls : Array Slot), f_X6_plan_73 k_12 k_25 sg tm v2 v4 = some (r0, s0) → va_P g.1 vwCl (WM g ad sg ++ (X ++ [(q0, .inl (cA0, 40, .inl tm))])) H → va_S (dd_A 9 ad X s.heap.size) s.heap H locs → lv_has ls 5 [(0, .ref (ad 0)), (1, .ref q0), (2, .int v2), (4, .int v4)] → W p l e (headSpec (lw_ws yX6_plan cX6_plan 5 (some .int)) ({ frames := 5, cells := 1, slots := 40, locals := 120 } : Room)).room s m ([.ref (ad 0)] : List Value).toArray below meth c H locs 1 40 (MQ below (QI g (WM g ad s0 ++ X) (dd_A 9 ad X s.heap.size) r0) ([.ref (ad 0)] : List Value).toArray s 1 40 (dd_A 9 ad X s.heap.size)) (F0 m 73 ls []) := by
    intro q0 cA0 hT
    intro k_12 hk_12 k_25 hk_25 sg tm v2 v4 H locs ls hf hP hS hl
    unfold f_X6_plan_73 at hf
    have hD : ∀ s2 : dd_S, va_D (dd_A 9 ad X s.heap.size) (WM g ad s2 ++ (X ++ [(q0, .inl (cA0, 40, .inl tm))])) := fun s2 => hT.2.2 s2 tm
    refine lv_iload hx hb dX6_plan_73 (lv_at hl 3 rfl) ?_
    refine lv_istore_n (lv' := [(3, .int v4), (0, .ref (ad 0)), (1, .ref q0), (2, .int v2), (4, .int v4)]) hx hb dX6_plan_75 rfl hl (by decide) rfl (fun ls hl => ?_)
    exact hL_76 q0 cA0 hT k_12 hk_12 k_25 hk_25 sg tm v2 v4 v4 _ _ _ hf hP hS (lv_sub hl [1, 2, 3, 0, 4] rfl)
  have hL_105 : ∀ (q0 : Nat) (cA0 : ClassId) (hT : TM g 9 (cdM g.2 ad) ad X s q0 cA0 .boolean 40), ∀ (sg : dd_S) (tm : Nat → Int32) (H : Heap) (locs : List Loc) (ls : Array Slot), f_X6_plan_105 sg tm = some (r0, s0) → va_P g.1 vwCl (WM g ad sg ++ (X ++ [(q0, .inl (cA0, 40, .inl tm))])) H → va_S (dd_A 9 ad X s.heap.size) s.heap H locs → lv_has ls 5 [(0, .ref (ad 0))] → W p l e (headSpec (lw_ws yX6_plan cX6_plan 5 (some .int)) ({ frames := 5, cells := 1, slots := 40, locals := 120 } : Room)).room s m ([.ref (ad 0)] : List Value).toArray below meth c H locs 1 40 (MQ below (QI g (WM g ad s0 ++ X) (dd_A 9 ad X s.heap.size) r0) ([.ref (ad 0)] : List Value).toArray s 1 40 (dd_A 9 ad X s.heap.size)) (F0 m 105 ls []) := by
    intro q0 cA0 hT
    intro sg tm H locs ls hf hP hS hl
    unfold f_X6_plan_105 at hf
    have hD : ∀ s2 : dd_S, va_D (dd_A 9 ad X s.heap.size) (WM g ad s2 ++ (X ++ [(q0, .inl (cA0, 40, .inl tm))])) := fun s2 => hT.2.2 s2 tm
    refine lv_aload_n hx hb dX6_plan_105 rfl (lv_at hl 0 rfl) ?_
    obtain ⟨r5, q4, hf⟩ := bd_so hf
    refine cl_i (va_runV (As := []) (rest := []) ⟨hx, hb, hml, hown, hts⟩ (c_X6_freeTrips l g ad (X ++ [(q0, .inl (cA0, 40, .inl tm))]) _ sg r5 q4) (cwV 0 hts gl_X6_77 rfl rfl rfl yd_X6_freeTrips ⟨Nat.le_of_ble_eq_true rfl, Nat.le_of_ble_eq_true rfl⟩) (preV_of hK hP (hD sg) (dd_at (by decide) cm_0) rfl) rfl rfl hl.1 rfl (lv_room (Nat.le_of_ble_eq_true rfl)) dX6_plan_106 ⟨Nat.le_of_ble_eq_true rfl, Nat.le_of_ble_eq_true rfl⟩) hS (fun q h => dd_A_more hS.1 hT.1 h) (fun q h => dd_A_more hS.1 hT.1 h) (fun H locs hP hS => ?_)
    have hP := P_drop hP
    exact W.iret (v := r5) hx hb hr (fun t ht hW => ⟨⟨r5, (), rfl, (so2 hf).1, P_at2 (so2 hf).2 ht hP⟩, hS.F ht⟩) hS.2.2 dX6_plan_109
  have hL_25 : ∀ (q0 : Nat) (cA0 : ClassId) (hT : TM g 9 (cdM g.2 ad) ad X s q0 cA0 .boolean 40), ∀ (k_12 : dd_S → (Nat → Int32) → Int32 → Option (Int32 × dd_S)) (hk_12 : ∀ (sg : dd_S) (tm : Nat → Int32) (v2 : Int32) (H : Heap) (locs : List Loc) (ls : Array Slot), k_12 sg tm v2 = some (r0, s0) → va_P g.1 vwCl (WM g ad sg ++ (X ++ [(q0, .inl (cA0, 40, .inl tm))])) H → va_S (dd_A 9 ad X s.heap.size) s.heap H locs → lv_has ls 5 [(0, .ref (ad 0)), (1, .ref q0), (2, .int v2)] → W p l e (headSpec (lw_ws yX6_plan cX6_plan 5 (some .int)) ({ frames := 5, cells := 1, slots := 40, locals := 120 } : Room)).room s m ([.ref (ad 0)] : List Value).toArray below meth c H locs 1 40 (MQ below (QI g (WM g ad s0 ++ X) (dd_A 9 ad X s.heap.size) r0) ([.ref (ad 0)] : List Value).toArray s 1 40 (dd_A 9 ad X s.heap.size)) (F0 m 12 ls [])) (n : Nat), ∀ (sg : dd_S) (tm : Nat → Int32) (v2 : Int32) (v3 : Int32) (v4 : Int32) (H : Heap) (locs : List Loc) (ls : Array Slot), f_X6_plan_25 k_12 n sg tm v2 v3 v4 = some (r0, s0) → va_P g.1 vwCl (WM g ad sg ++ (X ++ [(q0, .inl (cA0, 40, .inl tm))])) H → va_S (dd_A 9 ad X s.heap.size) s.heap H locs → lv_has ls 5 [(0, .ref (ad 0)), (1, .ref q0), (2, .int v2), (3, .int v3), (4, .int v4)] → W p l e (headSpec (lw_ws yX6_plan cX6_plan 5 (some .int)) ({ frames := 5, cells := 1, slots := 40, locals := 120 } : Room)).room s m ([.ref (ad 0)] : List Value).toArray below meth c H locs 1 40 (MQ below (QI g (WM g ad s0 ++ X) (dd_A 9 ad X s.heap.size) r0) ([.ref (ad 0)] : List Value).toArray s 1 40 (dd_A 9 ad X s.heap.size)) (F0 m 25 ls []) := by
    intro q0 cA0 hT
    intro k_12 hk_12 n
    induction n with
    | zero =>
      intro sg tm v2 v3 v4 H locs ls hf
      rw [f_X6_plan_25] at hf
      cases hf
    | succ n ih =>
      intro sg tm v2 v3 v4 H locs ls hf hP hS hl
      rw [f_X6_plan_25] at hf
      have hD : ∀ s2 : dd_S, va_D (dd_A 9 ad X s.heap.size) (WM g ad s2 ++ (X ++ [(q0, .inl (cA0, 40, .inl tm))])) := fun s2 => hT.2.2 s2 tm
      refine lv_iload hx hb dX6_plan_25 (lv_at hl 4 rfl) ?_
      refine lv_aload_n hx hb dX6_plan_27 rfl (lv_at hl 0 rfl) ?_
      refine gf_X6_50 hx hb hts hown hK hP dX6_plan_28 ?_
      refine lv_icmp_ge (tgt := 82) hx hb dX6_plan_31 (by decide) (fun c6 => ?_) (fun c6 => ?_)
      · have hf := if_t c6 hf
        refine lv_iload_n hx hb dX6_plan_82 rfl (lv_at hl 3 rfl) ?_
        refine lv_iconst (v := (-1 : Int32)) hx hb dX6_plan_83 (by decide) ?_
        refine lv_icmp_ne (tgt := 90) hx hb dX6_plan_84 (by decide) (fun c7 => ?_) (fun c7 => ?_)
        · have hf := if_f c7 hf
          refine lv_aload_n hx hb dX6_plan_90 rfl (lv_at hl 1 rfl) ?_
          refine lv_iload_n hx hb dX6_plan_91 rfl (lv_at hl 3 rfl) ?_
          refine lv_iconst (v := (1 : Int32)) hx hb dX6_plan_92 (by decide) ?_
          obtain ⟨hi8, hf⟩ := gd_so hf
          obtain ⟨tm9, etm9, hf⟩ := lt_ex hf
          refine va_zast hx hb hT.2.1 hP (hD _) hS (9 + X.length) 3 dd_tmp rfl (ix_in hi8) dX6_plan_93 (fun H locs hP _ hS => ?_)
          rw [show vp_nar .boolean (1 : Int32) = 1 from rfl] at hP
          rw [dd_tmpset, ← etm9] at hP
          have hD : ∀ s2 : dd_S, va_D (dd_A 9 ad X s.heap.size) (WM g ad s2 ++ (X ++ [(q0, .inl (cA0, 40, .inl tm9))])) := fun s2 => hT.2.2 s2 tm9
          refine lv_aload_n hx hb dX6_plan_94 rfl (lv_at hl 0 rfl) ?_
          refine lv_iload_n hx hb dX6_plan_95 rfl (lv_at hl 3 rfl) ?_
          obtain ⟨sg11, q10, hf⟩ := bd_so hf
          refine cl_v (va_runV (As := [.int v3]) (rest := []) ⟨hx, hb, hml, hown, hts⟩ (c_X6_place l g ad (X ++ [(q0, .inl (cA0, 40, .inl tm9))]) _ sg v3 sg11 q10) (cwV 1 hts gl_X6_141 rfl rfl rfl yd_X6_place ⟨Nat.le_of_ble_eq_true rfl, Nat.le_of_ble_eq_true rfl⟩) (preV_of hK hP (hD sg) (dd_at (by decide) cm_0) rfl) rfl rfl hl.1 rfl (lv_room (Nat.le_of_ble_eq_true rfl)) dX6_plan_96 ⟨Nat.le_of_ble_eq_true rfl, Nat.le_of_ble_eq_true rfl⟩) hS (fun q h => dd_A_more hS.1 hT.1 h) (fun q h => dd_A_more hS.1 hT.1 h) (fun H locs hP hS => ?_)
          obtain ⟨x12, ex12, hf⟩ := lt_ex hf
          refine lv_iinc (v := x12) (lv' := [(2, .int x12), (0, .ref (ad 0)), (1, .ref q0), (3, .int v3), (4, .int v4)]) hx hb dX6_plan_99 hl (k := 2) rfl (by rw [ex12]; rfl) (by decide) rfl (fun ls hl => ?_)
          refine lv_goto (tgt := 12) hx hb dX6_plan_102 (by decide) ?_
          exact hk_12 sg11 tm9 x12 _ _ _ hf hP hS (lv_sub hl [1, 2, 0] rfl)
        · have hf := if_t c7 hf
          refine lv_goto (tgt := 105) hx hb dX6_plan_87 (by decide) ?_
          exact hL_105 q0 cA0 hT sg tm _ _ _ hf hP hS (lv_sub hl [0] rfl)
      · have hf := if_f c6 hf
        refine lv_aload_n hx hb dX6_plan_34 rfl (lv_at hl 1 rfl) ?_
        refine lv_iload hx hb dX6_plan_35 (lv_at hl 4 rfl) ?_
        obtain ⟨hi13, hf⟩ := gd_so hf
        refine va_zald hx hb hT.2.1 hP (9 + X.length) 3 dd_tmp rfl (ix_in hi13) dX6_plan_37 ?_
        refine lv_if_ne (tgt := 76) hx hb dX6_plan_38 (by decide) (fun c14 => ?_) (fun c14 => ?_)
        · have hf := if_f c14 hf
          exact hL_76 q0 cA0 hT k_12 hk_12 (fun zs zt z0 z1 z2 => f_X6_plan_25 k_12 n zs zt z0 z1 z2) ih sg tm v2 v3 v4 _ _ _ hf hP hS (lv_sub hl [0, 1, 2, 3, 4] rfl)
        · have hf := if_t c14 hf
          refine lv_aload_n hx hb dX6_plan_41 rfl (lv_at hl 0 rfl) ?_
          refine gf_X6_25 hx hb hts hown hK hP dX6_plan_42 ?_
          refine lv_iload hx hb dX6_plan_45 (lv_at hl 4 rfl) ?_
          obtain ⟨hi15, hf⟩ := gd_so hf
          refine W_iald hx hb hK hP 6 (by decide) cm_6 (ix_in hi15) dX6_plan_47 ?_
          refine lv_iconst (v := (-1 : Int32)) hx hb dX6_plan_48 (by decide) ?_
          refine lv_icmp_ne (tgt := 76) hx hb dX6_plan_49 (by decide) (fun c16 => ?_) (fun c16 => ?_)
          · have hf := if_f c16 hf
            exact hL_76 q0 cA0 hT k_12 hk_12 (fun zs zt z0 z1 z2 => f_X6_plan_25 k_12 n zs zt z0 z1 z2) ih sg tm v2 v3 v4 _ _ _ hf hP hS (lv_sub hl [0, 1, 2, 3, 4] rfl)
          · have hf := if_t c16 hf
            refine lv_iload_n hx hb dX6_plan_52 rfl (lv_at hl 3 rfl) ?_
            refine lv_iconst (v := (-1 : Int32)) hx hb dX6_plan_53 (by decide) ?_
            refine lv_icmp_eq (tgt := 73) hx hb dX6_plan_54 (by decide) (fun c17 => ?_) (fun c17 => ?_)
            · have hf := if_t c17 hf
              exact hL_73 q0 cA0 hT k_12 hk_12 (fun zs zt z0 z1 z2 => f_X6_plan_25 k_12 n zs zt z0 z1 z2) ih sg tm v2 v4 _ _ _ hf hP hS (lv_sub hl [0, 1, 2, 4] rfl)
            · have hf := if_f c17 hf
              refine lv_aload_n hx hb dX6_plan_57 rfl (lv_at hl 0 rfl) ?_
              refine gf_X6_19 hx hb hts hown hK hP dX6_plan_58 ?_
              refine lv_iload hx hb dX6_plan_61 (lv_at hl 4 rfl) ?_
              obtain ⟨hi18, hf⟩ := gd_so hf
              refine W_iald hx hb hK hP 4 (by decide) cm_4 (ix_in hi18) dX6_plan_63 ?_
              refine lv_aload_n hx hb dX6_plan_64 rfl (lv_at hl 0 rfl) ?_
              refine gf_X6_19 hx hb hts hown hK hP dX6_plan_65 ?_
              refine lv_iload_n hx hb dX6_plan_68 rfl (lv_at hl 3 rfl) ?_
              obtain ⟨hi19, hf⟩ := gd_so hf
              refine W_iald hx hb hK hP 4 (by decide) cm_4 (ix_in hi19) dX6_plan_69 ?_
              refine lv_icmp_ge (tgt := 76) hx hb dX6_plan_70 (by decide) (fun c20 => ?_) (fun c20 => ?_)
              · have hf := if_t c20 hf
                exact hL_76 q0 cA0 hT k_12 hk_12 (fun zs zt z0 z1 z2 => f_X6_plan_25 k_12 n zs zt z0 z1 z2) ih sg tm v2 v3 v4 _ _ _ hf hP hS (lv_sub hl [0, 1, 2, 3, 4] rfl)
              · have hf := if_f c20 hf
                exact hL_73 q0 cA0 hT k_12 hk_12 (fun zs zt z0 z1 z2 => f_X6_plan_25 k_12 n zs zt z0 z1 z2) ih sg tm v2 v4 _ _ _ hf hP hS (lv_sub hl [0, 1, 2, 4] rfl)
  have hL_12 : ∀ (q0 : Nat) (cA0 : ClassId) (hT : TM g 9 (cdM g.2 ad) ad X s q0 cA0 .boolean 40), ∀ (n : Nat), ∀ (sg : dd_S) (tm : Nat → Int32) (v2 : Int32) (H : Heap) (locs : List Loc) (ls : Array Slot), f_X6_plan_12 n sg tm v2 = some (r0, s0) → va_P g.1 vwCl (WM g ad sg ++ (X ++ [(q0, .inl (cA0, 40, .inl tm))])) H → va_S (dd_A 9 ad X s.heap.size) s.heap H locs → lv_has ls 5 [(0, .ref (ad 0)), (1, .ref q0), (2, .int v2)] → W p l e (headSpec (lw_ws yX6_plan cX6_plan 5 (some .int)) ({ frames := 5, cells := 1, slots := 40, locals := 120 } : Room)).room s m ([.ref (ad 0)] : List Value).toArray below meth c H locs 1 40 (MQ below (QI g (WM g ad s0 ++ X) (dd_A 9 ad X s.heap.size) r0) ([.ref (ad 0)] : List Value).toArray s 1 40 (dd_A 9 ad X s.heap.size)) (F0 m 12 ls []) := by
    intro q0 cA0 hT
    intro n
    induction n with
    | zero =>
      intro sg tm v2 H locs ls hf
      rw [f_X6_plan_12] at hf
      cases hf
    | succ n ih =>
      intro sg tm v2 H locs ls hf hP hS hl
      rw [f_X6_plan_12] at hf
      have hD : ∀ s2 : dd_S, va_D (dd_A 9 ad X s.heap.size) (WM g ad s2 ++ (X ++ [(q0, .inl (cA0, 40, .inl tm))])) := fun s2 => hT.2.2 s2 tm
      refine lv_iload_n hx hb dX6_plan_12 rfl (lv_at hl 2 rfl) ?_
      refine lv_aload_n hx hb dX6_plan_13 rfl (lv_at hl 0 rfl) ?_
      refine gf_X6_50 hx hb hts hown hK hP dX6_plan_14 ?_
      refine lv_icmp_ge (tgt := 105) hx hb dX6_plan_17 (by decide) (fun c3 => ?_) (fun c3 => ?_)
      · have hf := if_t c3 hf
        exact hL_105 q0 cA0 hT sg tm _ _ _ hf hP hS (lv_sub hl [0] rfl)
      · have hf := if_f c3 hf
        refine lv_iconst (v := (-1 : Int32)) hx hb dX6_plan_20 (by decide) ?_
        refine lv_istore_n (lv' := [(3, .int (-1 : Int32)), (0, .ref (ad 0)), (1, .ref q0), (2, .int v2)]) hx hb dX6_plan_21 rfl hl (by decide) rfl (fun ls hl => ?_)
        refine lv_iconst (v := (0 : Int32)) hx hb dX6_plan_22 (by decide) ?_
        refine lv_istore (lv' := [(4, .int (0 : Int32)), (3, .int (-1 : Int32)), (0, .ref (ad 0)), (1, .ref q0), (2, .int v2)]) hx hb dX6_plan_23 hl (by decide) rfl (fun ls hl => ?_)
        exact hL_25 q0 cA0 hT (fun zs zt z0 => f_X6_plan_12 n zs zt z0) ih 64 sg tm v2 (-1 : Int32) (0 : Int32) _ _ _ hf hP hS (lv_sub hl [2, 3, 4, 1, 0] rfl)
  unfold f_X6_plan at hf
  have hl := lv_entry ([.ref (ad 0)]) (n := 5) (Nat.le_of_ble_eq_true rfl)
  rw [lg_entry_eq]
  generalize (lg_sl ([.ref (ad 0)]) ++ List.replicate (5 - (lg_sl ([.ref (ad 0)])).length) Slot.unset).toArray = ls at hl ⊢
  have hl : lv_has ls 5 [(0, .ref (ad 0))] := hl
  refine lv_aload_n hx hb dX6_plan_0 rfl (lv_at hl 0 rfl) ?_
  refine lv_iconst (v := (0 : Int32)) hx hb dX6_plan_1 (by decide) ?_
  obtain ⟨sg1, esg1, hf⟩ := lt_ex hf
  refine pf_X6_47 hx hb hts hown hK hP hD hS dX6_plan_2 (fun H locs hP hS => ?_)
  rw [← esg1] at hP
  refine lv_bipush (v := (40 : Int32)) hx hb dX6_plan_5 (by decide) ?_
  refine W_newT (N := 40) (atype := .boolean) (ty := .boolean) hx hb (hts _ qw_452) rfl hK hP hD hS (fun _ => rfl) (by decide) (by decide) (by decide) (Nat.le_of_ble_eq_true rfl) (Nat.le_of_ble_eq_true rfl) dX6_plan_7 (fun q0 cA0 H hT hP hS => ?_)
  obtain ⟨tm2, etm2, hf⟩ := lt_ex hf
  rw [← etm2] at hP
  have hD : ∀ s2 : dd_S, va_D (dd_A 9 ad X s.heap.size) (WM g ad s2 ++ (X ++ [(q0, .inl (cA0, 40, .inl tm2))])) := fun s2 => hT.2.2 s2 tm2
  refine lv_astore_n (lv' := [(1, .ref q0), (0, .ref (ad 0))]) hx hb dX6_plan_9 rfl hl (by decide) rfl (fun ls hl => ?_)
  refine lv_iconst (v := (0 : Int32)) hx hb dX6_plan_10 (by decide) ?_
  refine lv_istore_n (lv' := [(2, .int (0 : Int32)), (1, .ref q0), (0, .ref (ad 0))]) hx hb dX6_plan_11 rfl hl (by decide) rfl (fun ls hl => ?_)
  exact hL_12 q0 cA0 hT 64 sg1 tm2 (0 : Int32) _ _ _ hf hP hS (lv_sub hl [2, 1, 0] rfl)
set_option maxHeartbeats 4000000 in
set_option maxRecDepth 100000 in
theorem c_X6_fill (l : Launch) (g : dd_G) (ad : Nat → Nat) (X : va_W) (sz : Nat) (sg : dd_S) (a1 : Int32) (r0 : Int32) (s0 : dd_S) (hf : f_X6_fill sg a1 = some (r0, s0)) : Met l yX6_fill (lw_ws yX6_fill cX6_fill 9 (some .int)) ({ frames := 5, cells := 1, slots := 12, locals := 122 } : Room) (va_Pc [.ref (ad 0), .int a1] (PreW g (WM g ad sg ++ X) sz)) (QI g (WM g ad s0 ++ X) (dd_A 9 ad X sz) r0) 1 12 (dd_A 9 ad X sz) := by
  refine Met.ofW (cc := cX6_fill) (maxL := 9) (ret := some .int) (by decide) rfl ?_
  intro p e s m args below meth c s₁ B hml hv
  obtain ⟨rfl, rfl, hP, hK, hD0⟩ := hv
  have hx := B.exec
  have hb := B.bytes
  have hr := B.returns
  have hts := atoms_spec (ws := (lw_ws yX6_fill cX6_fill 9 (some .int))) B.pre
  have hts : ∀ w ∈ lw_all, w.before _ s = true := fun w h => hts w (List.mem_cons_of_mem _ h)
  have hown : s.vm.findClass RX6 = some m.cls := findClass_of_methodNamed B.named
  have hlocks := B.notSynchronized
  have hD : ∀ s2 : dd_S, va_D (dd_A 9 ad X s.heap.size) (WM g ad s2 ++ X) := fun s2 => dd_D (dd_A_D hD0)
  have hS : va_S (dd_A 9 ad X s.heap.size) s.heap s.heap [] := va_S.rf
  have hL_114 : ∀ (q0 : Nat) (cA0 : ClassId) (hT : TM g 9 (cdM g.2 ad) ad X s q0 cA0 .boolean 12), ∀ (k_28 : dd_S → (Nat → Int32) → Int32 → Int32 → Option (Int32 × dd_S)) (hk_28 : ∀ (sg : dd_S) (tm : Nat → Int32) (v3 : Int32) (v4 : Int32) (H : Heap) (locs : List Loc) (ls : Array Slot), k_28 sg tm v3 v4 = some (r0, s0) → va_P g.1 vwCl (WM g ad sg ++ (X ++ [(q0, .inl (cA0, 12, .inl tm))])) H → va_S (dd_A 9 ad X s.heap.size) s.heap H locs → lv_has ls 9 [(0, .ref (ad 0)), (1, .int a1), (2, .ref q0), (3, .int v3), (4, .int v4)] → W p l e (headSpec (lw_ws yX6_fill cX6_fill 9 (some .int)) ({ frames := 5, cells := 1, slots := 12, locals := 122 } : Room)).room s m ([.ref (ad 0), .int a1] : List Value).toArray below meth c H locs 1 12 (MQ below (QI g (WM g ad s0 ++ X) (dd_A 9 ad X s.heap.size) r0) ([.ref (ad 0), .int a1] : List Value).toArray s 1 12 (dd_A 9 ad X s.heap.size)) (F0 m 28 ls [])) (k_46 : dd_S → (Nat → Int32) → Int32 → Int32 → Int32 → Int32 → Int32 → Option (Int32 × dd_S)) (hk_46 : ∀ (sg : dd_S) (tm : Nat → Int32) (v3 : Int32) (v4 : Int32) (v5 : Int32) (v6 : Int32) (v7 : Int32) (H : Heap) (locs : List Loc) (ls : Array Slot), k_46 sg tm v3 v4 v5 v6 v7 = some (r0, s0) → va_P g.1 vwCl (WM g ad sg ++ (X ++ [(q0, .inl (cA0, 12, .inl tm))])) H → va_S (dd_A 9 ad X s.heap.size) s.heap H locs → lv_has ls 9 [(0, .ref (ad 0)), (1, .int a1), (2, .ref q0), (3, .int v3), (4, .int v4), (5, .int v5), (6, .int v6), (7, .int v7)] → W p l e (headSpec (lw_ws yX6_fill cX6_fill 9 (some .int)) ({ frames := 5, cells := 1, slots := 12, locals := 122 } : Room)).room s m ([.ref (ad 0), .int a1] : List Value).toArray below meth c H locs 1 12 (MQ below (QI g (WM g ad s0 ++ X) (dd_A 9 ad X s.heap.size) r0) ([.ref (ad 0), .int a1] : List Value).toArray s 1 12 (dd_A 9 ad X s.heap.size)) (F0 m 46 ls [])), ∀ (sg : dd_S) (tm : Nat → Int32) (v3 : Int32) (v4 : Int32) (v5 : Int32) (v6 : Int32) (v7 : Int32) (H : Heap) (locs : List Loc) (ls : Array Slot), f_X6_fill_114 a1 k_28 k_46 sg tm v3 v4 v5 v6 v7 = some (r0, s0) → va_P g.1 vwCl (WM g ad sg ++ (X ++ [(q0, .inl (cA0, 12, .inl tm))])) H → va_S (dd_A 9 ad X s.heap.size) s.heap H locs → lv_has ls 9 [(0, .ref (ad 0)), (1, .int a1), (2, .ref q0), (3, .int v3), (4, .int v4), (5, .int v5), (6, .int v6), (7, .int v7)] → W p l e (headSpec (lw_ws yX6_fill cX6_fill 9 (some .int)) ({ frames := 5, cells := 1, slots := 12, locals := 122 } : Room)).room s m ([.ref (ad 0), .int a1] : List Value).toArray below meth c H locs 1 12 (MQ below (QI g (WM g ad s0 ++ X) (dd_A 9 ad X s.heap.size) r0) ([.ref (ad 0), .int a1] : List Value).toArray s 1 12 (dd_A 9 ad X s.heap.size)) (F0 m 114 ls []) := by
    intro q0 cA0 hT
    intro k_28 hk_28 k_46 hk_46 sg tm v3 v4 v5 v6 v7 H locs ls hf hP hS hl
    unfold f_X6_fill_114 at hf
    have hD : ∀ s2 : dd_S, va_D (dd_A 9 ad X s.heap.size) (WM g ad s2 ++ (X ++ [(q0, .inl (cA0, 12, .inl tm))])) := fun s2 => hT.2.2 s2 tm
    obtain ⟨x42, ex42, hf⟩ := lt_ex hf
    refine lv_iinc (v := x42) (lv' := [(7, .int x42), (0, .ref (ad 0)), (1, .int a1), (2, .ref q0), (3, .int v3), (4, .int v4), (5, .int v5), (6, .int v6)]) hx hb dX6_fill_114 hl (k := 7) rfl (by rw [ex42]; rfl) (by decide) rfl (fun ls hl => ?_)
    refine lv_goto (tgt := 46) hx hb dX6_fill_117 (by decide) ?_
    exact hk_46 sg tm v3 v4 v5 v6 x42 _ _ _ hf hP hS (lv_sub hl [1, 2, 3, 4, 5, 6, 7, 0] rfl)
  have hL_104 : ∀ (q0 : Nat) (cA0 : ClassId) (hT : TM g 9 (cdM g.2 ad) ad X s q0 cA0 .boolean 12), ∀ (k_28 : dd_S → (Nat → Int32) → Int32 → Int32 → Option (Int32 × dd_S)) (hk_28 : ∀ (sg : dd_S) (tm : Nat → Int32) (v3 : Int32) (v4 : Int32) (H : Heap) (locs : List Loc) (ls : Array Slot), k_28 sg tm v3 v4 = some (r0, s0) → va_P g.1 vwCl (WM g ad sg ++ (X ++ [(q0, .inl (cA0, 12, .inl tm))])) H → va_S (dd_A 9 ad X s.heap.size) s.heap H locs → lv_has ls 9 [(0, .ref (ad 0)), (1, .int a1), (2, .ref q0), (3, .int v3), (4, .int v4)] → W p l e (headSpec (lw_ws yX6_fill cX6_fill 9 (some .int)) ({ frames := 5, cells := 1, slots := 12, locals := 122 } : Room)).room s m ([.ref (ad 0), .int a1] : List Value).toArray below meth c H locs 1 12 (MQ below (QI g (WM g ad s0 ++ X) (dd_A 9 ad X s.heap.size) r0) ([.ref (ad 0), .int a1] : List Value).toArray s 1 12 (dd_A 9 ad X s.heap.size)) (F0 m 28 ls [])) (k_46 : dd_S → (Nat → Int32) → Int32 → Int32 → Int32 → Int32 → Int32 → Option (Int32 × dd_S)) (hk_46 : ∀ (sg : dd_S) (tm : Nat → Int32) (v3 : Int32) (v4 : Int32) (v5 : Int32) (v6 : Int32) (v7 : Int32) (H : Heap) (locs : List Loc) (ls : Array Slot), k_46 sg tm v3 v4 v5 v6 v7 = some (r0, s0) → va_P g.1 vwCl (WM g ad sg ++ (X ++ [(q0, .inl (cA0, 12, .inl tm))])) H → va_S (dd_A 9 ad X s.heap.size) s.heap H locs → lv_has ls 9 [(0, .ref (ad 0)), (1, .int a1), (2, .ref q0), (3, .int v3), (4, .int v4), (5, .int v5), (6, .int v6), (7, .int v7)] → W p l e (headSpec (lw_ws yX6_fill cX6_fill 9 (some .int)) ({ frames := 5, cells := 1, slots := 12, locals := 122 } : Room)).room s m ([.ref (ad 0), .int a1] : List Value).toArray below meth c H locs 1 12 (MQ below (QI g (WM g ad s0 ++ X) (dd_A 9 ad X s.heap.size) r0) ([.ref (ad 0), .int a1] : List Value).toArray s 1 12 (dd_A 9 ad X s.heap.size)) (F0 m 46 ls [])), ∀ (sg : dd_S) (tm : Nat → Int32) (v3 : Int32) (v4 : Int32) (v7 : Int32) (H : Heap) (locs : List Loc) (ls : Array Slot), f_X6_fill_104 a1 k_28 k_46 sg tm v3 v4 v7 = some (r0, s0) → va_P g.1 vwCl (WM g ad sg ++ (X ++ [(q0, .inl (cA0, 12, .inl tm))])) H → va_S (dd_A 9 ad X s.heap.size) s.heap H locs → lv_has ls 9 [(0, .ref (ad 0)), (1, .int a1), (2, .ref q0), (3, .int v3), (4, .int v4), (7, .int v7)] → W p l e (headSpec (lw_ws yX6_fill cX6_fill 9 (some .int)) ({ frames := 5, cells := 1, slots := 12, locals := 122 } : Room)).room s m ([.ref (ad 0), .int a1] : List Value).toArray below meth c H locs 1 12 (MQ below (QI g (WM g ad s0 ++ X) (dd_A 9 ad X s.heap.size) r0) ([.ref (ad 0), .int a1] : List Value).toArray s 1 12 (dd_A 9 ad X s.heap.size)) (F0 m 104 ls []) := by
    intro q0 cA0 hT
    intro k_28 hk_28 k_46 hk_46 sg tm v3 v4 v7 H locs ls hf hP hS hl
    unfold f_X6_fill_104 at hf
    have hD : ∀ s2 : dd_S, va_D (dd_A 9 ad X s.heap.size) (WM g ad s2 ++ (X ++ [(q0, .inl (cA0, 12, .inl tm))])) := fun s2 => hT.2.2 s2 tm
    refine lv_iload hx hb dX6_fill_104 (lv_at hl 5 rfl) ?_
    refine lv_istore (lv' := [(5, .int v7), (0, .ref (ad 0)), (1, .int a1), (2, .ref q0), (3, .int v3), (4, .int v4), (7, .int v7)]) hx hb dX6_fill_106 hl (by decide) rfl (fun ls hl => ?_)
    refine lv_aload_n hx hb dX6_fill_108 rfl (lv_at hl 1 rfl) ?_
    refine gf_X6_88 hx hb hts hown hK hP dX6_fill_109 ?_
    refine lv_istore (lv' := [(6, .int (sg 0 17)), (5, .int v7), (0, .ref (ad 0)), (1, .int a1), (2, .ref q0), (3, .int v3), (4, .int v4), (7, .int v7)]) hx hb dX6_fill_112 hl (by decide) rfl (fun ls hl => ?_)
    exact hL_114 q0 cA0 hT k_28 hk_28 k_46 hk_46 sg tm v3 v4 v7 (sg 0 17) v7 _ _ _ hf hP hS (lv_sub hl [2, 3, 4, 5, 6, 1, 0, 7] rfl)
  have hL_186 : ∀ (q0 : Nat) (cA0 : ClassId) (hT : TM g 9 (cdM g.2 ad) ad X s q0 cA0 .boolean 12), ∀ (k_28 : dd_S → (Nat → Int32) → Int32 → Int32 → Option (Int32 × dd_S)) (hk_28 : ∀ (sg : dd_S) (tm : Nat → Int32) (v3 : Int32) (v4 : Int32) (H : Heap) (locs : List Loc) (ls : Array Slot), k_28 sg tm v3 v4 = some (r0, s0) → va_P g.1 vwCl (WM g ad sg ++ (X ++ [(q0, .inl (cA0, 12, .inl tm))])) H → va_S (dd_A 9 ad X s.heap.size) s.heap H locs → lv_has ls 9 [(0, .ref (ad 0)), (1, .int a1), (2, .ref q0), (3, .int v3), (4, .int v4)] → W p l e (headSpec (lw_ws yX6_fill cX6_fill 9 (some .int)) ({ frames := 5, cells := 1, slots := 12, locals := 122 } : Room)).room s m ([.ref (ad 0), .int a1] : List Value).toArray below meth c H locs 1 12 (MQ below (QI g (WM g ad s0 ++ X) (dd_A 9 ad X s.heap.size) r0) ([.ref (ad 0), .int a1] : List Value).toArray s 1 12 (dd_A 9 ad X s.heap.size)) (F0 m 28 ls [])) (k_140 : dd_S → (Nat → Int32) → Int32 → Int32 → Int32 → Int32 → Int32 → Option (Int32 × dd_S)) (hk_140 : ∀ (sg : dd_S) (tm : Nat → Int32) (v3 : Int32) (v4 : Int32) (v5 : Int32) (v7 : Int32) (v8 : Int32) (H : Heap) (locs : List Loc) (ls : Array Slot), k_140 sg tm v3 v4 v5 v7 v8 = some (r0, s0) → va_P g.1 vwCl (WM g ad sg ++ (X ++ [(q0, .inl (cA0, 12, .inl tm))])) H → va_S (dd_A 9 ad X s.heap.size) s.heap H locs → lv_has ls 9 [(0, .ref (ad 0)), (1, .int a1), (2, .ref q0), (3, .int v3), (4, .int v4), (5, .int v5), (7, .int v7), (8, .int v8)] → W p l e (headSpec (lw_ws yX6_fill cX6_fill 9 (some .int)) ({ frames := 5, cells := 1, slots := 12, locals := 122 } : Room)).room s m ([.ref (ad 0), .int a1] : List Value).toArray below meth c H locs 1 12 (MQ below (QI g (WM g ad s0 ++ X) (dd_A 9 ad X s.heap.size) r0) ([.ref (ad 0), .int a1] : List Value).toArray s 1 12 (dd_A 9 ad X s.heap.size)) (F0 m 140 ls [])), ∀ (sg : dd_S) (tm : Nat → Int32) (v3 : Int32) (v4 : Int32) (v5 : Int32) (v7 : Int32) (v8 : Int32) (H : Heap) (locs : List Loc) (ls : Array Slot), f_X6_fill_186 a1 k_28 k_140 sg tm v3 v4 v5 v7 v8 = some (r0, s0) → va_P g.1 vwCl (WM g ad sg ++ (X ++ [(q0, .inl (cA0, 12, .inl tm))])) H → va_S (dd_A 9 ad X s.heap.size) s.heap H locs → lv_has ls 9 [(0, .ref (ad 0)), (1, .int a1), (2, .ref q0), (3, .int v3), (4, .int v4), (5, .int v5), (7, .int v7), (8, .int v8)] → W p l e (headSpec (lw_ws yX6_fill cX6_fill 9 (some .int)) ({ frames := 5, cells := 1, slots := 12, locals := 122 } : Room)).room s m ([.ref (ad 0), .int a1] : List Value).toArray below meth c H locs 1 12 (MQ below (QI g (WM g ad s0 ++ X) (dd_A 9 ad X s.heap.size) r0) ([.ref (ad 0), .int a1] : List Value).toArray s 1 12 (dd_A 9 ad X s.heap.size)) (F0 m 186 ls []) := by
    intro q0 cA0 hT
    intro k_28 hk_28 k_140 hk_140 sg tm v3 v4 v5 v7 v8 H locs ls hf hP hS hl
    unfold f_X6_fill_186 at hf
    have hD : ∀ s2 : dd_S, va_D (dd_A 9 ad X s.heap.size) (WM g ad s2 ++ (X ++ [(q0, .inl (cA0, 12, .inl tm))])) := fun s2 => hT.2.2 s2 tm
    obtain ⟨x44, ex44, hf⟩ := lt_ex hf
    refine lv_iinc (v := x44) (lv' := [(8, .int x44), (0, .ref (ad 0)), (1, .int a1), (2, .ref q0), (3, .int v3), (4, .int v4), (5, .int v5), (7, .int v7)]) hx hb dX6_fill_186 hl (k := 7) rfl (by rw [ex44]; rfl) (by decide) rfl (fun ls hl => ?_)
    refine lv_goto (tgt := 140) hx hb dX6_fill_189 (by decide) ?_
    exact hk_140 sg tm v3 v4 v5 v7 x44 _ _ _ hf hP hS (lv_sub hl [1, 2, 3, 4, 5, 6, 7, 0] rfl)
  have hL_182 : ∀ (q0 : Nat) (cA0 : ClassId) (hT : TM g 9 (cdM g.2 ad) ad X s q0 cA0 .boolean 12), ∀ (k_28 : dd_S → (Nat → Int32) → Int32 → Int32 → Option (Int32 × dd_S)) (hk_28 : ∀ (sg : dd_S) (tm : Nat → Int32) (v3 : Int32) (v4 : Int32) (H : Heap) (locs : List Loc) (ls : Array Slot), k_28 sg tm v3 v4 = some (r0, s0) → va_P g.1 vwCl (WM g ad sg ++ (X ++ [(q0, .inl (cA0, 12, .inl tm))])) H → va_S (dd_A 9 ad X s.heap.size) s.heap H locs → lv_has ls 9 [(0, .ref (ad 0)), (1, .int a1), (2, .ref q0), (3, .int v3), (4, .int v4)] → W p l e (headSpec (lw_ws yX6_fill cX6_fill 9 (some .int)) ({ frames := 5, cells := 1, slots := 12, locals := 122 } : Room)).room s m ([.ref (ad 0), .int a1] : List Value).toArray below meth c H locs 1 12 (MQ below (QI g (WM g ad s0 ++ X) (dd_A 9 ad X s.heap.size) r0) ([.ref (ad 0), .int a1] : List Value).toArray s 1 12 (dd_A 9 ad X s.heap.size)) (F0 m 28 ls [])) (k_140 : dd_S → (Nat → Int32) → Int32 → Int32 → Int32 → Int32 → Int32 → Option (Int32 × dd_S)) (hk_140 : ∀ (sg : dd_S) (tm : Nat → Int32) (v3 : Int32) (v4 : Int32) (v5 : Int32) (v7 : Int32) (v8 : Int32) (H : Heap) (locs : List Loc) (ls : Array Slot), k_140 sg tm v3 v4 v5 v7 v8 = some (r0, s0) → va_P g.1 vwCl (WM g ad sg ++ (X ++ [(q0, .inl (cA0, 12, .inl tm))])) H → va_S (dd_A 9 ad X s.heap.size) s.heap H locs → lv_has ls 9 [(0, .ref (ad 0)), (1, .int a1), (2, .ref q0), (3, .int v3), (4, .int v4), (5, .int v5), (7, .int v7), (8, .int v8)] → W p l e (headSpec (lw_ws yX6_fill cX6_fill 9 (some .int)) ({ frames := 5, cells := 1, slots := 12, locals := 122 } : Room)).room s m ([.ref (ad 0), .int a1] : List Value).toArray below meth c H locs 1 12 (MQ below (QI g (WM g ad s0 ++ X) (dd_A 9 ad X s.heap.size) r0) ([.ref (ad 0), .int a1] : List Value).toArray s 1 12 (dd_A 9 ad X s.heap.size)) (F0 m 140 ls [])), ∀ (sg : dd_S) (tm : Nat → Int32) (v3 : Int32) (v4 : Int32) (v5 : Int32) (v8 : Int32) (H : Heap) (locs : List Loc) (ls : Array Slot), f_X6_fill_182 a1 k_28 k_140 sg tm v3 v4 v5 v8 = some (r0, s0) → va_P g.1 vwCl (WM g ad sg ++ (X ++ [(q0, .inl (cA0, 12, .inl tm))])) H → va_S (dd_A 9 ad X s.heap.size) s.heap H locs → lv_has ls 9 [(0, .ref (ad 0)), (1, .int a1), (2, .ref q0), (3, .int v3), (4, .int v4), (5, .int v5), (8, .int v8)] → W p l e (headSpec (lw_ws yX6_fill cX6_fill 9 (some .int)) ({ frames := 5, cells := 1, slots := 12, locals := 122 } : Room)).room s m ([.ref (ad 0), .int a1] : List Value).toArray below meth c H locs 1 12 (MQ below (QI g (WM g ad s0 ++ X) (dd_A 9 ad X s.heap.size) r0) ([.ref (ad 0), .int a1] : List Value).toArray s 1 12 (dd_A 9 ad X s.heap.size)) (F0 m 182 ls []) := by
    intro q0 cA0 hT
    intro k_28 hk_28 k_140 hk_140 sg tm v3 v4 v5 v8 H locs ls hf hP hS hl
    unfold f_X6_fill_182 at hf
    have hD : ∀ s2 : dd_S, va_D (dd_A 9 ad X s.heap.size) (WM g ad s2 ++ (X ++ [(q0, .inl (cA0, 12, .inl tm))])) := fun s2 => hT.2.2 s2 tm
    refine lv_iload hx hb dX6_fill_182 (lv_at hl 6 rfl) ?_
    refine lv_istore (lv' := [(7, .int v8), (0, .ref (ad 0)), (1, .int a1), (2, .ref q0), (3, .int v3), (4, .int v4), (5, .int v5), (8, .int v8)]) hx hb dX6_fill_184 hl (by decide) rfl (fun ls hl => ?_)
    exact hL_186 q0 cA0 hT k_28 hk_28 k_140 hk_140 sg tm v3 v4 v5 v8 v8 _ _ _ hf hP hS (lv_sub hl [1, 2, 3, 4, 5, 6, 0, 7] rfl)
  have hL_218 : ∀ (q0 : Nat) (cA0 : ClassId) (hT : TM g 9 (cdM g.2 ad) ad X s q0 cA0 .boolean 12), ∀ (k_28 : dd_S → (Nat → Int32) → Int32 → Int32 → Option (Int32 × dd_S)) (hk_28 : ∀ (sg : dd_S) (tm : Nat → Int32) (v3 : Int32) (v4 : Int32) (H : Heap) (locs : List Loc) (ls : Array Slot), k_28 sg tm v3 v4 = some (r0, s0) → va_P g.1 vwCl (WM g ad sg ++ (X ++ [(q0, .inl (cA0, 12, .inl tm))])) H → va_S (dd_A 9 ad X s.heap.size) s.heap H locs → lv_has ls 9 [(0, .ref (ad 0)), (1, .int a1), (2, .ref q0), (3, .int v3), (4, .int v4)] → W p l e (headSpec (lw_ws yX6_fill cX6_fill 9 (some .int)) ({ frames := 5, cells := 1, slots := 12, locals := 122 } : Room)).room s m ([.ref (ad 0), .int a1] : List Value).toArray below meth c H locs 1 12 (MQ below (QI g (WM g ad s0 ++ X) (dd_A 9 ad X s.heap.size) r0) ([.ref (ad 0), .int a1] : List Value).toArray s 1 12 (dd_A 9 ad X s.heap.size)) (F0 m 28 ls [])), ∀ (sg : dd_S) (tm : Nat → Int32) (v3 : Int32) (v4 : Int32) (H : Heap) (locs : List Loc) (ls : Array Slot), f_X6_fill_218 a1 k_28 sg tm v3 v4 = some (r0, s0) → va_P g.1 vwCl (WM g ad sg ++ (X ++ [(q0, .inl (cA0, 12, .inl tm))])) H → va_S (dd_A 9 ad X s.heap.size) s.heap H locs → lv_has ls 9 [(0, .ref (ad 0)), (1, .int a1), (2, .ref q0), (3, .int v3), (4, .int v4)] → W p l e (headSpec (lw_ws yX6_fill cX6_fill 9 (some .int)) ({ frames := 5, cells := 1, slots := 12, locals := 122 } : Room)).room s m ([.ref (ad 0), .int a1] : List Value).toArray below meth c H locs 1 12 (MQ below (QI g (WM g ad s0 ++ X) (dd_A 9 ad X s.heap.size) r0) ([.ref (ad 0), .int a1] : List Value).toArray s 1 12 (dd_A 9 ad X s.heap.size)) (F0 m 218 ls []) := by
    intro q0 cA0 hT
    intro k_28 hk_28 sg tm v3 v4 H locs ls hf hP hS hl
    unfold f_X6_fill_218 at hf
    have hD : ∀ s2 : dd_S, va_D (dd_A 9 ad X s.heap.size) (WM g ad s2 ++ (X ++ [(q0, .inl (cA0, 12, .inl tm))])) := fun s2 => hT.2.2 s2 tm
    obtain ⟨x43, ex43, hf⟩ := lt_ex hf
    refine lv_iinc (v := x43) (lv' := [(4, .int x43), (0, .ref (ad 0)), (1, .int a1), (2, .ref q0), (3, .int v3)]) hx hb dX6_fill_218 hl (k := 4) rfl (by rw [ex43]; rfl) (by decide) rfl (fun ls hl => ?_)
    refine lv_goto (tgt := 28) hx hb dX6_fill_221 (by decide) ?_
    exact hk_28 sg tm v3 x43 _ _ _ hf hP hS (lv_sub hl [1, 2, 3, 4, 0] rfl)
  have hL_140 : ∀ (q0 : Nat) (cA0 : ClassId) (hT : TM g 9 (cdM g.2 ad) ad X s q0 cA0 .boolean 12), ∀ (k_28 : dd_S → (Nat → Int32) → Int32 → Int32 → Option (Int32 × dd_S)) (hk_28 : ∀ (sg : dd_S) (tm : Nat → Int32) (v3 : Int32) (v4 : Int32) (H : Heap) (locs : List Loc) (ls : Array Slot), k_28 sg tm v3 v4 = some (r0, s0) → va_P g.1 vwCl (WM g ad sg ++ (X ++ [(q0, .inl (cA0, 12, .inl tm))])) H → va_S (dd_A 9 ad X s.heap.size) s.heap H locs → lv_has ls 9 [(0, .ref (ad 0)), (1, .int a1), (2, .ref q0), (3, .int v3), (4, .int v4)] → W p l e (headSpec (lw_ws yX6_fill cX6_fill 9 (some .int)) ({ frames := 5, cells := 1, slots := 12, locals := 122 } : Room)).room s m ([.ref (ad 0), .int a1] : List Value).toArray below meth c H locs 1 12 (MQ below (QI g (WM g ad s0 ++ X) (dd_A 9 ad X s.heap.size) r0) ([.ref (ad 0), .int a1] : List Value).toArray s 1 12 (dd_A 9 ad X s.heap.size)) (F0 m 28 ls [])) (n : Nat), ∀ (sg : dd_S) (tm : Nat → Int32) (v3 : Int32) (v4 : Int32) (v5 : Int32) (v7 : Int32) (v8 : Int32) (H : Heap) (locs : List Loc) (ls : Array Slot), f_X6_fill_140 a1 k_28 n sg tm v3 v4 v5 v7 v8 = some (r0, s0) → va_P g.1 vwCl (WM g ad sg ++ (X ++ [(q0, .inl (cA0, 12, .inl tm))])) H → va_S (dd_A 9 ad X s.heap.size) s.heap H locs → lv_has ls 9 [(0, .ref (ad 0)), (1, .int a1), (2, .ref q0), (3, .int v3), (4, .int v4), (5, .int v5), (7, .int v7), (8, .int v8)] → W p l e (headSpec (lw_ws yX6_fill cX6_fill 9 (some .int)) ({ frames := 5, cells := 1, slots := 12, locals := 122 } : Room)).room s m ([.ref (ad 0), .int a1] : List Value).toArray below meth c H locs 1 12 (MQ below (QI g (WM g ad s0 ++ X) (dd_A 9 ad X s.heap.size) r0) ([.ref (ad 0), .int a1] : List Value).toArray s 1 12 (dd_A 9 ad X s.heap.size)) (F0 m 140 ls []) := by
    intro q0 cA0 hT
    intro k_28 hk_28 n
    induction n with
    | zero =>
      intro sg tm v3 v4 v5 v7 v8 H locs ls hf
      rw [f_X6_fill_140] at hf
      cases hf
    | succ n ih =>
      intro sg tm v3 v4 v5 v7 v8 H locs ls hf hP hS hl
      rw [f_X6_fill_140] at hf
      have hD : ∀ s2 : dd_S, va_D (dd_A 9 ad X s.heap.size) (WM g ad s2 ++ (X ++ [(q0, .inl (cA0, 12, .inl tm))])) := fun s2 => hT.2.2 s2 tm
      refine lv_iload hx hb dX6_fill_140 (lv_at hl 7 rfl) ?_
      refine lv_aload_n hx hb dX6_fill_142 rfl (lv_at hl 0 rfl) ?_
      refine gf_X6_74 hx hb hts hown hK hP dX6_fill_143 ?_
      refine lv_icmp_ge (tgt := 192) hx hb dX6_fill_146 (by decide) (fun c25 => ?_) (fun c25 => ?_)
      · have hf := if_t c25 hf
        refine lv_iload hx hb dX6_fill_192 (lv_at hl 6 rfl) ?_
        refine lv_iconst (v := (-1 : Int32)) hx hb dX6_fill_194 (by decide) ?_
        refine lv_icmp_ne (tgt := 204) hx hb dX6_fill_195 (by decide) (fun c26 => ?_) (fun c26 => ?_)
        · have hf := if_f c26 hf
          refine lv_aload_n hx hb dX6_fill_204 rfl (lv_at hl 0 rfl) ?_
          refine gf_X6_28 hx hb hts hown hK hP dX6_fill_205 ?_
          refine lv_bipush (v := (7 : Int32)) hx hb dX6_fill_208 (by decide) ?_
          refine lv_iload hx hb dX6_fill_210 (lv_at hl 6 rfl) ?_
          refine lv_imul hx hb dX6_fill_212 ?_
          refine lv_iload_n hx hb dX6_fill_213 rfl (lv_at hl 1 rfl) ?_
          refine lv_iadd hx hb dX6_fill_214 ?_
          refine lv_iload hx hb dX6_fill_215 (lv_at hl 5 rfl) ?_
          obtain ⟨hi27, hf⟩ := gd_so hf
          obtain ⟨sg28, esg28, hf⟩ := lt_ex hf
          refine W_iast hx hb hK hP hD hS 7 (by decide) (fun _ => cm_7) (ix_in hi27) dX6_fill_217 (fun H locs hP hS => ?_)
          rw [← esg28] at hP
          exact hL_218 q0 cA0 hT k_28 hk_28 sg28 tm v3 v4 _ _ _ hf hP hS (lv_sub hl [0, 1, 2, 3, 4] rfl)
        · have hf := if_t c26 hf
          obtain ⟨x29, ex29, hf⟩ := lt_ex hf
          refine lv_iinc (v := x29) (lv' := [(3, .int x29), (0, .ref (ad 0)), (1, .int a1), (2, .ref q0), (4, .int v4), (5, .int v5), (7, .int v7), (8, .int v8)]) hx hb dX6_fill_198 hl (k := 3) rfl (by rw [ex29]; rfl) (by decide) rfl (fun ls hl => ?_)
          refine lv_goto (tgt := 218) hx hb dX6_fill_201 (by decide) ?_
          exact hL_218 q0 cA0 hT k_28 hk_28 sg tm x29 v4 _ _ _ hf hP hS (lv_sub hl [1, 2, 3, 0, 4] rfl)
      · have hf := if_f c25 hf
        refine lv_aload_n hx hb dX6_fill_149 rfl (lv_at hl 0 rfl) ?_
        refine lv_iload hx hb dX6_fill_150 (lv_at hl 7 rfl) ?_
        refine lv_iload_n hx hb dX6_fill_152 rfl (lv_at hl 1 rfl) ?_
        refine lv_iload hx hb dX6_fill_153 (lv_at hl 5 rfl) ?_
        obtain ⟨r32, sg31, q30, hf⟩ := bd2_so hf
        refine cl_i (va_runV (As := [.int v8, .int a1, .int v5]) (rest := []) ⟨hx, hb, hml, hown, hts⟩ (c_X6_reasonFor l g ad (X ++ [(q0, .inl (cA0, 12, .inl tm))]) _ sg v8 a1 v5 r32 sg31 q30) (cwV 3 hts gl_X6_181 rfl rfl rfl yd_X6_reasonFor ⟨Nat.le_of_ble_eq_true rfl, Nat.le_of_ble_eq_true rfl⟩) (preV_of hK hP (hD sg) (dd_at (by decide) cm_0) rfl) rfl rfl hl.1 rfl (lv_room (Nat.le_of_ble_eq_true rfl)) dX6_fill_155 ⟨Nat.le_of_ble_eq_true rfl, Nat.le_of_ble_eq_true rfl⟩) hS (fun q h => dd_A_more hS.1 hT.1 h) (fun q h => dd_A_more hS.1 hT.1 h) (fun H locs hP hS => ?_)
        refine lv_if_ne (tgt := 186) hx hb dX6_fill_158 (by decide) (fun c33 => ?_) (fun c33 => ?_)
        · have hf := if_f c33 hf
          exact hL_186 q0 cA0 hT k_28 hk_28 (fun zs zt z0 z1 z2 z3 z4 => f_X6_fill_140 a1 k_28 n zs zt z0 z1 z2 z3 z4) ih sg31 tm v3 v4 v5 v7 v8 _ _ _ hf hP hS (lv_sub hl [0, 1, 2, 3, 4, 5, 6, 7] rfl)
        · have hf := if_t c33 hf
          refine lv_iload hx hb dX6_fill_161 (lv_at hl 6 rfl) ?_
          refine lv_iconst (v := (-1 : Int32)) hx hb dX6_fill_163 (by decide) ?_
          refine lv_icmp_eq (tgt := 182) hx hb dX6_fill_164 (by decide) (fun c34 => ?_) (fun c34 => ?_)
          · have hf := if_t c34 hf
            exact hL_182 q0 cA0 hT k_28 hk_28 (fun zs zt z0 z1 z2 z3 z4 => f_X6_fill_140 a1 k_28 n zs zt z0 z1 z2 z3 z4) ih sg31 tm v3 v4 v5 v8 _ _ _ hf hP hS (lv_sub hl [0, 1, 2, 3, 4, 5, 7] rfl)
          · have hf := if_f c34 hf
            refine lv_aload_n hx hb dX6_fill_167 rfl (lv_at hl 0 rfl) ?_
            refine lv_iload hx hb dX6_fill_168 (lv_at hl 7 rfl) ?_
            obtain ⟨r37, sg36, q35, hf⟩ := bd2_so hf
            refine cl_i (va_runV (As := [.int v8]) (rest := []) ⟨hx, hb, hml, hown, hts⟩ (c_X6_weekOf l g ad (X ++ [(q0, .inl (cA0, 12, .inl tm))]) _ sg31 v8 r37 sg36 q35) (cwV 1 hts gl_X6_172 rfl rfl rfl yd_X6_weekOf ⟨Nat.le_of_ble_eq_true rfl, Nat.le_of_ble_eq_true rfl⟩) (preV_of hK hP (hD sg31) (dd_at (by decide) cm_0) rfl) rfl rfl hl.1 rfl (lv_room (Nat.le_of_ble_eq_true rfl)) dX6_fill_170 ⟨Nat.le_of_ble_eq_true rfl, Nat.le_of_ble_eq_true rfl⟩) hS (fun q h => dd_A_more hS.1 hT.1 h) (fun q h => dd_A_more hS.1 hT.1 h) (fun H locs hP hS => ?_)
            refine lv_aload_n hx hb dX6_fill_173 rfl (lv_at hl 0 rfl) ?_
            refine lv_iload hx hb dX6_fill_174 (lv_at hl 6 rfl) ?_
            obtain ⟨r40, sg39, q38, hf⟩ := bd2_so hf
            refine cl_i (va_runV (As := [.int v7]) (rest := [.int r37]) ⟨hx, hb, hml, hown, hts⟩ (c_X6_weekOf l g ad (X ++ [(q0, .inl (cA0, 12, .inl tm))]) _ sg36 v7 r40 sg39 q38) (cwV 1 hts gl_X6_172 rfl rfl rfl yd_X6_weekOf ⟨Nat.le_of_ble_eq_true rfl, Nat.le_of_ble_eq_true rfl⟩) (preV_of hK hP (hD sg36) (dd_at (by decide) cm_0) rfl) rfl rfl hl.1 rfl (lv_room (Nat.le_of_ble_eq_true rfl)) dX6_fill_176 ⟨Nat.le_of_ble_eq_true rfl, Nat.le_of_ble_eq_true rfl⟩) hS (fun q h => dd_A_more hS.1 hT.1 h) (fun q h => dd_A_more hS.1 hT.1 h) (fun H locs hP hS => ?_)
            refine lv_icmp_ge (tgt := 186) hx hb dX6_fill_179 (by decide) (fun c41 => ?_) (fun c41 => ?_)
            · have hf := if_t c41 hf
              exact hL_186 q0 cA0 hT k_28 hk_28 (fun zs zt z0 z1 z2 z3 z4 => f_X6_fill_140 a1 k_28 n zs zt z0 z1 z2 z3 z4) ih sg39 tm v3 v4 v5 v7 v8 _ _ _ hf hP hS (lv_sub hl [0, 1, 2, 3, 4, 5, 6, 7] rfl)
            · have hf := if_f c41 hf
              exact hL_182 q0 cA0 hT k_28 hk_28 (fun zs zt z0 z1 z2 z3 z4 => f_X6_fill_140 a1 k_28 n zs zt z0 z1 z2 z3 z4) ih sg39 tm v3 v4 v5 v8 _ _ _ hf hP hS (lv_sub hl [0, 1, 2, 3, 4, 5, 7] rfl)
  have hL_224 : ∀ (q0 : Nat) (cA0 : ClassId) (hT : TM g 9 (cdM g.2 ad) ad X s q0 cA0 .boolean 12), ∀ (sg : dd_S) (tm : Nat → Int32) (v3 : Int32) (H : Heap) (locs : List Loc) (ls : Array Slot), f_X6_fill_224 a1 sg tm v3 = some (r0, s0) → va_P g.1 vwCl (WM g ad sg ++ (X ++ [(q0, .inl (cA0, 12, .inl tm))])) H → va_S (dd_A 9 ad X s.heap.size) s.heap H locs → lv_has ls 9 [(3, .int v3)] → W p l e (headSpec (lw_ws yX6_fill cX6_fill 9 (some .int)) ({ frames := 5, cells := 1, slots := 12, locals := 122 } : Room)).room s m ([.ref (ad 0), .int a1] : List Value).toArray below meth c H locs 1 12 (MQ below (QI g (WM g ad s0 ++ X) (dd_A 9 ad X s.heap.size) r0) ([.ref (ad 0), .int a1] : List Value).toArray s 1 12 (dd_A 9 ad X s.heap.size)) (F0 m 224 ls []) := by
    intro q0 cA0 hT
    intro sg tm v3 H locs ls hf hP hS hl
    unfold f_X6_fill_224 at hf
    have hD : ∀ s2 : dd_S, va_D (dd_A 9 ad X s.heap.size) (WM g ad s2 ++ (X ++ [(q0, .inl (cA0, 12, .inl tm))])) := fun s2 => hT.2.2 s2 tm
    refine lv_iload_n hx hb dX6_fill_224 rfl (lv_at hl 0 rfl) ?_
    have hP := P_drop hP
    exact W.iret (v := v3) hx hb hr (fun t ht hW => ⟨⟨v3, (), rfl, (so2 hf).1, P_at2 (so2 hf).2 ht hP⟩, hS.F ht⟩) hS.2.2 dX6_fill_225
  have hL_46 : ∀ (q0 : Nat) (cA0 : ClassId) (hT : TM g 9 (cdM g.2 ad) ad X s q0 cA0 .boolean 12), ∀ (k_28 : dd_S → (Nat → Int32) → Int32 → Int32 → Option (Int32 × dd_S)) (hk_28 : ∀ (sg : dd_S) (tm : Nat → Int32) (v3 : Int32) (v4 : Int32) (H : Heap) (locs : List Loc) (ls : Array Slot), k_28 sg tm v3 v4 = some (r0, s0) → va_P g.1 vwCl (WM g ad sg ++ (X ++ [(q0, .inl (cA0, 12, .inl tm))])) H → va_S (dd_A 9 ad X s.heap.size) s.heap H locs → lv_has ls 9 [(0, .ref (ad 0)), (1, .int a1), (2, .ref q0), (3, .int v3), (4, .int v4)] → W p l e (headSpec (lw_ws yX6_fill cX6_fill 9 (some .int)) ({ frames := 5, cells := 1, slots := 12, locals := 122 } : Room)).room s m ([.ref (ad 0), .int a1] : List Value).toArray below meth c H locs 1 12 (MQ below (QI g (WM g ad s0 ++ X) (dd_A 9 ad X s.heap.size) r0) ([.ref (ad 0), .int a1] : List Value).toArray s 1 12 (dd_A 9 ad X s.heap.size)) (F0 m 28 ls [])) (n : Nat), ∀ (sg : dd_S) (tm : Nat → Int32) (v3 : Int32) (v4 : Int32) (v5 : Int32) (v6 : Int32) (v7 : Int32) (H : Heap) (locs : List Loc) (ls : Array Slot), f_X6_fill_46 a1 k_28 n sg tm v3 v4 v5 v6 v7 = some (r0, s0) → va_P g.1 vwCl (WM g ad sg ++ (X ++ [(q0, .inl (cA0, 12, .inl tm))])) H → va_S (dd_A 9 ad X s.heap.size) s.heap H locs → lv_has ls 9 [(0, .ref (ad 0)), (1, .int a1), (2, .ref q0), (3, .int v3), (4, .int v4), (5, .int v5), (6, .int v6), (7, .int v7)] → W p l e (headSpec (lw_ws yX6_fill cX6_fill 9 (some .int)) ({ frames := 5, cells := 1, slots := 12, locals := 122 } : Room)).room s m ([.ref (ad 0), .int a1] : List Value).toArray below meth c H locs 1 12 (MQ below (QI g (WM g ad s0 ++ X) (dd_A 9 ad X s.heap.size) r0) ([.ref (ad 0), .int a1] : List Value).toArray s 1 12 (dd_A 9 ad X s.heap.size)) (F0 m 46 ls []) := by
    intro q0 cA0 hT
    intro k_28 hk_28 n
    induction n with
    | zero =>
      intro sg tm v3 v4 v5 v6 v7 H locs ls hf
      rw [f_X6_fill_46] at hf
      cases hf
    | succ n ih =>
      intro sg tm v3 v4 v5 v6 v7 H locs ls hf hP hS hl
      rw [f_X6_fill_46] at hf
      have hD : ∀ s2 : dd_S, va_D (dd_A 9 ad X s.heap.size) (WM g ad s2 ++ (X ++ [(q0, .inl (cA0, 12, .inl tm))])) := fun s2 => hT.2.2 s2 tm
      refine lv_iload hx hb dX6_fill_46 (lv_at hl 7 rfl) ?_
      refine lv_aload_n hx hb dX6_fill_48 rfl (lv_at hl 0 rfl) ?_
      refine gf_X6_57 hx hb hts hown hK hP dX6_fill_49 ?_
      refine lv_icmp_ge (tgt := 120) hx hb dX6_fill_52 (by decide) (fun c10 => ?_) (fun c10 => ?_)
      · have hf := if_t c10 hf
        refine lv_iload hx hb dX6_fill_120 (lv_at hl 5 rfl) ?_
        refine lv_iconst (v := (-1 : Int32)) hx hb dX6_fill_122 (by decide) ?_
        refine lv_icmp_ne (tgt := 129) hx hb dX6_fill_123 (by decide) (fun c11 => ?_) (fun c11 => ?_)
        · have hf := if_f c11 hf
          refine lv_aload_n hx hb dX6_fill_129 rfl (lv_at hl 2 rfl) ?_
          refine lv_iload hx hb dX6_fill_130 (lv_at hl 5 rfl) ?_
          refine lv_iconst (v := (1 : Int32)) hx hb dX6_fill_132 (by decide) ?_
          obtain ⟨hi12, hf⟩ := gd_so hf
          obtain ⟨tm13, etm13, hf⟩ := lt_ex hf
          refine va_zast hx hb hT.2.1 hP (hD _) hS (9 + X.length) 3 dd_tmp rfl (ix_in hi12) dX6_fill_133 (fun H locs hP _ hS => ?_)
          rw [show vp_nar .boolean (1 : Int32) = 1 from rfl] at hP
          rw [dd_tmpset, ← etm13] at hP
          have hD : ∀ s2 : dd_S, va_D (dd_A 9 ad X s.heap.size) (WM g ad s2 ++ (X ++ [(q0, .inl (cA0, 12, .inl tm13))])) := fun s2 => hT.2.2 s2 tm13
          refine lv_iconst (v := (-1 : Int32)) hx hb dX6_fill_134 (by decide) ?_
          refine lv_istore (lv' := [(7, .int (-1 : Int32)), (0, .ref (ad 0)), (1, .int a1), (2, .ref q0), (3, .int v3), (4, .int v4), (5, .int v5), (6, .int v6)]) hx hb dX6_fill_135 hl (by decide) rfl (fun ls hl => ?_)
          refine lv_iconst (v := (0 : Int32)) hx hb dX6_fill_137 (by decide) ?_
          refine lv_istore (lv' := [(8, .int (0 : Int32)), (7, .int (-1 : Int32)), (0, .ref (ad 0)), (1, .int a1), (2, .ref q0), (3, .int v3), (4, .int v4), (5, .int v5), (6, .int v6)]) hx hb dX6_fill_138 hl (by decide) rfl (fun ls hl => ?_)
          exact hL_140 q0 cA0 hT k_28 hk_28 64 sg tm13 v3 v4 v5 (-1 : Int32) (0 : Int32) _ _ _ hf hP hS (lv_sub hl [2, 3, 4, 5, 6, 7, 1, 0] rfl)
        · have hf := if_t c11 hf
          refine lv_goto (tgt := 224) hx hb dX6_fill_126 (by decide) ?_
          exact hL_224 q0 cA0 hT sg tm v3 _ _ _ hf hP hS (lv_sub hl [3] rfl)
      · have hf := if_f c10 hf
        refine lv_aload_n hx hb dX6_fill_55 rfl (lv_at hl 0 rfl) ?_
        refine lv_iload hx hb dX6_fill_56 (lv_at hl 7 rfl) ?_
        obtain ⟨r16, sg15, q14, hf⟩ := bd2_so hf
        refine cl_i (va_runV (As := [.int v7]) (rest := []) ⟨hx, hb, hml, hown, hts⟩ (c_X6_look l g ad (X ++ [(q0, .inl (cA0, 12, .inl tm))]) _ sg v7 r16 sg15 q14) (cwV 1 hts gl_X6_71 rfl rfl rfl yd_X6_look ⟨Nat.le_of_ble_eq_true rfl, Nat.le_of_ble_eq_true rfl⟩) (preV_of hK hP (hD sg) (dd_at (by decide) cm_0) rfl) rfl rfl hl.1 rfl (lv_room (Nat.le_of_ble_eq_true rfl)) dX6_fill_58 ⟨Nat.le_of_ble_eq_true rfl, Nat.le_of_ble_eq_true rfl⟩) hS (fun q h => dd_A_more hS.1 hT.1 h) (fun q h => dd_A_more hS.1 hT.1 h) (fun H locs hP hS => ?_)
        refine lv_pop hx hb dX6_fill_61 rfl ?_
        refine lv_aload_n hx hb dX6_fill_62 rfl (lv_at hl 2 rfl) ?_
        refine lv_iload hx hb dX6_fill_63 (lv_at hl 7 rfl) ?_
        obtain ⟨hi17, hf⟩ := gd_so hf
        refine va_zald hx hb hT.2.1 hP (9 + X.length) 3 dd_tmp rfl (ix_in hi17) dX6_fill_65 ?_
        refine lv_if_ne (tgt := 114) hx hb dX6_fill_66 (by decide) (fun c18 => ?_) (fun c18 => ?_)
        · have hf := if_f c18 hf
          exact hL_114 q0 cA0 hT k_28 hk_28 (fun zs zt z0 z1 z2 z3 z4 => f_X6_fill_46 a1 k_28 n zs zt z0 z1 z2 z3 z4) ih sg15 tm v3 v4 v5 v6 v7 _ _ _ hf hP hS (lv_sub hl [0, 1, 2, 3, 4, 5, 6, 7] rfl)
        · have hf := if_t c18 hf
          refine lv_aload_n hx hb dX6_fill_69 rfl (lv_at hl 0 rfl) ?_
          refine gf_X6_81 hx hb hts hown hK hP dX6_fill_70 ?_
          refine lv_if_eq (tgt := 114) hx hb dX6_fill_73 (by decide) (fun c19 => ?_) (fun c19 => ?_)
          · have hf := if_t c19 hf
            exact hL_114 q0 cA0 hT k_28 hk_28 (fun zs zt z0 z1 z2 z3 z4 => f_X6_fill_46 a1 k_28 n zs zt z0 z1 z2 z3 z4) ih sg15 tm v3 v4 v5 v6 v7 _ _ _ hf hP hS (lv_sub hl [0, 1, 2, 3, 4, 5, 6, 7] rfl)
          · have hf := if_f c19 hf
            refine lv_aload_n hx hb dX6_fill_76 rfl (lv_at hl 0 rfl) ?_
            refine lv_iload_n hx hb dX6_fill_77 rfl (lv_at hl 1 rfl) ?_
            refine lv_iload hx hb dX6_fill_78 (lv_at hl 7 rfl) ?_
            obtain ⟨r21, q20, hf⟩ := bd_so hf
            refine cl_i (va_runV (As := [.int a1, .int v7]) (rest := []) ⟨hx, hb, hml, hown, hts⟩ (c_X6_isTaken l g ad (X ++ [(q0, .inl (cA0, 12, .inl tm))]) _ sg15 a1 v7 r21 q20) (cwV 2 hts gl_X6_166 rfl rfl rfl yd_X6_isTaken ⟨Nat.le_of_ble_eq_true rfl, Nat.le_of_ble_eq_true rfl⟩) (preV_of hK hP (hD sg15) (dd_at (by decide) cm_0) rfl) rfl rfl hl.1 rfl (lv_room (Nat.le_of_ble_eq_true rfl)) dX6_fill_80 ⟨Nat.le_of_ble_eq_true rfl, Nat.le_of_ble_eq_true rfl⟩) hS (fun q h => dd_A_more hS.1 hT.1 h) (fun q h => dd_A_more hS.1 hT.1 h) (fun H locs hP hS => ?_)
            refine lv_if_ne (tgt := 114) hx hb dX6_fill_83 (by decide) (fun c22 => ?_) (fun c22 => ?_)
            · have hf := if_f c22 hf
              exact hL_114 q0 cA0 hT k_28 hk_28 (fun zs zt z0 z1 z2 z3 z4 => f_X6_fill_46 a1 k_28 n zs zt z0 z1 z2 z3 z4) ih sg15 tm v3 v4 v5 v6 v7 _ _ _ hf hP hS (lv_sub hl [0, 1, 2, 3, 4, 5, 6, 7] rfl)
            · have hf := if_t c22 hf
              refine lv_iload hx hb dX6_fill_86 (lv_at hl 5 rfl) ?_
              refine lv_iconst (v := (-1 : Int32)) hx hb dX6_fill_88 (by decide) ?_
              refine lv_icmp_eq (tgt := 104) hx hb dX6_fill_89 (by decide) (fun c23 => ?_) (fun c23 => ?_)
              · have hf := if_t c23 hf
                exact hL_104 q0 cA0 hT k_28 hk_28 (fun zs zt z0 z1 z2 z3 z4 => f_X6_fill_46 a1 k_28 n zs zt z0 z1 z2 z3 z4) ih sg15 tm v3 v4 v7 _ _ _ hf hP hS (lv_sub hl [0, 1, 2, 3, 4, 7] rfl)
              · have hf := if_f c23 hf
                refine lv_aload_n hx hb dX6_fill_92 rfl (lv_at hl 0 rfl) ?_
                refine gf_X6_88 hx hb hts hown hK hP dX6_fill_93 ?_
                refine lv_iload hx hb dX6_fill_96 (lv_at hl 6 rfl) ?_
                refine lv_icmp_lt (tgt := 104) hx hb dX6_fill_98 (by decide) (fun c24 => ?_) (fun c24 => ?_)
                · have hf := if_t c24 hf
                  exact hL_104 q0 cA0 hT k_28 hk_28 (fun zs zt z0 z1 z2 z3 z4 => f_X6_fill_46 a1 k_28 n zs zt z0 z1 z2 z3 z4) ih sg15 tm v3 v4 v7 _ _ _ hf hP hS (lv_sub hl [0, 1, 2, 3, 4, 7] rfl)
                · have hf := if_f c24 hf
                  refine lv_goto (tgt := 114) hx hb dX6_fill_101 (by decide) ?_
                  exact hL_114 q0 cA0 hT k_28 hk_28 (fun zs zt z0 z1 z2 z3 z4 => f_X6_fill_46 a1 k_28 n zs zt z0 z1 z2 z3 z4) ih sg15 tm v3 v4 v5 v6 v7 _ _ _ hf hP hS (lv_sub hl [0, 1, 2, 3, 4, 5, 6, 7] rfl)
  have hL_28 : ∀ (q0 : Nat) (cA0 : ClassId) (hT : TM g 9 (cdM g.2 ad) ad X s q0 cA0 .boolean 12), ∀ (n : Nat), ∀ (sg : dd_S) (tm : Nat → Int32) (v3 : Int32) (v4 : Int32) (H : Heap) (locs : List Loc) (ls : Array Slot), f_X6_fill_28 a1 n sg tm v3 v4 = some (r0, s0) → va_P g.1 vwCl (WM g ad sg ++ (X ++ [(q0, .inl (cA0, 12, .inl tm))])) H → va_S (dd_A 9 ad X s.heap.size) s.heap H locs → lv_has ls 9 [(0, .ref (ad 0)), (1, .int a1), (2, .ref q0), (3, .int v3), (4, .int v4)] → W p l e (headSpec (lw_ws yX6_fill cX6_fill 9 (some .int)) ({ frames := 5, cells := 1, slots := 12, locals := 122 } : Room)).room s m ([.ref (ad 0), .int a1] : List Value).toArray below meth c H locs 1 12 (MQ below (QI g (WM g ad s0 ++ X) (dd_A 9 ad X s.heap.size) r0) ([.ref (ad 0), .int a1] : List Value).toArray s 1 12 (dd_A 9 ad X s.heap.size)) (F0 m 28 ls []) := by
    intro q0 cA0 hT
    intro n
    induction n with
    | zero =>
      intro sg tm v3 v4 H locs ls hf
      rw [f_X6_fill_28] at hf
      cases hf
    | succ n ih =>
      intro sg tm v3 v4 H locs ls hf hP hS hl
      rw [f_X6_fill_28] at hf
      have hD : ∀ s2 : dd_S, va_D (dd_A 9 ad X s.heap.size) (WM g ad s2 ++ (X ++ [(q0, .inl (cA0, 12, .inl tm))])) := fun s2 => hT.2.2 s2 tm
      refine lv_iload hx hb dX6_fill_28 (lv_at hl 4 rfl) ?_
      refine lv_aload_n hx hb dX6_fill_30 rfl (lv_at hl 0 rfl) ?_
      refine gf_X6_57 hx hb hts hown hK hP dX6_fill_31 ?_
      refine lv_icmp_ge (tgt := 224) hx hb dX6_fill_34 (by decide) (fun c9 => ?_) (fun c9 => ?_)
      · have hf := if_t c9 hf
        exact hL_224 q0 cA0 hT sg tm v3 _ _ _ hf hP hS (lv_sub hl [3] rfl)
      · have hf := if_f c9 hf
        refine lv_iconst (v := (-1 : Int32)) hx hb dX6_fill_37 (by decide) ?_
        refine lv_istore (lv' := [(5, .int (-1 : Int32)), (0, .ref (ad 0)), (1, .int a1), (2, .ref q0), (3, .int v3), (4, .int v4)]) hx hb dX6_fill_38 hl (by decide) rfl (fun ls hl => ?_)
        refine lv_iconst (v := (0 : Int32)) hx hb dX6_fill_40 (by decide) ?_
        refine lv_istore (lv' := [(6, .int (0 : Int32)), (5, .int (-1 : Int32)), (0, .ref (ad 0)), (1, .int a1), (2, .ref q0), (3, .int v3), (4, .int v4)]) hx hb dX6_fill_41 hl (by decide) rfl (fun ls hl => ?_)
        refine lv_iconst (v := (0 : Int32)) hx hb dX6_fill_43 (by decide) ?_
        refine lv_istore (lv' := [(7, .int (0 : Int32)), (6, .int (0 : Int32)), (5, .int (-1 : Int32)), (0, .ref (ad 0)), (1, .int a1), (2, .ref q0), (3, .int v3), (4, .int v4)]) hx hb dX6_fill_44 hl (by decide) rfl (fun ls hl => ?_)
        exact hL_46 q0 cA0 hT (fun zs zt z0 z1 => f_X6_fill_28 a1 n zs zt z0 z1) ih 64 sg tm v3 v4 (-1 : Int32) (0 : Int32) (0 : Int32) _ _ _ hf hP hS (lv_sub hl [3, 4, 5, 6, 7, 2, 1, 0] rfl)
  unfold f_X6_fill at hf
  have hl := lv_entry ([.ref (ad 0), .int a1]) (n := 9) (Nat.le_of_ble_eq_true rfl)
  rw [lg_entry_eq]
  generalize (lg_sl ([.ref (ad 0), .int a1]) ++ List.replicate (9 - (lg_sl ([.ref (ad 0), .int a1])).length) Slot.unset).toArray = ls at hl ⊢
  have hl : lv_has ls 9 [(0, .ref (ad 0)), (1, .int a1)] := hl
  refine lv_aload_n hx hb dX6_fill_0 rfl (lv_at hl 0 rfl) ?_
  refine lv_iconst (v := (0 : Int32)) hx hb dX6_fill_1 (by decide) ?_
  obtain ⟨sg1, esg1, hf⟩ := lt_ex hf
  refine pf_X6_47 hx hb hts hown hK hP hD hS dX6_fill_2 (fun H locs hP hS => ?_)
  rw [← esg1] at hP
  refine lv_iload_n hx hb dX6_fill_5 rfl (lv_at hl 1 rfl) ?_
  obtain ⟨r3, q2, hf⟩ := bd_so hf
  refine cl_i (va_runS (As := [.int a1]) (rest := []) ⟨hx, hb, hml, hown, hts⟩ (c_X6_isDay l g ad X _ sg1 a1 r3 q2) (cwS 1 hts gl_X6_157 rfl rfl rfl yd_X6_isDay ⟨Nat.le_of_ble_eq_true rfl, Nat.le_of_ble_eq_true rfl⟩) (preS_of hK hP (hD sg1)) rfl rfl hl.1 rfl (lv_room (Nat.le_of_ble_eq_true rfl)) dX6_fill_6 ⟨Nat.le_of_ble_eq_true rfl, Nat.le_of_ble_eq_true rfl⟩) hS (fun q h => dd_A_mono hS.1 h) (fun q h => dd_A_mono hS.1 h) (fun H locs hP hS => ?_)
  refine lv_if_ne (tgt := 18) hx hb dX6_fill_9 (by decide) (fun c4 => ?_) (fun c4 => ?_)
  · have hf := if_f c4 hf
    refine lv_bipush (v := (12 : Int32)) hx hb dX6_fill_18 (by decide) ?_
    refine W_newT (N := 12) (atype := .boolean) (ty := .boolean) hx hb (hts _ qw_452) rfl hK hP hD hS (fun _ => rfl) (by decide) (by decide) (by decide) (Nat.le_of_ble_eq_true rfl) (Nat.le_of_ble_eq_true rfl) dX6_fill_20 (fun q0 cA0 H hT hP hS => ?_)
    obtain ⟨tm5, etm5, hf⟩ := lt_ex hf
    rw [← etm5] at hP
    have hD : ∀ s2 : dd_S, va_D (dd_A 9 ad X s.heap.size) (WM g ad s2 ++ (X ++ [(q0, .inl (cA0, 12, .inl tm5))])) := fun s2 => hT.2.2 s2 tm5
    refine lv_astore_n (lv' := [(2, .ref q0), (0, .ref (ad 0)), (1, .int a1)]) hx hb dX6_fill_22 rfl hl (by decide) rfl (fun ls hl => ?_)
    refine lv_iconst (v := (0 : Int32)) hx hb dX6_fill_23 (by decide) ?_
    refine lv_istore_n (lv' := [(3, .int (0 : Int32)), (2, .ref q0), (0, .ref (ad 0)), (1, .int a1)]) hx hb dX6_fill_24 rfl hl (by decide) rfl (fun ls hl => ?_)
    refine lv_iconst (v := (0 : Int32)) hx hb dX6_fill_25 (by decide) ?_
    refine lv_istore (lv' := [(4, .int (0 : Int32)), (3, .int (0 : Int32)), (2, .ref q0), (0, .ref (ad 0)), (1, .int a1)]) hx hb dX6_fill_26 hl (by decide) rfl (fun ls hl => ?_)
    exact hL_28 q0 cA0 hT 64 sg1 tm5 (0 : Int32) (0 : Int32) _ _ _ hf hP hS (lv_sub hl [3, 4, 2, 1, 0] rfl)
  · have hf := if_t c4 hf
    refine lv_aload_n hx hb dX6_fill_12 rfl (lv_at hl 0 rfl) ?_
    refine lv_iconst (v := (1 : Int32)) hx hb dX6_fill_13 (by decide) ?_
    obtain ⟨r8, sg7, q6, hf⟩ := bd2_so hf
    refine cl_i (va_runV (As := [.int (1 : Int32)]) (rest := []) ⟨hx, hb, hml, hown, hts⟩ (c_X6_no l g ad X _ sg1 (1 : Int32) r8 sg7 q6) (cwV 1 hts gl_X6_64 rfl rfl rfl yd_X6_no ⟨Nat.le_of_ble_eq_true rfl, Nat.le_of_ble_eq_true rfl⟩) (preV_of hK hP (hD sg1) (dd_at (by decide) cm_0) rfl) rfl rfl hl.1 rfl (lv_room (Nat.le_of_ble_eq_true rfl)) dX6_fill_14 ⟨Nat.le_of_ble_eq_true rfl, Nat.le_of_ble_eq_true rfl⟩) hS (fun q h => dd_A_mono hS.1 h) (fun q h => dd_A_mono hS.1 h) (fun H locs hP hS => ?_)
    refine W.widen (k := 1) (n := 12) (by decide) (by decide) ?_
    exact W.iret (v := r8) hx hb hr (fun t ht hW => ⟨⟨r8, (), rfl, (so2 hf).1, P_at2 (so2 hf).2 ht hP⟩, hS.F ht⟩) hS.2.2 dX6_fill_17
set_option maxHeartbeats 4000000 in
set_option maxRecDepth 100000 in
theorem c_X6_digest (l : Launch) (g : dd_G) (ad : Nat → Nat) (X : va_W) (sz : Nat) (sg : dd_S) (r0 : Int64) (s0 : dd_S) (hf : f_X6_digest sg = some (r0, s0)) : Met l yX6_digest (lw_ws yX6_digest cX6_digest 5 (some .long)) ({ frames := 3, cells := 108, slots := 972, locals := 73 } : Room) (va_Pc [.ref (ad 0)] (PreW g (WM g ad sg ++ X) sz)) (QL g (WM g ad s0 ++ X) (dd_A 9 ad X sz) r0) 108 972 (dd_A 9 ad X sz) := by
  refine Met.ofW (cc := cX6_digest) (maxL := 5) (ret := some .long) (by decide) rfl ?_
  intro p e s m args below meth c s₁ B hml hv
  obtain ⟨rfl, rfl, hP, hK, hD0⟩ := hv
  have hx := B.exec
  have hb := B.bytes
  have hr := B.returns
  have hts := atoms_spec (ws := (lw_ws yX6_digest cX6_digest 5 (some .long))) B.pre
  have hts : ∀ w ∈ lw_all, w.before _ s = true := fun w h => hts w (List.mem_cons_of_mem _ h)
  have hown : s.vm.findClass RX6 = some m.cls := findClass_of_methodNamed B.named
  have hlocks := B.notSynchronized
  have hD : ∀ s2 : dd_S, va_D (dd_A 9 ad X s.heap.size) (WM g ad s2 ++ X) := fun s2 => dd_D (dd_A_D hD0)
  have hS : va_S (dd_A 9 ad X s.heap.size) s.heap s.heap [] := va_S.rf
  have hL_118 : ∀ (k_107 : dd_S → Nat → Int64 → Int32 → Option (Int64 × dd_S)) (hk_107 : ∀ (sg : dd_S) (ct : Nat) (hct : ct ≤ 108) (v1 : Int64) (v3 : Int32) (H : Heap) (locs : List Loc) (ls : Array Slot), k_107 sg ct v1 v3 = some (r0, s0) → va_P g.1 vwCl (WM g ad sg ++ X) H → va_S (dd_A 9 ad X s.heap.size) s.heap H locs → lv_has ls 5 [(0, .ref (ad 0)), (1, .long v1), (3, .int v3)] → W p l e (headSpec (lw_ws yX6_digest cX6_digest 5 (some .long)) ({ frames := 3, cells := 108, slots := 972, locals := 73 } : Room)).room s m ([.ref (ad 0)] : List Value).toArray below meth c H locs ct (9 * ct) (MQ below (QL g (WM g ad s0 ++ X) (dd_A 9 ad X s.heap.size) r0) ([.ref (ad 0)] : List Value).toArray s 108 972 (dd_A 9 ad X s.heap.size)) (F0 m 107 ls [])) (n : Nat), ∀ (sg : dd_S) (ct : Nat) (hct : ct ≤ 108) (v1 : Int64) (v3 : Int32) (v4 : Int32) (H : Heap) (locs : List Loc) (ls : Array Slot), f_X6_digest_118 k_107 n sg ct v1 v3 v4 = some (r0, s0) → va_P g.1 vwCl (WM g ad sg ++ X) H → va_S (dd_A 9 ad X s.heap.size) s.heap H locs → lv_has ls 5 [(0, .ref (ad 0)), (1, .long v1), (3, .int v3), (4, .int v4)] → W p l e (headSpec (lw_ws yX6_digest cX6_digest 5 (some .long)) ({ frames := 3, cells := 108, slots := 972, locals := 73 } : Room)).room s m ([.ref (ad 0)] : List Value).toArray below meth c H locs ct (9 * ct) (MQ below (QL g (WM g ad s0 ++ X) (dd_A 9 ad X s.heap.size) r0) ([.ref (ad 0)] : List Value).toArray s 108 972 (dd_A 9 ad X s.heap.size)) (F0 m 118 ls []) := by
    intro k_107 hk_107 n
    induction n with
    | zero =>
      intro sg ct hct v1 v3 v4 H locs ls hf
      rw [f_X6_digest_118] at hf
      cases hf
    | succ n ih =>
      intro sg ct hct v1 v3 v4 H locs ls hf hP hS hl
      rw [f_X6_digest_118] at hf
      refine lv_iload hx hb dX6_digest_118 (lv_at hl 3 rfl) ?_
      refine lv_bipush (v := (9 : Int32)) hx hb dX6_digest_120 (by decide) ?_
      refine lv_icmp_ge (tgt := 146) hx hb dX6_digest_122 (by decide) (fun c18 => ?_) (fun c18 => ?_)
      · have hf := if_t c18 hf
        obtain ⟨x19, ex19, hf⟩ := lt_ex hf
        refine lv_iinc (v := x19) (lv' := [(3, .int x19), (0, .ref (ad 0)), (1, .long v1), (4, .int v4)]) hx hb dX6_digest_146 hl (k := 2) rfl (by rw [ex19]; rfl) (by decide) rfl (fun ls hl => ?_)
        refine lv_goto (tgt := 107) hx hb dX6_digest_149 (by decide) ?_
        exact hk_107 sg ct (by omega) v1 x19 _ _ _ hf hP hS (lv_sub hl [1, 2, 0] rfl)
      · have hf := if_f c18 hf
        refine lv_lload_n hx hb dX6_digest_125 rfl (lv_at hl 1 rfl) ?_
        refine lv_ldc2 (v := (31 : Int64)) hx hb hown (hts _ qw_458) dX6_digest_126 ?_
        refine lv_lmul hx hb dX6_digest_129 ?_
        refine lv_aload_n hx hb dX6_digest_130 rfl (lv_at hl 0 rfl) ?_
        refine lv_iload_n hx hb dX6_digest_131 rfl (lv_at hl 2 rfl) ?_
        refine lv_iload hx hb dX6_digest_132 (lv_at hl 3 rfl) ?_
        obtain ⟨hc23, hf⟩ := gd_so hf
        have hc23 := of_decide_eq_true hc23
        obtain ⟨r22, sg21, q20, hf⟩ := bd2_so hf
        refine cl_i (va_runV (As := [.int v3, .int v4]) (rest := [.long (v1 * (31 : Int64))]) ⟨hx, hb, hml, hown, hts⟩ (c_X6_told l g ad X _ sg v3 v4 r22 sg21 q20) (cwV 2 hts gl_X6_132 rfl rfl rfl yd_X6_told ⟨Nat.le_of_ble_eq_true rfl, Nat.le_of_ble_eq_true rfl⟩) (preV_of hK hP (hD sg) (dd_at (by decide) cm_0) rfl) rfl rfl hl.1 rfl (lv_room (Nat.le_of_ble_eq_true rfl)) dX6_digest_134 ⟨(show ct + 1 ≤ 108 by omega), (show 9 * ct + 9 ≤ 972 by omega)⟩) hS (fun q h => dd_A_mono hS.1 h) (fun q h => dd_A_mono hS.1 h) (fun H locs hP hS => ?_)
        obtain ⟨ct24, ect24, hf⟩ := lt_ex hf
        refine W.widen (k := ct24) (n := 9 * ct24) (by omega) (by omega) ?_
        refine lv_i2l hx hb dX6_digest_137 rfl ?_
        refine lv_ladd hx hb dX6_digest_138 ?_
        refine lv_topl (fun x25 ex25 => ?_)
        have hf := lt_so ex25 hf
        refine lv_lstore_n (lv' := [(1, .long x25), (0, .ref (ad 0)), (3, .int v3), (4, .int v4)]) hx hb dX6_digest_139 rfl hl (by decide) rfl (fun ls hl => ?_)
        obtain ⟨x26, ex26, hf⟩ := lt_ex hf
        refine lv_iinc (v := x26) (lv' := [(4, .int x26), (1, .long x25), (0, .ref (ad 0)), (3, .int v3)]) hx hb dX6_digest_140 hl (k := 3) rfl (by rw [ex26]; rfl) (by decide) rfl (fun ls hl => ?_)
        refine lv_goto (tgt := 118) hx hb dX6_digest_143 (by decide) ?_
        exact ih sg21 ct24 (by omega) x25 v3 x26 _ _ _ hf hP hS (lv_sub hl [2, 1, 3, 0] rfl)
  have hL_166 : ∀ (n : Nat), ∀ (sg : dd_S) (ct : Nat) (hct : ct ≤ 108) (v1 : Int64) (v3 : Int32) (H : Heap) (locs : List Loc) (ls : Array Slot), f_X6_digest_166 n sg ct v1 v3 = some (r0, s0) → va_P g.1 vwCl (WM g ad sg ++ X) H → va_S (dd_A 9 ad X s.heap.size) s.heap H locs → lv_has ls 5 [(0, .ref (ad 0)), (1, .long v1), (3, .int v3)] → W p l e (headSpec (lw_ws yX6_digest cX6_digest 5 (some .long)) ({ frames := 3, cells := 108, slots := 972, locals := 73 } : Room)).room s m ([.ref (ad 0)] : List Value).toArray below meth c H locs ct (9 * ct) (MQ below (QL g (WM g ad s0 ++ X) (dd_A 9 ad X s.heap.size) r0) ([.ref (ad 0)] : List Value).toArray s 108 972 (dd_A 9 ad X s.heap.size)) (F0 m 166 ls []) := by
    intro n
    induction n with
    | zero =>
      intro sg ct hct v1 v3 H locs ls hf
      rw [f_X6_digest_166] at hf
      cases hf
    | succ n ih =>
      intro sg ct hct v1 v3 H locs ls hf hP hS hl
      rw [f_X6_digest_166] at hf
      refine lv_iload_n hx hb dX6_digest_166 rfl (lv_at hl 2 rfl) ?_
      refine lv_bipush (v := (7 : Int32)) hx hb dX6_digest_167 (by decide) ?_
      refine lv_aload_n hx hb dX6_digest_169 rfl (lv_at hl 0 rfl) ?_
      refine gf_X6_74 hx hb hts hown hK hP dX6_digest_170 ?_
      refine lv_imul hx hb dX6_digest_173 ?_
      refine lv_icmp_ge (tgt := 197) hx hb dX6_digest_174 (by decide) (fun c14 => ?_) (fun c14 => ?_)
      · have hf := if_t c14 hf
        refine lv_lload_n hx hb dX6_digest_197 rfl (lv_at hl 1 rfl) ?_
        refine W.widen (k := 108) (n := 972) (by omega) (by omega) ?_
        exact W.lret (v := v1) hx hb hr (fun t ht hW => ⟨⟨v1, (), rfl, (so2 hf).1, P_at2 (so2 hf).2 ht hP⟩, hS.F ht⟩) hS.2.2 dX6_digest_198
      · have hf := if_f c14 hf
        refine lv_lload_n hx hb dX6_digest_177 rfl (lv_at hl 1 rfl) ?_
        refine lv_ldc2 (v := (31 : Int64)) hx hb hown (hts _ qw_458) dX6_digest_178 ?_
        refine lv_lmul hx hb dX6_digest_181 ?_
        refine lv_aload_n hx hb dX6_digest_182 rfl (lv_at hl 0 rfl) ?_
        refine gf_X6_28 hx hb hts hown hK hP dX6_digest_183 ?_
        refine lv_iload_n hx hb dX6_digest_186 rfl (lv_at hl 2 rfl) ?_
        obtain ⟨hi15, hf⟩ := gd_so hf
        refine W_iald hx hb hK hP 7 (by decide) cm_7 (ix_in hi15) dX6_digest_187 ?_
        refine lv_i2l hx hb dX6_digest_188 rfl ?_
        refine lv_ladd hx hb dX6_digest_189 ?_
        refine lv_topl (fun x16 ex16 => ?_)
        have hf := lt_so ex16 hf
        refine lv_lstore_n (lv' := [(1, .long x16), (0, .ref (ad 0)), (3, .int v3)]) hx hb dX6_digest_190 rfl hl (by decide) rfl (fun ls hl => ?_)
        obtain ⟨x17, ex17, hf⟩ := lt_ex hf
        refine lv_iinc (v := x17) (lv' := [(3, .int x17), (1, .long x16), (0, .ref (ad 0))]) hx hb dX6_digest_191 hl (k := 2) rfl (by rw [ex17]; rfl) (by decide) rfl (fun ls hl => ?_)
        refine lv_goto (tgt := 166) hx hb dX6_digest_194 (by decide) ?_
        exact ih sg ct (by omega) x16 x17 _ _ _ hf hP hS (lv_sub hl [2, 1, 0] rfl)
  have hL_107 : ∀ (n : Nat), ∀ (sg : dd_S) (ct : Nat) (hct : ct ≤ 108) (v1 : Int64) (v3 : Int32) (H : Heap) (locs : List Loc) (ls : Array Slot), f_X6_digest_107 n sg ct v1 v3 = some (r0, s0) → va_P g.1 vwCl (WM g ad sg ++ X) H → va_S (dd_A 9 ad X s.heap.size) s.heap H locs → lv_has ls 5 [(0, .ref (ad 0)), (1, .long v1), (3, .int v3)] → W p l e (headSpec (lw_ws yX6_digest cX6_digest 5 (some .long)) ({ frames := 3, cells := 108, slots := 972, locals := 73 } : Room)).room s m ([.ref (ad 0)] : List Value).toArray below meth c H locs ct (9 * ct) (MQ below (QL g (WM g ad s0 ++ X) (dd_A 9 ad X s.heap.size) r0) ([.ref (ad 0)] : List Value).toArray s 108 972 (dd_A 9 ad X s.heap.size)) (F0 m 107 ls []) := by
    intro n
    induction n with
    | zero =>
      intro sg ct hct v1 v3 H locs ls hf
      rw [f_X6_digest_107] at hf
      cases hf
    | succ n ih =>
      intro sg ct hct v1 v3 H locs ls hf hP hS hl
      rw [f_X6_digest_107] at hf
      refine lv_iload_n hx hb dX6_digest_107 rfl (lv_at hl 2 rfl) ?_
      refine lv_aload_n hx hb dX6_digest_108 rfl (lv_at hl 0 rfl) ?_
      refine gf_X6_57 hx hb hts hown hK hP dX6_digest_109 ?_
      refine lv_icmp_ge (tgt := 152) hx hb dX6_digest_112 (by decide) (fun c12 => ?_) (fun c12 => ?_)
      · have hf := if_t c12 hf
        refine lv_lload_n hx hb dX6_digest_152 rfl (lv_at hl 1 rfl) ?_
        refine lv_ldc2 (v := (31 : Int64)) hx hb hown (hts _ qw_458) dX6_digest_153 ?_
        refine lv_lmul hx hb dX6_digest_156 ?_
        refine lv_aload_n hx hb dX6_digest_157 rfl (lv_at hl 0 rfl) ?_
        refine gf_X6_74 hx hb hts hown hK hP dX6_digest_158 ?_
        refine lv_i2l hx hb dX6_digest_161 rfl ?_
        refine lv_ladd hx hb dX6_digest_162 ?_
        refine lv_topl (fun x13 ex13 => ?_)
        have hf := lt_so ex13 hf
        refine lv_lstore_n (lv' := [(1, .long x13), (0, .ref (ad 0)), (3, .int v3)]) hx hb dX6_digest_163 rfl hl (by decide) rfl (fun ls hl => ?_)
        refine lv_iconst (v := (0 : Int32)) hx hb dX6_digest_164 (by decide) ?_
        refine lv_istore_n (lv' := [(3, .int (0 : Int32)), (1, .long x13), (0, .ref (ad 0))]) hx hb dX6_digest_165 rfl hl (by decide) rfl (fun ls hl => ?_)
        exact hL_166 64 sg ct (by omega) x13 (0 : Int32) _ _ _ hf hP hS (lv_sub hl [2, 1, 0] rfl)
      · have hf := if_f c12 hf
        refine lv_iconst (v := (0 : Int32)) hx hb dX6_digest_115 (by decide) ?_
        refine lv_istore (lv' := [(4, .int (0 : Int32)), (0, .ref (ad 0)), (1, .long v1), (3, .int v3)]) hx hb dX6_digest_116 hl (by decide) rfl (fun ls hl => ?_)
        exact hL_118 (fun zs zc z0 z1 => f_X6_digest_107 n zs zc z0 z1) ih 64 sg ct (by omega) v1 v3 (0 : Int32) _ _ _ hf hP hS (lv_sub hl [1, 2, 3, 0] rfl)
  have hL_17 : ∀ (n : Nat), ∀ (sg : dd_S) (ct : Nat) (hct : ct ≤ 108) (v1 : Int64) (v3 : Int32) (H : Heap) (locs : List Loc) (ls : Array Slot), f_X6_digest_17 n sg ct v1 v3 = some (r0, s0) → va_P g.1 vwCl (WM g ad sg ++ X) H → va_S (dd_A 9 ad X s.heap.size) s.heap H locs → lv_has ls 5 [(0, .ref (ad 0)), (1, .long v1), (3, .int v3)] → W p l e (headSpec (lw_ws yX6_digest cX6_digest 5 (some .long)) ({ frames := 3, cells := 108, slots := 972, locals := 73 } : Room)).room s m ([.ref (ad 0)] : List Value).toArray below meth c H locs ct (9 * ct) (MQ below (QL g (WM g ad s0 ++ X) (dd_A 9 ad X s.heap.size) r0) ([.ref (ad 0)] : List Value).toArray s 108 972 (dd_A 9 ad X s.heap.size)) (F0 m 17 ls []) := by
    intro n
    induction n with
    | zero =>
      intro sg ct hct v1 v3 H locs ls hf
      rw [f_X6_digest_17] at hf
      cases hf
    | succ n ih =>
      intro sg ct hct v1 v3 H locs ls hf hP hS hl
      rw [f_X6_digest_17] at hf
      refine lv_iload_n hx hb dX6_digest_17 rfl (lv_at hl 2 rfl) ?_
      refine lv_aload_n hx hb dX6_digest_18 rfl (lv_at hl 0 rfl) ?_
      refine gf_X6_50 hx hb hts hown hK hP dX6_digest_19 ?_
      refine lv_icmp_ge (tgt := 93) hx hb dX6_digest_22 (by decide) (fun c3 => ?_) (fun c3 => ?_)
      · have hf := if_t c3 hf
        refine lv_lload_n hx hb dX6_digest_93 rfl (lv_at hl 1 rfl) ?_
        refine lv_ldc2 (v := (31 : Int64)) hx hb hown (hts _ qw_458) dX6_digest_94 ?_
        refine lv_lmul hx hb dX6_digest_97 ?_
        refine lv_aload_n hx hb dX6_digest_98 rfl (lv_at hl 0 rfl) ?_
        refine gf_X6_57 hx hb hts hown hK hP dX6_digest_99 ?_
        refine lv_i2l hx hb dX6_digest_102 rfl ?_
        refine lv_ladd hx hb dX6_digest_103 ?_
        refine lv_topl (fun x4 ex4 => ?_)
        have hf := lt_so ex4 hf
        refine lv_lstore_n (lv' := [(1, .long x4), (0, .ref (ad 0)), (3, .int v3)]) hx hb dX6_digest_104 rfl hl (by decide) rfl (fun ls hl => ?_)
        refine lv_iconst (v := (0 : Int32)) hx hb dX6_digest_105 (by decide) ?_
        refine lv_istore_n (lv' := [(3, .int (0 : Int32)), (1, .long x4), (0, .ref (ad 0))]) hx hb dX6_digest_106 rfl hl (by decide) rfl (fun ls hl => ?_)
        exact hL_107 64 sg ct (by omega) x4 (0 : Int32) _ _ _ hf hP hS (lv_sub hl [2, 1, 0] rfl)
      · have hf := if_f c3 hf
        refine lv_lload_n hx hb dX6_digest_25 rfl (lv_at hl 1 rfl) ?_
        refine lv_ldc2 (v := (31 : Int64)) hx hb hown (hts _ qw_458) dX6_digest_26 ?_
        refine lv_lmul hx hb dX6_digest_29 ?_
        refine lv_aload_n hx hb dX6_digest_30 rfl (lv_at hl 0 rfl) ?_
        refine gf_X6_13 hx hb hts hown hK hP dX6_digest_31 ?_
        refine lv_iload_n hx hb dX6_digest_34 rfl (lv_at hl 2 rfl) ?_
        obtain ⟨hi5, hf⟩ := gd_so hf
        refine W_iald hx hb hK hP 2 (by decide) cm_2 (ix_in hi5) dX6_digest_35 ?_
        refine lv_i2l hx hb dX6_digest_36 rfl ?_
        refine lv_ladd hx hb dX6_digest_37 ?_
        refine lv_ldc2 (v := (31 : Int64)) hx hb hown (hts _ qw_458) dX6_digest_38 ?_
        refine lv_lmul hx hb dX6_digest_41 ?_
        refine lv_aload_n hx hb dX6_digest_42 rfl (lv_at hl 0 rfl) ?_
        refine gf_X6_16 hx hb hts hown hK hP dX6_digest_43 ?_
        refine lv_iload_n hx hb dX6_digest_46 rfl (lv_at hl 2 rfl) ?_
        obtain ⟨hi6, hf⟩ := gd_so hf
        refine W_iald hx hb hK hP 3 (by decide) cm_3 (ix_in hi6) dX6_digest_47 ?_
        refine lv_i2l hx hb dX6_digest_48 rfl ?_
        refine lv_ladd hx hb dX6_digest_49 ?_
        refine lv_ldc2 (v := (31 : Int64)) hx hb hown (hts _ qw_458) dX6_digest_50 ?_
        refine lv_lmul hx hb dX6_digest_53 ?_
        refine lv_aload_n hx hb dX6_digest_54 rfl (lv_at hl 0 rfl) ?_
        refine gf_X6_19 hx hb hts hown hK hP dX6_digest_55 ?_
        refine lv_iload_n hx hb dX6_digest_58 rfl (lv_at hl 2 rfl) ?_
        obtain ⟨hi7, hf⟩ := gd_so hf
        refine W_iald hx hb hK hP 4 (by decide) cm_4 (ix_in hi7) dX6_digest_59 ?_
        refine lv_i2l hx hb dX6_digest_60 rfl ?_
        refine lv_ladd hx hb dX6_digest_61 ?_
        refine lv_ldc2 (v := (31 : Int64)) hx hb hown (hts _ qw_458) dX6_digest_62 ?_
        refine lv_lmul hx hb dX6_digest_65 ?_
        refine lv_aload_n hx hb dX6_digest_66 rfl (lv_at hl 0 rfl) ?_
        refine gf_X6_22 hx hb hts hown hK hP dX6_digest_67 ?_
        refine lv_iload_n hx hb dX6_digest_70 rfl (lv_at hl 2 rfl) ?_
        obtain ⟨hi8, hf⟩ := gd_so hf
        refine W_iald hx hb hK hP 5 (by decide) cm_5 (ix_in hi8) dX6_digest_71 ?_
        refine lv_i2l hx hb dX6_digest_72 rfl ?_
        refine lv_ladd hx hb dX6_digest_73 ?_
        refine lv_ldc2 (v := (31 : Int64)) hx hb hown (hts _ qw_458) dX6_digest_74 ?_
        refine lv_lmul hx hb dX6_digest_77 ?_
        refine lv_aload_n hx hb dX6_digest_78 rfl (lv_at hl 0 rfl) ?_
        refine gf_X6_25 hx hb hts hown hK hP dX6_digest_79 ?_
        refine lv_iload_n hx hb dX6_digest_82 rfl (lv_at hl 2 rfl) ?_
        obtain ⟨hi9, hf⟩ := gd_so hf
        refine W_iald hx hb hK hP 6 (by decide) cm_6 (ix_in hi9) dX6_digest_83 ?_
        refine lv_i2l hx hb dX6_digest_84 rfl ?_
        refine lv_ladd hx hb dX6_digest_85 ?_
        refine lv_topl (fun x10 ex10 => ?_)
        have hf := lt_so ex10 hf
        refine lv_lstore_n (lv' := [(1, .long x10), (0, .ref (ad 0)), (3, .int v3)]) hx hb dX6_digest_86 rfl hl (by decide) rfl (fun ls hl => ?_)
        obtain ⟨x11, ex11, hf⟩ := lt_ex hf
        refine lv_iinc (v := x11) (lv' := [(3, .int x11), (1, .long x10), (0, .ref (ad 0))]) hx hb dX6_digest_87 hl (k := 2) rfl (by rw [ex11]; rfl) (by decide) rfl (fun ls hl => ?_)
        refine lv_goto (tgt := 17) hx hb dX6_digest_90 (by decide) ?_
        exact ih sg ct (by omega) x10 x11 _ _ _ hf hP hS (lv_sub hl [2, 1, 0] rfl)
  unfold f_X6_digest at hf
  have hl := lv_entry ([.ref (ad 0)]) (n := 5) (Nat.le_of_ble_eq_true rfl)
  rw [lg_entry_eq]
  generalize (lg_sl ([.ref (ad 0)]) ++ List.replicate (5 - (lg_sl ([.ref (ad 0)])).length) Slot.unset).toArray = ls at hl ⊢
  have hl : lv_has ls 5 [(0, .ref (ad 0))] := hl
  refine lv_aload_n hx hb dX6_digest_0 rfl (lv_at hl 0 rfl) ?_
  refine lv_iconst (v := (0 : Int32)) hx hb dX6_digest_1 (by decide) ?_
  obtain ⟨sg1, esg1, hf⟩ := lt_ex hf
  refine pf_X6_47 hx hb hts hown hK hP hD hS dX6_digest_2 (fun H locs hP hS => ?_)
  rw [← esg1] at hP
  refine lv_ldc2 (v := (9641 : Int64)) hx hb hown (hts _ qw_457) dX6_digest_5 ?_
  refine lv_aload_n hx hb dX6_digest_8 rfl (lv_at hl 0 rfl) ?_
  refine gf_X6_50 hx hb hts hown hK hP dX6_digest_9 ?_
  refine lv_i2l hx hb dX6_digest_12 rfl ?_
  refine lv_ladd hx hb dX6_digest_13 ?_
  refine lv_topl (fun x2 ex2 => ?_)
  have hf := lt_so ex2 hf
  refine lv_lstore_n (lv' := [(1, .long x2), (0, .ref (ad 0))]) hx hb dX6_digest_14 rfl hl (by decide) rfl (fun ls hl => ?_)
  refine lv_iconst (v := (0 : Int32)) hx hb dX6_digest_15 (by decide) ?_
  refine lv_istore_n (lv' := [(3, .int (0 : Int32)), (1, .long x2), (0, .ref (ad 0))]) hx hb dX6_digest_16 rfl hl (by decide) rfl (fun ls hl => ?_)
  exact hL_17 64 sg1 0 (by omega) x2 (0 : Int32) _ _ _ hf hP hS (lv_sub hl [2, 1, 0] rfl)
