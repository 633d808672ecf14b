def f_X4_departureOf_23 (sg : dd_S) (a1 : Int32) (t0 : Int32) : Option (Int32) := some t0
def f_X4_departureOf_22 (sg : dd_S) (a1 : Int32) : Option (Int32) := f_X4_departureOf_23 sg a1 (0 : Int32)
def f_X4_departureOf (sg : dd_S) (a1 : Int32) : Option (Int32) := if a1 < (0 : Int32) then (f_X4_departureOf_22 sg a1) else (if (40 : Int32) ≤ a1 then (f_X4_departureOf_22 sg a1) else (gd (ix a1 40) (f_X4_departureOf_23 sg a1 (sg 43 a1.toNatClampNeg))))
def f_X4_fromOf_23 (sg : dd_S) (a1 : Int32) (t0 : Int32) : Option (Int32) := some t0
def f_X4_fromOf_22 (sg : dd_S) (a1 : Int32) : Option (Int32) := f_X4_fromOf_23 sg a1 (0 : Int32)
def f_X4_fromOf (sg : dd_S) (a1 : Int32) : Option (Int32) := if a1 < (0 : Int32) then (f_X4_fromOf_22 sg a1) else (if (40 : Int32) ≤ a1 then (f_X4_fromOf_22 sg a1) else (gd (ix a1 40) (f_X4_fromOf_23 sg a1 (sg 41 a1.toNatClampNeg))))
def f_X4_toOf_23 (sg : dd_S) (a1 : Int32) (t0 : Int32) : Option (Int32) := some t0
def f_X4_toOf_22 (sg : dd_S) (a1 : Int32) : Option (Int32) := f_X4_toOf_23 sg a1 (0 : Int32)
def f_X4_toOf (sg : dd_S) (a1 : Int32) : Option (Int32) := if a1 < (0 : Int32) then (f_X4_toOf_22 sg a1) else (if (40 : Int32) ≤ a1 then (f_X4_toOf_22 sg a1) else (gd (ix a1 40) (f_X4_toOf_23 sg a1 (sg 42 a1.toNatClampNeg))))
def f_X4_arrivalOf_23 (sg : dd_S) (a1 : Int32) (t0 : Int32) : Option (Int32) := some t0
def f_X4_arrivalOf_22 (sg : dd_S) (a1 : Int32) : Option (Int32) := f_X4_arrivalOf_23 sg a1 (0 : Int32)
def f_X4_arrivalOf (sg : dd_S) (a1 : Int32) : Option (Int32) := if a1 < (0 : Int32) then (f_X4_arrivalOf_22 sg a1) else (if (40 : Int32) ≤ a1 then (f_X4_arrivalOf_22 sg a1) else (gd (ix a1 40) (f_X4_arrivalOf_23 sg a1 (sg 44 a1.toNatClampNeg))))
def f_X4_minutesOf_39 (sg : dd_S) (a1 : Int32) (t0 : Int32) : Option (Int32) := some t0
def f_X4_minutesOf_38 (sg : dd_S) (a1 : Int32) : Option (Int32) := f_X4_minutesOf_39 sg a1 (0 : Int32)
def f_X4_minutesOf (sg : dd_S) (a1 : Int32) : Option (Int32) := if a1 < (0 : Int32) then (f_X4_minutesOf_38 sg a1) else (if (40 : Int32) ≤ a1 then (f_X4_minutesOf_38 sg a1) else (if (40 : Int32) ≤ a1 then (f_X4_minutesOf_38 sg a1) else (gd (ix a1 40) (gd (ix a1 40) (f_X4_minutesOf_39 sg a1 ((sg 44 a1.toNatClampNeg) - (sg 43 a1.toNatClampNeg)))))))
def f_X4_wayFrom_32 (sg : dd_S) (a1 : Int32) (a2 : Int32) (t0 : Int32) : Option (Int32) := some t0
def f_X4_wayFrom_31 (sg : dd_S) (a1 : Int32) (a2 : Int32) : Option (Int32) := f_X4_wayFrom_32 sg a1 a2 (0 : Int32)
def f_X4_wayFrom (sg : dd_S) (a1 : Int32) (a2 : Int32) : Option (Int32) := if a1 < (0 : Int32) then (f_X4_wayFrom_31 sg a1 a2) else (if (6 : Int32) ≤ a1 then (f_X4_wayFrom_31 sg a1 a2) else (if a2 < (0 : Int32) then (f_X4_wayFrom_31 sg a1 a2) else (if (6 : Int32) ≤ a2 then (f_X4_wayFrom_31 sg a1 a2) else (gd (ix a1 6) (gd (ix a2 6) (f_X4_wayFrom_32 sg a1 a2 (sg (53 + a1.toNatClampNeg) a2.toNatClampNeg)))))))
def f_X0_tripIn_23 (sg : dd_S) (d : Nat) (a1 : Int32) (t0 : Int32) : Option (Int32) := some t0
def f_X0_tripIn_22 (sg : dd_S) (d : Nat) (a1 : Int32) : Option (Int32) := f_X0_tripIn_23 sg d a1 (-1 : Int32)
def f_X0_tripIn (sg : dd_S) (d : Nat) (a1 : Int32) : Option (Int32) := if a1 < (0 : Int32) then (f_X0_tripIn_22 sg d a1) else (if (40 : Int32) ≤ a1 then (f_X0_tripIn_22 sg d a1) else (gd (ix a1 40) (f_X0_tripIn_23 sg d a1 (sg (15 + d) a1.toNatClampNeg))))
def f_X0_append_39 (d : Nat) (a1 : Int32) (sg : dd_S) : Option (dd_S) := some sg
def f_X0_append (sg : dd_S) (d : Nat) (a1 : Int32) : Option (dd_S) := if (sg d 1) < (0 : Int32) then (f_X0_append_39 d a1 sg) else (if (40 : Int32) ≤ (sg d 1) then (f_X0_append_39 d a1 sg) else (gd (ix (sg d 1) 40) (lt (st2 sg (15 + d) (sg d 1).toNatClampNeg a1) (fun sg4 : dd_S => lt (st2 sg4 d 1 ((sg4 d 1) + (1 : Int32))) (fun sg5 : dd_S => f_X0_append_39 d a1 sg5)))))
def f_X0_insert_86 (d : Nat) (a1 : Int32) (sg : dd_S) : Option (Int32 × dd_S) := some ((0 : Int32), sg)
def f_X0_insert_94 (d : Nat) (a1 : Int32) : Nat → dd_S → Int32 → Int32 → Option (Int32 × dd_S)
  | 0, _, _, _ => none
  | n + 1, sg, v4, v6 => if v6 ≤ v4 then (gd (ix v4 40) (lt (st2 sg (15 + d) v4.toNatClampNeg a1) (fun sg20 : dd_S => lt (st2 sg20 d 1 ((sg20 d 1) + (1 : Int32))) (fun sg21 : dd_S => some ((1 : Int32), sg21))))) else (gd (ix (v6 - (1 : Int32)) 40) (gd (ix v6 40) (lt (st2 sg (15 + d) v6.toNatClampNeg (sg (15 + d) (v6 - (1 : Int32)).toNatClampNeg)) (fun sg24 : dd_S => lt (v6 + (-1 : Int32)) (fun x25 : Int32 => f_X0_insert_94 d a1 n sg24 v4 x25)))))
def f_X0_insert_67 (d : Nat) (a1 : Int32) (sg : dd_S) (v4 : Int32) (t0 : Int32) : Option (Int32 × dd_S) := if t0 = (0 : Int32) then (if (sg d 1) < (40 : Int32) then (f_X0_insert_94 d a1 64 sg v4 (sg d 1)) else (f_X0_insert_86 d a1 sg)) else (f_X0_insert_86 d a1 sg)
def f_X0_insert_66 (d : Nat) (a1 : Int32) (sg : dd_S) (v4 : Int32) : Option (Int32 × dd_S) := f_X0_insert_67 d a1 sg v4 (0 : Int32)
def f_X0_insert_39 (d : Nat) (a1 : Int32) (sg : dd_S) (v3 : Int32) (v4 : Int32) : Option (Int32 × dd_S) := if (sg d 1) ≤ v4 then (f_X0_insert_66 d a1 sg v4) else (bd (f_X0_tripIn sg d v4) (fun r12 : Int32 => bd (f_X4_departureOf sg r12) (fun r14 : Int32 => if r14 = v3 then (f_X0_insert_67 d a1 sg v4 (1 : Int32)) else (f_X0_insert_66 d a1 sg v4))))
def f_X0_insert_12 (d : Nat) (a1 : Int32) : Nat → dd_S → Int32 → Int32 → Option (Int32 × dd_S)
  | 0, _, _, _ => none
  | n + 1, sg, v3, v4 => if v4 ≤ (0 : Int32) then (f_X0_insert_39 d a1 sg v3 v4) else (bd (f_X0_tripIn sg d (v4 - (1 : Int32))) (fun r5 : Int32 => bd (f_X4_departureOf sg r5) (fun r7 : Int32 => if r7 < v3 then (f_X0_insert_39 d a1 sg v3 v4) else (lt (v4 + (-1 : Int32)) (fun x9 : Int32 => f_X0_insert_12 d a1 n sg v3 x9)))))
def f_X0_insert (sg : dd_S) (d : Nat) (a1 : Int32) : Option (Int32 × dd_S) := bd (f_X4_departureOf sg a1) (fun r2 : Int32 => f_X0_insert_12 d a1 64 sg r2 (sg d 1))
def f_X0_copy_7 (d : Nat) (d2 : Nat) : Nat → dd_S → Int32 → Option (dd_S)
  | 0, _, _ => none
  | n + 1, sg, v2 => if (sg d2 1) ≤ v2 then (lt (st2 sg d 2 (sg d2 2)) (fun sg3 : dd_S => lt (st2 sg3 d 3 (sg3 d2 3)) (fun sg4 : dd_S => lt (st2 sg4 d 4 (sg4 d2 4)) (fun sg5 : dd_S => lt (st2 sg5 d 5 (sg5 d2 5)) (fun sg6 : dd_S => lt (st2 sg6 d 6 (sg6 d2 6)) (fun sg7 : dd_S => lt (st2 sg7 d 7 (sg7 d2 7)) (fun sg8 : dd_S => gd (bz (sg8 d2 8)) (lt (st2 sg8 d 8 (sg8 d2 8)) (fun sg10 : dd_S => some sg10))))))))) else (bd (f_X0_tripIn sg d2 v2) (fun r12 : Int32 => bd (f_X0_append sg d r12) (fun sg14 : dd_S => lt (v2 + (1 : Int32)) (fun x15 : Int32 => f_X0_copy_7 d d2 n sg14 x15))))
def f_X0_copy (sg : dd_S) (d : Nat) (d2 : Nat) : Option (dd_S) := lt (st2 sg d 1 (0 : Int32)) (fun sg1 : dd_S => f_X0_copy_7 d d2 64 sg1 (0 : Int32))
def f_X0_join_42 (d : Nat) (d2 : Nat) (d3 : Nat) (a3 : Int32) (k_8 : dd_S → Int32 → Option (dd_S)) (sg : dd_S) (v5 : Int32) : Option (dd_S) := lt (v5 + (1 : Int32)) (fun x22 : Int32 => k_8 sg x22)
def f_X0_join_85 (d : Nat) (d2 : Nat) (d3 : Nat) (a3 : Int32) (k_51 : dd_S → Int32 → Option (dd_S)) (sg : dd_S) (v5 : Int32) : Option (dd_S) := lt (v5 + (1 : Int32)) (fun x23 : Int32 => k_51 sg x23)
def f_X0_join_51 (d : Nat) (d2 : Nat) (d3 : Nat) (a3 : Int32) : Nat → dd_S → Int32 → Option (dd_S)
  | 0, _, _ => none
  | n + 1, sg, v5 => if (sg d3 1) ≤ v5 then (some sg) else (bd (f_X0_tripIn sg d3 v5) (fun r14 : Int32 => bd (f_X4_departureOf sg r14) (fun r16 : Int32 => if r16 < a3 then (f_X0_join_85 d d2 d3 a3 (fun zs z0 => f_X0_join_51 d d2 d3 a3 n zs z0) sg v5) else (bd (f_X0_tripIn sg d3 v5) (fun r19 : Int32 => bd (f_X0_append sg d r19) (fun sg21 : dd_S => f_X0_join_85 d d2 d3 a3 (fun zs z0 => f_X0_join_51 d d2 d3 a3 n zs z0) sg21 v5))))))
def f_X0_join_8 (d : Nat) (d2 : Nat) (d3 : Nat) (a3 : Int32) : Nat → dd_S → Int32 → Option (dd_S)
  | 0, _, _ => none
  | n + 1, sg, v5 => if (sg d2 1) ≤ v5 then (f_X0_join_51 d d2 d3 a3 64 sg (0 : Int32)) else (bd (f_X0_tripIn sg d2 v5) (fun r4 : Int32 => bd (f_X4_departureOf sg r4) (fun r6 : Int32 => if a3 ≤ r6 then (f_X0_join_42 d d2 d3 a3 (fun zs z0 => f_X0_join_8 d d2 d3 a3 n zs z0) sg v5) else (bd (f_X0_tripIn sg d2 v5) (fun r9 : Int32 => bd (f_X0_append sg d r9) (fun sg11 : dd_S => f_X0_join_42 d d2 d3 a3 (fun zs z0 => f_X0_join_8 d d2 d3 a3 n zs z0) sg11 v5))))))
def f_X0_join (sg : dd_S) (d : Nat) (d2 : Nat) (d3 : Nat) (a3 : Int32) : Option (dd_S) := lt (st2 sg d 1 (0 : Int32)) (fun sg1 : dd_S => f_X0_join_8 d d2 d3 a3 64 sg1 (0 : Int32))
def f_X0_payFor_35 (sg : dd_S) (a0 : Int32) (t0 : Int32) : Option (Int32) := some t0
def f_X0_payFor_14 (sg : dd_S) (a0 : Int32) (t0 : Int32) : Option (Int32) := if a0 ≤ (480 : Int32) then (f_X0_payFor_35 sg a0 t0) else (f_X0_payFor_35 sg a0 (t0 + ((a0 - (480 : Int32)) / (2 : Int32))))
def f_X0_payFor (sg : dd_S) (a0 : Int32) : Option (Int32) := if (360 : Int32) ≤ a0 then (f_X0_payFor_14 sg a0 a0) else (f_X0_payFor_14 sg a0 (360 : Int32))
def f_X0_endStretch_13 (d : Nat) (a1 : Int32) (sg : dd_S) : Option (dd_S) := some sg
def f_X0_endStretch (sg : dd_S) (d : Nat) (a1 : Int32) : Option (dd_S) := if a1 ≤ (sg d 7) then (f_X0_endStretch_13 d a1 sg) else (lt (st2 sg d 7 a1) (fun sg2 : dd_S => f_X0_endStretch_13 d a1 sg2))
def f_X0_measureSpread (sg : dd_S) (d : Nat) : Option (dd_S) := bd (f_X0_tripIn sg d (0 : Int32)) (fun r2 : Int32 => bd (f_X0_tripIn sg d ((sg d 1) - (1 : Int32))) (fun r4 : Int32 => bd (f_X4_fromOf sg r2) (fun r6 : Int32 => bd (f_X4_wayFrom sg (0 : Int32) r6) (fun r8 : Int32 => bd (f_X4_toOf sg r4) (fun r10 : Int32 => bd (f_X4_wayFrom sg r10 (0 : Int32)) (fun r12 : Int32 => bd (f_X4_departureOf sg r2) (fun r14 : Int32 => lt (st2 sg d 2 ((r14 - r8) - (10 : Int32))) (fun sg15 : dd_S => bd (f_X4_arrivalOf sg15 r4) (fun r17 : Int32 => lt (st2 sg15 d 3 ((r17 + r12) + (5 : Int32))) (fun sg18 : dd_S => lt (st2 sg18 d 4 ((sg18 d 3) - (sg18 d 2))) (fun sg19 : dd_S => some sg19)))))))))))
def f_X0_measureStretches_127 (d : Nat) (k_27 : dd_S → Int32 → Int32 → Int32 → Option (dd_S)) (sg : dd_S) (v4 : Int32) (v5 : Int32) (v6 : Int32) (v7 : Int32) : Option (dd_S) := bd (f_X4_minutesOf sg v6) (fun r38 : Int32 => lt (v4 + (v7 + r38)) (fun x39 : Int32 => lt (v5 + (1 : Int32)) (fun x40 : Int32 => k_27 sg v6 x39 x40)))
def f_X0_measureStretches_88 (d : Nat) (k_27 : dd_S → Int32 → Int32 → Int32 → Option (dd_S)) (sg : dd_S) (v4 : Int32) (v5 : Int32) (v6 : Int32) (v7 : Int32) (v8 : Int32) : Option (dd_S) := if v8 < (sg 32 2) then (f_X0_measureStretches_127 d k_27 sg v4 v5 v6 v7) else (lt (st2 sg d 6 ((sg d 6) + (1 : Int32))) (fun sg33 : dd_S => lt (st2 sg33 d 4 ((sg33 d 4) - v8)) (fun sg34 : dd_S => bd (f_X0_endStretch sg34 d v4) (fun sg36 : dd_S => f_X0_measureStretches_127 d k_27 sg36 (0 : Int32) v5 v6 v7))))
def f_X0_measureStretches_27 (d : Nat) : Nat → dd_S → Int32 → Int32 → Int32 → Option (dd_S)
  | 0, _, _, _, _ => none
  | n + 1, sg, v3, v4, v5 => if (sg d 1) ≤ v5 then (bd (f_X4_toOf sg v3) (fun r12 : Int32 => bd (f_X4_wayFrom sg r12 (0 : Int32)) (fun r14 : Int32 => bd (f_X0_endStretch sg d (v4 + r14)) (fun sg16 : dd_S => some sg16)))) else (bd (f_X0_tripIn sg d v5) (fun r18 : Int32 => bd (f_X4_toOf sg v3) (fun r20 : Int32 => bd (f_X4_fromOf sg r18) (fun r22 : Int32 => bd (f_X4_wayFrom sg r20 r22) (fun r24 : Int32 => bd (f_X4_departureOf sg r18) (fun r26 : Int32 => bd (f_X4_arrivalOf sg v3) (fun r28 : Int32 => lt ((r26 - r28) - r24) (fun x29 : Int32 => if (0 : Int32) ≤ x29 then (f_X0_measureStretches_88 d (fun zs z0 z1 z2 => f_X0_measureStretches_27 d n zs z0 z1 z2) sg v4 v5 r18 r24 x29) else (lt (st2 sg d 8 (0 : Int32)) (fun sg31 : dd_S => f_X0_measureStretches_88 d (fun zs z0 z1 z2 => f_X0_measureStretches_27 d n zs z0 z1 z2) sg31 v4 v5 r18 r24 x29))))))))))
def f_X0_measureStretches (sg : dd_S) (d : Nat) : Option (dd_S) := bd (f_X0_tripIn sg d (0 : Int32)) (fun r2 : Int32 => bd (f_X4_fromOf sg r2) (fun r4 : Int32 => bd (f_X4_wayFrom sg (0 : Int32) r4) (fun r6 : Int32 => bd (f_X4_minutesOf sg r2) (fun r8 : Int32 => lt (r6 + r8) (fun x9 : Int32 => f_X0_measureStretches_27 d 64 sg r2 x9 (1 : Int32))))))
def f_X0_measure_96 (d : Nat) (sg : dd_S) : Option (dd_S) := some sg
def f_X0_measure_91 (d : Nat) (sg : dd_S) : Option (dd_S) := lt (st2 sg d 8 (0 : Int32)) (fun sg18 : dd_S => f_X0_measure_96 d sg18)
def f_X0_measure (sg : dd_S) (d : Nat) : Option (dd_S) := lt (st2 sg d 2 (0 : Int32)) (fun sg1 : dd_S => lt (st2 sg1 d 3 (0 : Int32)) (fun sg2 : dd_S => lt (st2 sg2 d 4 (0 : Int32)) (fun sg3 : dd_S => lt (st2 sg3 d 5 (0 : Int32)) (fun sg4 : dd_S => lt (st2 sg4 d 6 (0 : Int32)) (fun sg5 : dd_S => lt (st2 sg5 d 7 (0 : Int32)) (fun sg6 : dd_S => lt (st2 sg6 d 8 (1 : Int32)) (fun sg7 : dd_S => if (sg7 d 1) ≤ (0 : Int32) then (f_X0_measure_96 d sg7) else (bd (f_X0_measureSpread sg7 d) (fun sg10 : dd_S => bd (f_X0_measureStretches sg10 d) (fun sg12 : dd_S => bd (f_X0_payFor sg12 (sg12 d 4)) (fun r14 : Int32 => lt (st2 sg12 d 5 r14) (fun sg15 : dd_S => if (sg15 32 0) < (sg15 d 7) then (f_X0_measure_91 d sg15) else (if ((sg15 d 3) - (sg15 d 2)) ≤ (sg15 32 1) then (f_X0_measure_96 d sg15) else (f_X0_measure_91 d sg15))))))))))))))
def f_X1_clear (sg : dd_S) : Option (dd_S) := lt (st2 sg 39 0 (-1 : Int32)) (fun sg1 : dd_S => lt (st2 sg1 39 1 (-1 : Int32)) (fun sg2 : dd_S => lt (st2 sg2 39 2 (0 : Int32)) (fun sg3 : dd_S => lt (st2 sg3 39 3 (0 : Int32)) (fun sg4 : dd_S => some sg4))))
def f_X1_offer_75 (a1 : Int32) (a2 : Int32) (a3 : Int32) (a4 : Int32) (sg : dd_S) : Option (dd_S) := some sg
def f_X1_offer_54 (a1 : Int32) (a2 : Int32) (a3 : Int32) (a4 : Int32) (sg : dd_S) : Option (dd_S) := lt (st2 sg 39 0 a1) (fun sg7 : dd_S => lt (st2 sg7 39 1 a2) (fun sg8 : dd_S => lt (st2 sg8 39 2 a3) (fun sg9 : dd_S => lt (st2 sg9 39 3 a4) (fun sg10 : dd_S => f_X1_offer_75 a1 a2 a3 a4 sg10))))
def f_X1_offer_38 (a1 : Int32) (a2 : Int32) (a3 : Int32) (a4 : Int32) (sg : dd_S) (t0 : Int32) : Option (dd_S) := if a4 < (sg 39 3) then (f_X1_offer_54 a1 a2 a3 a4 sg) else (if t0 = (0 : Int32) then (f_X1_offer_75 a1 a2 a3 a4 sg) else (f_X1_offer_54 a1 a2 a3 a4 sg))
def f_X1_offer_37 (a1 : Int32) (a2 : Int32) (a3 : Int32) (a4 : Int32) (sg : dd_S) : Option (dd_S) := f_X1_offer_38 a1 a2 a3 a4 sg (0 : Int32)
def f_X1_offer (sg : dd_S) (a1 : Int32) (a2 : Int32) (a3 : Int32) (a4 : Int32) : Option (dd_S) := if a4 = (sg 39 3) then (if a1 = (sg 39 0) then (if a2 = (sg 39 1) then (if (sg 39 2) ≤ a3 then (f_X1_offer_37 a1 a2 a3 a4 sg) else (f_X1_offer_38 a1 a2 a3 a4 sg (1 : Int32))) else (f_X1_offer_37 a1 a2 a3 a4 sg)) else (f_X1_offer_37 a1 a2 a3 a4 sg)) else (f_X1_offer_37 a1 a2 a3 a4 sg)
def f_X2_clear (sg : dd_S) : Option (dd_S) := lt (st2 sg 36 2 (0 : Int32)) (fun sg1 : dd_S => some sg1)
def f_X2_numberIn_23 (sg : dd_S) (a1 : Int32) (t0 : Int32) : Option (Int32) := some t0
def f_X2_numberIn_22 (sg : dd_S) (a1 : Int32) : Option (Int32) := f_X2_numberIn_23 sg a1 (-1 : Int32)
def f_X2_numberIn (sg : dd_S) (a1 : Int32) : Option (Int32) := if a1 < (0 : Int32) then (f_X2_numberIn_22 sg a1) else (if (40 : Int32) ≤ a1 then (f_X2_numberIn_22 sg a1) else (gd (ix a1 40) (f_X2_numberIn_23 sg a1 (sg 38 a1.toNatClampNeg))))
def f_X2_insert_68 (a1 : Int32) (a2 : Int32) (sg : dd_S) (v3 : Int32) : Option (dd_S) := gd (ix v3 40) (lt (st2 sg 37 v3.toNatClampNeg a1) (fun sg13 : dd_S => gd (ix v3 40) (lt (st2 sg13 38 v3.toNatClampNeg a2) (fun sg15 : dd_S => lt (st2 sg15 36 2 ((sg15 36 2) + (1 : Int32))) (fun sg16 : dd_S => some sg16)))))
def f_X2_insert_18 (a1 : Int32) (a2 : Int32) : Nat → dd_S → Int32 → Option (dd_S)
  | 0, _, _ => none
  | n + 1, sg, v3 => if v3 ≤ (0 : Int32) then (f_X2_insert_68 a1 a2 sg v3) else (gd (ix (v3 - (1 : Int32)) 40) (if (sg 37 (v3 - (1 : Int32)).toNatClampNeg) ≤ a1 then (f_X2_insert_68 a1 a2 sg v3) else (gd (ix (v3 - (1 : Int32)) 40) (gd (ix v3 40) (lt (st2 sg 37 v3.toNatClampNeg (sg 37 (v3 - (1 : Int32)).toNatClampNeg)) (fun sg7 : dd_S => gd (ix (v3 - (1 : Int32)) 40) (gd (ix v3 40) (lt (st2 sg7 38 v3.toNatClampNeg (sg7 38 (v3 - (1 : Int32)).toNatClampNeg)) (fun sg10 : dd_S => lt (v3 + (-1 : Int32)) (fun x11 : Int32 => f_X2_insert_18 a1 a2 n sg10 x11))))))))))
def f_X2_insert (sg : dd_S) (a1 : Int32) (a2 : Int32) : Option (dd_S) := if (sg 36 2) < (40 : Int32) then (f_X2_insert_18 a1 a2 64 sg (sg 36 2)) else (some sg)
def f_X4_append (sg : dd_S) (a1 : Int32) (a2 : Int32) (a3 : Int32) (a4 : Int32) : Option (Int32 × dd_S) := if (sg 31 5) < (40 : Int32) then (gd (ix (sg 31 5) 40) (lt (st2 sg 41 (sg 31 5).toNatClampNeg a1) (fun sg3 : dd_S => gd (ix (sg3 31 5) 40) (lt (st2 sg3 42 (sg3 31 5).toNatClampNeg a2) (fun sg5 : dd_S => gd (ix (sg5 31 5) 40) (lt (st2 sg5 43 (sg5 31 5).toNatClampNeg a3) (fun sg7 : dd_S => gd (ix (sg7 31 5) 40) (lt (st2 sg7 44 (sg7 31 5).toNatClampNeg a4) (fun sg9 : dd_S => lt (st2 sg9 31 5 ((sg9 31 5) + (1 : Int32))) (fun sg10 : dd_S => some ((sg9 31 5), sg10))))))))))) else (some ((-1 : Int32), sg))
def f_X5_isPoint_15 (sg : dd_S) (a0 : Int32) (t0 : Int32) : Option (Int32) := gd (bz t0) (some t0)
def f_X5_isPoint_14 (sg : dd_S) (a0 : Int32) : Option (Int32) := f_X5_isPoint_15 sg a0 (0 : Int32)
def f_X5_isPoint (sg : dd_S) (a0 : Int32) : Option (Int32) := if a0 < (0 : Int32) then (f_X5_isPoint_14 sg a0) else (if (6 : Int32) ≤ a0 then (f_X5_isPoint_14 sg a0) else (f_X5_isPoint_15 sg a0 (1 : Int32)))
def f_X5_isDay_15 (sg : dd_S) (a0 : Int32) (t0 : Int32) : Option (Int32) := gd (bz t0) (some t0)
def f_X5_isDay_14 (sg : dd_S) (a0 : Int32) : Option (Int32) := f_X5_isDay_15 sg a0 (0 : Int32)
def f_X5_isDay (sg : dd_S) (a0 : Int32) : Option (Int32) := if a0 < (0 : Int32) then (f_X5_isDay_14 sg a0) else (if (7 : Int32) ≤ a0 then (f_X5_isDay_14 sg a0) else (f_X5_isDay_15 sg a0 (1 : Int32)))
def f_X5_areTimesOfTrip_30 (sg : dd_S) (a0 : Int32) (a1 : Int32) (t0 : Int32) : Option (Int32) := gd (bz t0) (some t0)
def f_X5_areTimesOfTrip_29 (sg : dd_S) (a0 : Int32) (a1 : Int32) : Option (Int32) := f_X5_areTimesOfTrip_30 sg a0 a1 (0 : Int32)
def f_X5_areTimesOfTrip (sg : dd_S) (a0 : Int32) (a1 : Int32) : Option (Int32) := if a0 < (0 : Int32) then (f_X5_areTimesOfTrip_29 sg a0 a1) else (if a1 ≤ a0 then (f_X5_areTimesOfTrip_29 sg a0 a1) else (if (1799 : Int32) < a1 then (f_X5_areTimesOfTrip_29 sg a0 a1) else (if (240 : Int32) < (a1 - a0) then (f_X5_areTimesOfTrip_29 sg a0 a1) else (f_X5_areTimesOfTrip_30 sg a0 a1 (1 : Int32)))))
def f_X5_isTrip_20 (sg : dd_S) (a1 : Int32) (t0 : Int32) : Option (Int32) := gd (bz t0) (some t0)
def f_X5_isTrip_19 (sg : dd_S) (a1 : Int32) : Option (Int32) := f_X5_isTrip_20 sg a1 (0 : Int32)
def f_X5_isTrip (sg : dd_S) (a1 : Int32) : Option (Int32) := if a1 < (0 : Int32) then (f_X5_isTrip_19 sg a1) else (if (sg 31 5) ≤ a1 then (f_X5_isTrip_19 sg a1) else (f_X5_isTrip_20 sg a1 (1 : Int32)))
def f_X5_isDuty_17 (sg : dd_S) (a1 : Int32) (t0 : Int32) : Option (Int32) := gd (bz t0) (some t0)
def f_X5_isDuty_16 (sg : dd_S) (a1 : Int32) : Option (Int32) := f_X5_isDuty_17 sg a1 (0 : Int32)
def f_X5_isDuty (sg : dd_S) (a1 : Int32) : Option (Int32) := if a1 < (0 : Int32) then (f_X5_isDuty_16 sg a1) else (if (sg 30 5) ≤ a1 then (f_X5_isDuty_16 sg a1) else (f_X5_isDuty_17 sg a1 (1 : Int32)))
def f_X5_isDriver_17 (sg : dd_S) (a1 : Int32) (t0 : Int32) : Option (Int32) := gd (bz t0) (some t0)
def f_X5_isDriver_16 (sg : dd_S) (a1 : Int32) : Option (Int32) := f_X5_isDriver_17 sg a1 (0 : Int32)
def f_X5_isDriver (sg : dd_S) (a1 : Int32) : Option (Int32) := if a1 < (0 : Int32) then (f_X5_isDriver_16 sg a1) else (if (sg 30 6) ≤ a1 then (f_X5_isDriver_16 sg a1) else (f_X5_isDriver_17 sg a1 (1 : Int32)))
def f_X5_dutyAt_26 (sg : dd_S) (a1 : Int32) (kt0 : Nat) : Option (Nat) := some kt0
def f_X5_dutyAt_22 (sg : dd_S) (a1 : Int32) : Option (Nat) := f_X5_dutyAt_26 sg a1 14
def f_X5_dutyAt (sg : dd_S) (a1 : Int32) : Option (Nat) := if a1 < (0 : Int32) then (f_X5_dutyAt_22 sg a1) else (if (12 : Int32) ≤ a1 then (f_X5_dutyAt_22 sg a1) else (gd (ix a1 12) (f_X5_dutyAt_26 sg a1 a1.toNatClampNeg)))
theorem lt_X5_dutyAt {sg : dd_S} {a1 : Int32} {k : Nat} (h : f_X5_dutyAt sg a1 = some k) : k < 15 := by
  unfold f_X5_dutyAt f_X5_dutyAt_22 f_X5_dutyAt_26 at h
  split at h
  · cases h
    decide
  · split at h
    · cases h
      decide
    · obtain ⟨h1, h2⟩ := gd_so h
      cases h2
      exact ix_lt h1 (by decide)

def f_X5_dutyOf_23 (sg : dd_S) (a1 : Int32) (t0 : Int32) : Option (Int32) := some t0
def f_X5_dutyOf_22 (sg : dd_S) (a1 : Int32) : Option (Int32) := f_X5_dutyOf_23 sg a1 (-1 : Int32)
def f_X5_dutyOf (sg : dd_S) (a1 : Int32) : Option (Int32) := if a1 < (0 : Int32) then (f_X5_dutyOf_22 sg a1) else (if (40 : Int32) ≤ a1 then (f_X5_dutyOf_22 sg a1) else (gd (ix a1 40) (f_X5_dutyOf_23 sg a1 (sg 34 a1.toNatClampNeg))))
def f_X5_assign_20 (a1 : Int32) (a2 : Int32) (sg : dd_S) : Option (dd_S) := some sg
def f_X5_assign (sg : dd_S) (a1 : Int32) (a2 : Int32) : Option (dd_S) := if a1 < (0 : Int32) then (f_X5_assign_20 a1 a2 sg) else (if (40 : Int32) ≤ a1 then (f_X5_assign_20 a1 a2 sg) else (gd (ix a1 40) (lt (st2 sg 34 a1.toNatClampNeg a2) (fun sg4 : dd_S => f_X5_assign_20 a1 a2 sg4))))
def f_X5_tripFact (sg : dd_S) (a1 : Int32) (a2 : Int32) : Option (Int32) := if a2 = (0 : Int32) then (bd (f_X4_fromOf sg a1) (fun r3 : Int32 => some r3)) else (if a2 = (1 : Int32) then (bd (f_X4_toOf sg a1) (fun r6 : Int32 => some r6)) else (if a2 = (2 : Int32) then (bd (f_X4_departureOf sg a1) (fun r9 : Int32 => some r9)) else (if a2 = (3 : Int32) then (bd (f_X4_arrivalOf sg a1) (fun r12 : Int32 => some r12)) else (bd (f_X5_dutyOf sg a1) (fun r14 : Int32 => some r14)))))
def f_X5_dutyOn_32 (sg : dd_S) (a1 : Int32) (a2 : Int32) (t0 : Int32) : Option (Int32) := some t0
def f_X5_dutyOn_31 (sg : dd_S) (a1 : Int32) (a2 : Int32) : Option (Int32) := f_X5_dutyOn_32 sg a1 a2 (-1 : Int32)
def f_X5_dutyOn (sg : dd_S) (a1 : Int32) (a2 : Int32) : Option (Int32) := if a1 < (0 : Int32) then (f_X5_dutyOn_31 sg a1 a2) else (if (8 : Int32) ≤ a1 then (f_X5_dutyOn_31 sg a1 a2) else (if a2 < (0 : Int32) then (f_X5_dutyOn_31 sg a1 a2) else (if (7 : Int32) ≤ a2 then (f_X5_dutyOn_31 sg a1 a2) else (gd (ix a1 8) (gd (ix a2 7) (f_X5_dutyOn_32 sg a1 a2 (sg (45 + a1.toNatClampNeg) a2.toNatClampNeg)))))))
def f_X5_enter_29 (a1 : Int32) (a2 : Int32) (a3 : Int32) (sg : dd_S) : Option (dd_S) := some sg
def f_X5_enter (sg : dd_S) (a1 : Int32) (a2 : Int32) (a3 : Int32) : Option (dd_S) := if a1 < (0 : Int32) then (f_X5_enter_29 a1 a2 a3 sg) else (if (8 : Int32) ≤ a1 then (f_X5_enter_29 a1 a2 a3 sg) else (if a2 < (0 : Int32) then (f_X5_enter_29 a1 a2 a3 sg) else (if (7 : Int32) ≤ a2 then (f_X5_enter_29 a1 a2 a3 sg) else (gd (ix a1 8) (gd (ix a2 7) (lt (st2 sg (45 + a1.toNatClampNeg) a2.toNatClampNeg a3) (fun sg7 : dd_S => f_X5_enter_29 a1 a2 a3 sg7)))))))
def f_X5_isHadOn_2 (sg : dd_S) (a1 : Int32) (a2 : Int32) : Nat → Int32 → Option (Int32)
  | 0, _ => none
  | n + 1, v3 => if (sg 30 6) ≤ v3 then (some (0 : Int32)) else (bd (f_X5_dutyOn sg v3 a2) (fun r3 : Int32 => if r3 = a1 then (some (1 : Int32)) else (lt (v3 + (1 : Int32)) (fun x5 : Int32 => f_X5_isHadOn_2 sg a1 a2 n x5))))
def f_X5_isHadOn (sg : dd_S) (a1 : Int32) (a2 : Int32) : Option (Int32) := f_X5_isHadOn_2 sg a1 a2 64 (0 : Int32)
def f_X5_isFixed_2 (sg : dd_S) (a1 : Int32) : Nat → Int32 → Option (Int32)
  | 0, _ => none
  | n + 1, v2 => if (7 : Int32) ≤ v2 then (some (0 : Int32)) else (bd (f_X5_isHadOn sg a1 v2) (fun r3 : Int32 => if r3 = (0 : Int32) then (lt (v2 + (1 : Int32)) (fun x5 : Int32 => f_X5_isFixed_2 sg a1 n x5)) else (some (1 : Int32))))
def f_X5_isFixed (sg : dd_S) (a1 : Int32) : Option (Int32) := f_X5_isFixed_2 sg a1 64 (0 : Int32)
def f_X5_dutyFact_99 (sg : dd_S) (a1 : Int32) (a2 : Int32) (t0 : Int32) : Option (Int32) := some t0
def f_X5_dutyFact_113 (sg : dd_S) (a1 : Int32) (a2 : Int32) (t0 : Int32) : Option (Int32) := some t0
def f_X5_dutyFact (sg : dd_S) (a1 : Int32) (a2 : Int32) : Option (Int32) := bd (f_X5_dutyAt sg a1) (fun r2 : Nat => if a2 = (0 : Int32) then (some (sg r2 1)) else (if a2 = (1 : Int32) then (some (sg r2 2)) else (if a2 = (2 : Int32) then (some (sg r2 3)) else (if a2 = (3 : Int32) then (some (sg r2 4)) else (if a2 = (4 : Int32) then (some (sg r2 5)) else (if a2 = (5 : Int32) then (some (sg r2 6)) else (if a2 = (6 : Int32) then (some (sg r2 7)) else (if a2 = (7 : Int32) then (if (sg r2 8) = (0 : Int32) then (f_X5_dutyFact_99 sg a1 a2 (0 : Int32)) else (f_X5_dutyFact_99 sg a1 a2 (1 : Int32))) else (bd (f_X5_isFixed sg a1) (fun r13 : Int32 => if r13 = (0 : Int32) then (f_X5_dutyFact_113 sg a1 a2 (0 : Int32)) else (f_X5_dutyFact_113 sg a1 a2 (1 : Int32))))))))))))
def f_X5_freeTrips_27 (sg : dd_S) (k_4 : Int32 → Int32 → Option (Int32)) (v1 : Int32) (v2 : Int32) : Option (Int32) := lt (v2 + (1 : Int32)) (fun x6 : Int32 => k_4 v1 x6)
def f_X5_freeTrips_4 (sg : dd_S) : Nat → Int32 → Int32 → Option (Int32)
  | 0, _, _ => none
  | n + 1, v1, v2 => if (sg 31 5) ≤ v2 then (some v1) else (bd (f_X5_dutyOf sg v2) (fun r3 : Int32 => if r3 = (-1 : Int32) then (lt (v1 + (1 : Int32)) (fun x5 : Int32 => f_X5_freeTrips_27 sg (fun z0 z1 => f_X5_freeTrips_4 sg n z0 z1) x5 v2)) else (f_X5_freeTrips_27 sg (fun z0 z1 => f_X5_freeTrips_4 sg n z0 z1) v1 v2)))
def f_X5_freeTrips (sg : dd_S) : Option (Int32) := f_X5_freeTrips_4 sg 64 (0 : Int32) (0 : Int32)
def f_X5_tryPut_17 (a1 : Int32) (a2 : Int32) (sg : dd_S) : Option (Int32 × dd_S) := some ((0 : Int32), sg)
def f_X5_tryPut (sg : dd_S) (a1 : Int32) (a2 : Int32) : Option (Int32 × dd_S) := bd (f_X5_dutyOf sg a2) (fun r2 : Int32 => if r2 = (-1 : Int32) then (bd (f_X5_isFixed sg a1) (fun r5 : Int32 => if r5 = (0 : Int32) then (bd (f_X5_dutyAt sg a1) (fun r8 : Nat => bd (f_X0_copy sg 12 r8) (fun sg10 : dd_S => bd2 (f_X0_insert sg10 12 a2) (fun (r13 : Int32) (sg12 : dd_S) => if r13 = (0 : Int32) then (some ((0 : Int32), sg12)) else (bd (f_X0_measure sg12 12) (fun sg16 : dd_S => gd (bz (sg16 12 8)) (some ((sg16 12 8), sg16)))))))) else (f_X5_tryPut_17 a1 a2 sg))) else (f_X5_tryPut_17 a1 a2 sg))
def f_X5_keepPut (sg : dd_S) (a1 : Int32) (a2 : Int32) : Option (dd_S) := bd (f_X5_dutyAt sg a1) (fun r2 : Nat => bd (f_X0_copy sg r2 12) (fun sg4 : dd_S => bd (f_X5_assign sg4 a2 a1) (fun sg6 : dd_S => some sg6)))
def f_X5_cheapestDuty_62 (a1 : Int32) (k_7 : dd_S → Int32 → Int32 → Int32 → Option (Int32 × dd_S)) (sg : dd_S) (v2 : Int32) (v3 : Int32) (v4 : Int32) : Option (Int32 × dd_S) := lt (v4 + (1 : Int32)) (fun x11 : Int32 => k_7 sg v2 v3 x11)
def f_X5_cheapestDuty_56 (a1 : Int32) (k_7 : dd_S → Int32 → Int32 → Int32 → Option (Int32 × dd_S)) (sg : dd_S) (v4 : Int32) (v5 : Int32) : Option (Int32 × dd_S) := f_X5_cheapestDuty_62 a1 k_7 sg v4 v5 v4
def f_X5_cheapestDuty_7 (a1 : Int32) : Nat → dd_S → Int32 → Int32 → Int32 → Option (Int32 × dd_S)
  | 0, _, _, _, _ => none
  | n + 1, sg, v2, v3, v4 => if (sg 30 5) ≤ v4 then (some (v2, sg)) else (bd2 (f_X5_tryPut sg v4 a1) (fun (r4 : Int32) (sg3 : dd_S) => if r4 = (0 : Int32) then (f_X5_cheapestDuty_62 a1 (fun zs z0 z1 z2 => f_X5_cheapestDuty_7 a1 n zs z0 z1 z2) sg3 v2 v3 v4) else (bd (f_X5_dutyAt sg3 v4) (fun r7 : Nat => lt ((sg3 12 5) - (sg3 r7 5)) (fun x8 : Int32 => if v2 = (-1 : Int32) then (f_X5_cheapestDuty_56 a1 (fun zs z0 z1 z2 => f_X5_cheapestDuty_7 a1 n zs z0 z1 z2) sg3 v4 x8) else (if v3 ≤ x8 then (f_X5_cheapestDuty_62 a1 (fun zs z0 z1 z2 => f_X5_cheapestDuty_7 a1 n zs z0 z1 z2) sg3 v2 v3 v4) else (f_X5_cheapestDuty_56 a1 (fun zs z0 z1 z2 => f_X5_cheapestDuty_7 a1 n zs z0 z1 z2) sg3 v4 x8)))))))
def f_X5_cheapestDuty (sg : dd_S) (a1 : Int32) : Option (Int32 × dd_S) := f_X5_cheapestDuty_7 a1 64 sg (-1 : Int32) (0 : Int32) (0 : Int32)
def f_X5_planTrip_69 (a1 : Int32) (sg : dd_S) : Option (dd_S) := some sg
def f_X5_planTrip (sg : dd_S) (a1 : Int32) : Option (dd_S) := bd2 (f_X5_cheapestDuty sg a1) (fun (r3 : Int32) (sg2 : dd_S) => if r3 = (-1 : Int32) then (if (12 : Int32) ≤ (sg2 30 5) then (f_X5_planTrip_69 a1 sg2) else (bd2 (f_X5_tryPut sg2 (sg2 30 5) a1) (fun (r8 : Int32) (sg7 : dd_S) => if r8 = (0 : Int32) then (f_X5_planTrip_69 a1 sg7) else (bd (f_X5_keepPut sg7 (sg7 30 5) a1) (fun sg11 : dd_S => lt (st2 sg11 30 5 ((sg11 30 5) + (1 : Int32))) (fun sg12 : dd_S => f_X5_planTrip_69 a1 sg12)))))) else (bd2 (f_X5_tryPut sg2 r3 a1) (fun (r15 : Int32) (sg14 : dd_S) => if r15 = (0 : Int32) then (f_X5_planTrip_69 a1 sg14) else (bd (f_X5_keepPut sg14 r3 a1) (fun sg18 : dd_S => f_X5_planTrip_69 a1 sg18)))))
def f_X5_tryExchange_99 (a1 : Int32) (a2 : Int32) (a3 : Int32) (sg : dd_S) (t0 : Int32) : Option (Int32 × dd_S) := gd (bz t0) (some (t0, sg))
def f_X5_tryExchange_98 (a1 : Int32) (a2 : Int32) (a3 : Int32) (sg : dd_S) : Option (Int32 × dd_S) := f_X5_tryExchange_99 a1 a2 a3 sg (0 : Int32)
def f_X5_tryExchange (sg : dd_S) (a1 : Int32) (a2 : Int32) (a3 : Int32) : Option (Int32 × dd_S) := bd (f_X5_dutyAt sg a1) (fun r2 : Nat => bd (f_X5_dutyAt sg a2) (fun r4 : Nat => bd (f_X0_join sg 12 r2 r4 a3) (fun sg6 : dd_S => bd (f_X5_dutyAt sg6 a2) (fun r8 : Nat => bd (f_X5_dutyAt sg6 a1) (fun r10 : Nat => bd (f_X0_join sg6 13 r8 r10 a3) (fun sg12 : dd_S => bd (f_X0_measure sg12 12) (fun sg14 : dd_S => bd (f_X0_measure sg14 13) (fun sg16 : dd_S => if (sg16 12 8) = (0 : Int32) then (f_X5_tryExchange_98 a1 a2 a3 sg16) else (if (sg16 13 8) = (0 : Int32) then (f_X5_tryExchange_98 a1 a2 a3 sg16) else (f_X5_tryExchange_99 a1 a2 a3 sg16 (1 : Int32)))))))))))
def f_X5_changeOfPay (sg : dd_S) (a1 : Int32) (a2 : Int32) : Option (Int32) := bd (f_X5_dutyAt sg a1) (fun r2 : Nat => bd (f_X5_dutyAt sg a2) (fun r4 : Nat => some ((((sg 12 5) + (sg 13 5)) - (sg r2 5)) - (sg r4 5))))
def f_X5_assignTripsOf_8 (a1 : Int32) : Nat → dd_S → Nat → Int32 → Option (dd_S)
  | 0, _, _, _ => none
  | n + 1, sg, k2, v3 => if (sg k2 1) ≤ v3 then (some sg) else (bd (f_X0_tripIn sg k2 v3) (fun r5 : Int32 => bd (f_X5_assign sg r5 a1) (fun sg7 : dd_S => lt (v3 + (1 : Int32)) (fun x8 : Int32 => f_X5_assignTripsOf_8 a1 n sg7 k2 x8))))
def f_X5_assignTripsOf (sg : dd_S) (a1 : Int32) : Option (dd_S) := bd (f_X5_dutyAt sg a1) (fun r2 : Nat => f_X5_assignTripsOf_8 a1 64 sg r2 (0 : Int32))
def f_X5_keepExchange (sg : dd_S) (a1 : Int32) (a2 : Int32) : Option (dd_S) := bd (f_X5_dutyAt sg a1) (fun r2 : Nat => bd (f_X0_copy sg r2 12) (fun sg4 : dd_S => bd (f_X5_dutyAt sg4 a2) (fun r6 : Nat => bd (f_X0_copy sg4 r6 13) (fun sg8 : dd_S => bd (f_X5_assignTripsOf sg8 a1) (fun sg10 : dd_S => bd (f_X5_assignTripsOf sg10 a2) (fun sg12 : dd_S => some sg12))))))
def f_X5_weighTimesOf_64 (a1 : Int32) (a2 : Int32) (a3 : Int32) (k_10 : dd_S → Nat → Int32 → Option (dd_S)) (sg : dd_S) (k4 : Nat) (v5 : Int32) : Option (dd_S) := lt (v5 + (1 : Int32)) (fun x16 : Int32 => k_10 sg k4 x16)
def f_X5_weighTimesOf_10 (a1 : Int32) (a2 : Int32) (a3 : Int32) : Nat → dd_S → Nat → Int32 → Option (dd_S)
  | 0, _, _, _ => none
  | n + 1, sg, k4, v5 => if (sg k4 1) ≤ v5 then (some sg) else (bd (f_X0_tripIn sg k4 v5) (fun r5 : Int32 => bd (f_X4_departureOf sg r5) (fun r7 : Int32 => bd2 (f_X5_tryExchange sg a2 a3 r7) (fun (r10 : Int32) (sg9 : dd_S) => if r10 = (0 : Int32) then (f_X5_weighTimesOf_64 a1 a2 a3 (fun zs z0 z1 => f_X5_weighTimesOf_10 a1 a2 a3 n zs z0 z1) sg9 k4 v5) else (bd (f_X5_changeOfPay sg9 a2 a3) (fun r13 : Int32 => bd (f_X1_offer sg9 a2 a3 r7 r13) (fun sg15 : dd_S => f_X5_weighTimesOf_64 a1 a2 a3 (fun zs z0 z1 => f_X5_weighTimesOf_10 a1 a2 a3 n zs z0 z1) sg15 k4 v5)))))))
def f_X5_weighTimesOf (sg : dd_S) (a1 : Int32) (a2 : Int32) (a3 : Int32) : Option (dd_S) := bd (f_X5_dutyAt sg a1) (fun r2 : Nat => f_X5_weighTimesOf_10 a1 a2 a3 64 sg r2 (0 : Int32))
def f_X5_weighPairsOf_34 (a1 : Int32) (k_4 : dd_S → Int32 → Option (dd_S)) (sg : dd_S) (v2 : Int32) : Option (dd_S) := lt (v2 + (1 : Int32)) (fun x10 : Int32 => k_4 sg x10)
def f_X5_weighPairsOf_4 (a1 : Int32) : Nat → dd_S → Int32 → Option (dd_S)
  | 0, _, _ => none
  | n + 1, sg, v2 => if (sg 30 5) ≤ v2 then (some sg) else (bd (f_X5_isFixed sg v2) (fun r4 : Int32 => if r4 = (0 : Int32) then (bd (f_X5_weighTimesOf sg a1 a1 v2) (fun sg7 : dd_S => bd (f_X5_weighTimesOf sg7 v2 a1 v2) (fun sg9 : dd_S => f_X5_weighPairsOf_34 a1 (fun zs z0 => f_X5_weighPairsOf_4 a1 n zs z0) sg9 v2))) else (f_X5_weighPairsOf_34 a1 (fun zs z0 => f_X5_weighPairsOf_4 a1 n zs z0) sg v2)))
def f_X5_weighPairsOf (sg : dd_S) (a1 : Int32) : Option (dd_S) := lt (a1 + (1 : Int32)) (fun x1 : Int32 => f_X5_weighPairsOf_4 a1 64 sg x1)
def f_X5_isOpenOn_25 (sg : dd_S) (a1 : Int32) (a2 : Int32) (t0 : Int32) : Option (Int32) := gd (bz t0) (some t0)
def f_X5_isOpenOn_24 (sg : dd_S) (a1 : Int32) (a2 : Int32) : Option (Int32) := f_X5_isOpenOn_25 sg a1 a2 (0 : Int32)
def f_X5_isOpenOn (sg : dd_S) (a1 : Int32) (a2 : Int32) : Option (Int32) := bd (f_X5_dutyAt sg a1) (fun r2 : Nat => if (sg r2 1) ≤ (0 : Int32) then (f_X5_isOpenOn_24 sg a1 a2) else (bd (f_X5_isHadOn sg a1 a2) (fun r5 : Int32 => if r5 = (0 : Int32) then (f_X5_isOpenOn_25 sg a1 a2 (1 : Int32)) else (f_X5_isOpenOn_24 sg a1 a2))))
def f_X5_openDuties_24 (sg : dd_S) (a1 : Int32) (k_4 : Int32 → Int32 → Option (Int32)) (v2 : Int32) (v3 : Int32) : Option (Int32) := lt (v3 + (1 : Int32)) (fun x6 : Int32 => k_4 v2 x6)
def f_X5_openDuties_4 (sg : dd_S) (a1 : Int32) : Nat → Int32 → Int32 → Option (Int32)
  | 0, _, _ => none
  | n + 1, v2, v3 => if (sg 30 5) ≤ v3 then (some v2) else (bd (f_X5_isOpenOn sg v3 a1) (fun r3 : Int32 => if r3 = (0 : Int32) then (f_X5_openDuties_24 sg a1 (fun z0 z1 => f_X5_openDuties_4 sg a1 n z0 z1) v2 v3) else (lt (v2 + (1 : Int32)) (fun x5 : Int32 => f_X5_openDuties_24 sg a1 (fun z0 z1 => f_X5_openDuties_4 sg a1 n z0 z1) x5 v3))))
def f_X5_openDuties (sg : dd_S) (a1 : Int32) : Option (Int32) := f_X5_openDuties_4 sg a1 64 (0 : Int32) (0 : Int32)
def f_X5_weekPay_4 (sg : dd_S) (a1 : Int32) : Nat → Int32 → Int32 → Option (Int32)
  | 0, _, _ => none
  | n + 1, v2, v3 => if (7 : Int32) ≤ v3 then (some v2) else (bd (f_X5_dutyOn sg a1 v3) (fun r3 : Int32 => bd (f_X5_dutyAt sg r3) (fun r5 : Nat => lt (v2 + (sg r5 5)) (fun x6 : Int32 => lt (v3 + (1 : Int32)) (fun x7 : Int32 => f_X5_weekPay_4 sg a1 n x6 x7)))))
def f_X5_weekPay (sg : dd_S) (a1 : Int32) : Option (Int32) := f_X5_weekPay_4 sg a1 64 (0 : Int32) (0 : Int32)
def f_X5_restBetween (sg : dd_S) (a1 : Int32) (a2 : Int32) : Option (Int32) := bd (f_X5_dutyAt sg a2) (fun r2 : Nat => bd (f_X5_dutyAt sg a1) (fun r4 : Nat => some (((sg r2 2) + (1440 : Int32)) - (sg r4 3))))
def f_X5_hasRest_73 (sg : dd_S) (a1 : Int32) (a2 : Int32) (a3 : Int32) (t0 : Int32) : Option (Int32) := gd (bz t0) (some t0)
def f_X5_hasRest_68 (sg : dd_S) (a1 : Int32) (a2 : Int32) (a3 : Int32) : Option (Int32) := f_X5_hasRest_73 sg a1 a2 a3 (1 : Int32)
def f_X5_hasRest_35 (sg : dd_S) (a1 : Int32) (a2 : Int32) (a3 : Int32) : Option (Int32) := bd (f_X5_dutyOn sg a1 (a2 + (1 : Int32))) (fun r8 : Int32 => if r8 = (-1 : Int32) then (f_X5_hasRest_68 sg a1 a2 a3) else (bd (f_X5_restBetween sg a3 r8) (fun r11 : Int32 => if r11 < (sg 32 3) then (f_X5_hasRest_73 sg a1 a2 a3 (0 : Int32)) else (f_X5_hasRest_68 sg a1 a2 a3))))
def f_X5_hasRest (sg : dd_S) (a1 : Int32) (a2 : Int32) (a3 : Int32) : Option (Int32) := bd (f_X5_dutyOn sg a1 (a2 - (1 : Int32))) (fun r2 : Int32 => if r2 = (-1 : Int32) then (f_X5_hasRest_35 sg a1 a2 a3) else (bd (f_X5_restBetween sg r2 a3) (fun r5 : Int32 => if (sg 32 3) ≤ r5 then (f_X5_hasRest_35 sg a1 a2 a3) else (some (0 : Int32)))))
def f_X5_daysInARow_53 (sg : dd_S) (a1 : Int32) (a2 : Int32) (v3 : Int32) (v4 : Int32) : Option (Int32) := some ((v4 - v3) + (1 : Int32))
def f_X5_daysInARow_27 (sg : dd_S) (a1 : Int32) (a2 : Int32) : Nat → Int32 → Int32 → Option (Int32)
  | 0, _, _ => none
  | n + 1, v3, v4 => if (6 : Int32) ≤ v4 then (f_X5_daysInARow_53 sg a1 a2 v3 v4) else (bd (f_X5_dutyOn sg a1 (v4 + (1 : Int32))) (fun r8 : Int32 => if r8 = (-1 : Int32) then (f_X5_daysInARow_53 sg a1 a2 v3 v4) else (lt (v4 + (1 : Int32)) (fun x10 : Int32 => f_X5_daysInARow_27 sg a1 a2 n v3 x10))))
def f_X5_daysInARow_24 (sg : dd_S) (a1 : Int32) (a2 : Int32) (v3 : Int32) : Option (Int32) := f_X5_daysInARow_27 sg a1 a2 64 v3 a2
def f_X5_daysInARow_2 (sg : dd_S) (a1 : Int32) (a2 : Int32) : Nat → Int32 → Option (Int32)
  | 0, _ => none
  | n + 1, v3 => if v3 ≤ (0 : Int32) then (f_X5_daysInARow_24 sg a1 a2 v3) else (bd (f_X5_dutyOn sg a1 (v3 - (1 : Int32))) (fun r3 : Int32 => if r3 = (-1 : Int32) then (f_X5_daysInARow_24 sg a1 a2 v3) else (lt (v3 + (-1 : Int32)) (fun x5 : Int32 => f_X5_daysInARow_2 sg a1 a2 n x5))))
def f_X5_daysInARow (sg : dd_S) (a1 : Int32) (a2 : Int32) : Option (Int32) := f_X5_daysInARow_2 sg a1 a2 64 a2
def f_X5_reasonAgainst_99 (sg : dd_S) (a1 : Int32) (a2 : Int32) (a3 : Int32) (t0 : Int32) : Option (Int32) := some t0
def f_X5_reasonAgainst (sg : dd_S) (a1 : Int32) (a2 : Int32) (a3 : Int32) : Option (Int32) := bd (f_X5_dutyAt sg a3) (fun r2 : Nat => if (sg r2 1) = (0 : Int32) then (some (1 : Int32)) else (if (sg r2 8) = (0 : Int32) then (some (2 : Int32)) else (bd (f_X5_isHadOn sg a3 a2) (fun r6 : Int32 => if r6 = (0 : Int32) then (bd (f_X5_dutyOn sg a1 a2) (fun r9 : Int32 => if r9 = (-1 : Int32) then (bd (f_X5_daysInARow sg a1 a2) (fun r12 : Int32 => if r12 < (6 : Int32) then (bd (f_X5_weekPay sg a1) (fun r15 : Int32 => if (r15 + (sg r2 5)) ≤ (2880 : Int32) then (bd (f_X5_hasRest sg a1 a2 a3) (fun r18 : Int32 => if r18 = (0 : Int32) then (f_X5_reasonAgainst_99 sg a1 a2 a3 (7 : Int32)) else (f_X5_reasonAgainst_99 sg a1 a2 a3 (0 : Int32)))) else (some (6 : Int32)))) else (some (5 : Int32)))) else (some (4 : Int32)))) else (some (3 : Int32))))))
def f_X5_cheapestDriver_55 (sg : dd_S) (a1 : Int32) (a2 : Int32) (k_8 : Int32 → Int32 → Int32 → Option (Int32)) (v3 : Int32) (v4 : Int32) (v5 : Int32) : Option (Int32) := lt (v5 + (1 : Int32)) (fun x9 : Int32 => k_8 v3 v4 x9)
def f_X5_cheapestDriver_48 (sg : dd_S) (a1 : Int32) (a2 : Int32) (k_8 : Int32 → Int32 → Int32 → Option (Int32)) (v5 : Int32) (v6 : Int32) : Option (Int32) := f_X5_cheapestDriver_55 sg a1 a2 k_8 v5 v6 v5
def f_X5_cheapestDriver_8 (sg : dd_S) (a1 : Int32) (a2 : Int32) : Nat → Int32 → Int32 → Int32 → Option (Int32)
  | 0, _, _, _ => none
  | n + 1, v3, v4, v5 => if (sg 30 6) ≤ v5 then (some v3) else (bd (f_X5_reasonAgainst sg v5 a1 a2) (fun r3 : Int32 => if r3 = (0 : Int32) then (bd (f_X5_weekPay sg v5) (fun r6 : Int32 => if v3 = (-1 : Int32) then (f_X5_cheapestDriver_48 sg a1 a2 (fun z0 z1 z2 => f_X5_cheapestDriver_8 sg a1 a2 n z0 z1 z2) v5 r6) else (if v4 ≤ r6 then (f_X5_cheapestDriver_55 sg a1 a2 (fun z0 z1 z2 => f_X5_cheapestDriver_8 sg a1 a2 n z0 z1 z2) v3 v4 v5) else (f_X5_cheapestDriver_48 sg a1 a2 (fun z0 z1 z2 => f_X5_cheapestDriver_8 sg a1 a2 n z0 z1 z2) v5 r6)))) else (f_X5_cheapestDriver_55 sg a1 a2 (fun z0 z1 z2 => f_X5_cheapestDriver_8 sg a1 a2 n z0 z1 z2) v3 v4 v5)))
def f_X5_cheapestDriver (sg : dd_S) (a1 : Int32) (a2 : Int32) : Option (Int32) := f_X5_cheapestDriver_8 sg a1 a2 64 (-1 : Int32) (0 : Int32) (0 : Int32)
def f_X5_fillWith_19 (a1 : Int32) (a2 : Int32) (sg : dd_S) : Option (dd_S) := some sg
def f_X5_fillWith (sg : dd_S) (a1 : Int32) (a2 : Int32) : Option (dd_S) := bd (f_X5_cheapestDriver sg a2 a1) (fun r2 : Int32 => if r2 = (-1 : Int32) then (f_X5_fillWith_19 a1 a2 sg) else (bd (f_X5_enter sg r2 a2 a1) (fun sg5 : dd_S => f_X5_fillWith_19 a1 a2 sg5)))
def f_X5_plan_45 (k_9 : dd_S → Int32 → Option (Int32 × dd_S)) (sg : dd_S) (v1 : Int32) : Option (Int32 × dd_S) := lt (v1 + (1 : Int32)) (fun x19 : Int32 => k_9 sg x19)
def f_X5_plan_53 : Nat → dd_S → Int32 → Option (Int32 × dd_S)
  | 0, _, _ => none
  | n + 1, sg, v1 => if (sg 36 2) ≤ v1 then (bd (f_X5_freeTrips sg) (fun r13 : Int32 => some (r13, sg))) else (bd (f_X2_numberIn sg v1) (fun r15 : Int32 => bd (f_X5_planTrip sg r15) (fun sg17 : dd_S => lt (v1 + (1 : Int32)) (fun x18 : Int32 => f_X5_plan_53 n sg17 x18))))
def f_X5_plan_9 : Nat → dd_S → Int32 → Option (Int32 × dd_S)
  | 0, _, _ => none
  | n + 1, sg, v1 => if (sg 31 5) ≤ v1 then (f_X5_plan_53 64 sg (0 : Int32)) else (bd (f_X5_dutyOf sg v1) (fun r5 : Int32 => if r5 = (-1 : Int32) then (bd (f_X4_departureOf sg v1) (fun r8 : Int32 => bd (f_X2_insert sg r8 v1) (fun sg10 : dd_S => f_X5_plan_45 (fun zs z0 => f_X5_plan_9 n zs z0) sg10 v1))) else (f_X5_plan_45 (fun zs z0 => f_X5_plan_9 n zs z0) sg v1)))
def f_X5_plan (sg : dd_S) : Option (Int32 × dd_S) := bd (f_X2_clear sg) (fun sg2 : dd_S => f_X5_plan_9 64 sg2 (0 : Int32))
def f_X5_improve_30 (k_9 : dd_S → Int32 → Option (Int32 × dd_S)) (sg : dd_S) (v1 : Int32) : Option (Int32 × dd_S) := lt (v1 + (1 : Int32)) (fun x16 : Int32 => k_9 sg x16)
def f_X5_improve_92 (sg : dd_S) : Option (Int32 × dd_S) := some ((sg 39 3), sg)
def f_X5_improve_9 : Nat → dd_S → Int32 → Option (Int32 × dd_S)
  | 0, _, _ => none
  | n + 1, sg, v1 => if (sg 30 5) ≤ v1 then (if (0 : Int32) ≤ (sg 39 3) then (f_X5_improve_92 sg) else (bd2 (f_X5_tryExchange sg (sg 39 0) (sg 39 1) (sg 39 2)) (fun (r7 : Int32) (sg6 : dd_S) => if r7 = (0 : Int32) then (f_X5_improve_92 sg6) else (bd (f_X5_keepExchange sg6 (sg6 39 0) (sg6 39 1)) (fun sg10 : dd_S => f_X5_improve_92 sg10))))) else (bd (f_X5_isFixed sg v1) (fun r12 : Int32 => if r12 = (0 : Int32) then (bd (f_X5_weighPairsOf sg v1) (fun sg15 : dd_S => f_X5_improve_30 (fun zs z0 => f_X5_improve_9 n zs z0) sg15 v1)) else (f_X5_improve_30 (fun zs z0 => f_X5_improve_9 n zs z0) sg v1)))
def f_X5_improve (sg : dd_S) : Option (Int32 × dd_S) := bd (f_X1_clear sg) (fun sg2 : dd_S => f_X5_improve_9 64 sg2 (0 : Int32))
def f_X5_pay_4 (sg : dd_S) : Nat → Int32 → Int32 → Option (Int32)
  | 0, _, _ => none
  | n + 1, v1, v2 => if (sg 30 5) ≤ v2 then (some v1) else (bd (f_X5_dutyAt sg v2) (fun r3 : Nat => lt (v1 + (sg r3 5)) (fun x4 : Int32 => lt (v2 + (1 : Int32)) (fun x5 : Int32 => f_X5_pay_4 sg n x4 x5))))
def f_X5_pay (sg : dd_S) : Option (Int32) := f_X5_pay_4 sg 64 (0 : Int32) (0 : Int32)
def f_X5_addTrip_14 (a1 : Int32) (a2 : Int32) (a3 : Int32) (a4 : Int32) (sg : dd_S) : Option (Int32 × dd_S) := none
def f_X5_addTrip (sg : dd_S) (a1 : Int32) (a2 : Int32) (a3 : Int32) (a4 : Int32) : Option (Int32 × dd_S) := bd (f_X5_isPoint sg a1) (fun r2 : Int32 => if r2 = (0 : Int32) then (f_X5_addTrip_14 a1 a2 a3 a4 sg) else (bd (f_X5_isPoint sg a2) (fun r5 : Int32 => if r5 = (0 : Int32) then (f_X5_addTrip_14 a1 a2 a3 a4 sg) else (bd (f_X5_areTimesOfTrip sg a3 a4) (fun r8 : Int32 => if r8 = (0 : Int32) then (none) else (if (sg 31 5) < (40 : Int32) then (bd2 (f_X4_append sg a1 a2 a3 a4) (fun (r13 : Int32) (sg12 : dd_S) => some (r13, sg12))) else (none)))))))
def f_X5_trip_17 (sg : dd_S) (a1 : Int32) (a2 : Int32) : Option (Int32) := none
def f_X5_trip (sg : dd_S) (a1 : Int32) (a2 : Int32) : Option (Int32) := bd (f_X5_isTrip sg a1) (fun r2 : Int32 => if r2 = (0 : Int32) then (f_X5_trip_17 sg a1 a2) else (if a2 < (0 : Int32) then (f_X5_trip_17 sg a1 a2) else (if a2 < (5 : Int32) then (bd (f_X5_tripFact sg a1 a2) (fun r7 : Int32 => some r7)) else (f_X5_trip_17 sg a1 a2))))
def f_X5_count (sg : dd_S) (a1 : Int32) : Option (Int32) := if a1 = (0 : Int32) then (some (sg 31 5)) else (if a1 = (1 : Int32) then (some (sg 30 5)) else (if a1 = (2 : Int32) then (some (sg 30 6)) else (if a1 = (3 : Int32) then (bd (f_X5_freeTrips sg) (fun r6 : Int32 => some r6)) else (none))))
def f_X5_duty_18 (sg : dd_S) (a1 : Int32) (a2 : Int32) : Option (Int32) := none
def f_X5_duty (sg : dd_S) (a1 : Int32) (a2 : Int32) : Option (Int32) := bd (f_X5_isDuty sg a1) (fun r2 : Int32 => if r2 = (0 : Int32) then (f_X5_duty_18 sg a1 a2) else (if a2 < (0 : Int32) then (f_X5_duty_18 sg a1 a2) else (if a2 < (9 : Int32) then (bd (f_X5_dutyFact sg a1 a2) (fun r7 : Int32 => some r7)) else (f_X5_duty_18 sg a1 a2))))
def f_X5_tripAt_24 (sg : dd_S) (a1 : Int32) (a2 : Int32) : Option (Int32) := none
def f_X5_tripAt (sg : dd_S) (a1 : Int32) (a2 : Int32) : Option (Int32) := bd (f_X5_isDuty sg a1) (fun r2 : Int32 => if r2 = (0 : Int32) then (f_X5_tripAt_24 sg a1 a2) else (if a2 < (0 : Int32) then (f_X5_tripAt_24 sg a1 a2) else (bd (f_X5_dutyAt sg a1) (fun r6 : Nat => if a2 < (sg r6 1) then (bd (f_X5_dutyAt sg a1) (fun r9 : Nat => bd (f_X0_tripIn sg r9 a2) (fun r11 : Int32 => some r11))) else (f_X5_tripAt_24 sg a1 a2)))))
def f_X5_addDriver (sg : dd_S) : Option (Int32 × dd_S) := if (sg 30 6) < (8 : Int32) then (lt (st2 sg 30 6 ((sg 30 6) + (1 : Int32))) (fun sg2 : dd_S => some ((sg 30 6), sg2))) else (none)
def f_X5_given_15 (sg : dd_S) (a1 : Int32) (a2 : Int32) : Option (Int32) := none
def f_X5_given (sg : dd_S) (a1 : Int32) (a2 : Int32) : Option (Int32) := bd (f_X5_isDriver sg a1) (fun r2 : Int32 => if r2 = (0 : Int32) then (f_X5_given_15 sg a1 a2) else (bd (f_X5_isDay sg a2) (fun r5 : Int32 => if r5 = (0 : Int32) then (f_X5_given_15 sg a1 a2) else (bd (f_X5_dutyOn sg a1 a2) (fun r8 : Int32 => some r8)))))
def f_X5_fill_60 (a1 : Int32) (k_27 : dd_S → Int32 → Option (Int32 × dd_S)) (sg : dd_S) (v2 : Int32) : Option (Int32 × dd_S) := lt (v2 + (1 : Int32)) (fun x22 : Int32 => k_27 sg x22)
def f_X5_fill_68 (a1 : Int32) : Nat → dd_S → Int32 → Option (Int32 × dd_S)
  | 0, _, _ => none
  | n + 1, sg, v2 => if (sg 36 2) ≤ v2 then (bd (f_X5_openDuties sg a1) (fun r16 : Int32 => some (r16, sg))) else (bd (f_X2_numberIn sg v2) (fun r18 : Int32 => bd (f_X5_fillWith sg r18 a1) (fun sg20 : dd_S => lt (v2 + (1 : Int32)) (fun x21 : Int32 => f_X5_fill_68 a1 n sg20 x21))))
def f_X5_fill_27 (a1 : Int32) : Nat → dd_S → Int32 → Option (Int32 × dd_S)
  | 0, _, _ => none
  | n + 1, sg, v2 => if (sg 30 5) ≤ v2 then (f_X5_fill_68 a1 64 sg (0 : Int32)) else (bd (f_X5_isOpenOn sg v2 a1) (fun r8 : Int32 => if r8 = (0 : Int32) then (f_X5_fill_60 a1 (fun zs z0 => f_X5_fill_27 a1 n zs z0) sg v2) else (bd (f_X5_dutyAt sg v2) (fun r11 : Nat => bd (f_X2_insert sg (sg r11 2) v2) (fun sg13 : dd_S => f_X5_fill_60 a1 (fun zs z0 => f_X5_fill_27 a1 n zs z0) sg13 v2)))))
def f_X5_fill (sg : dd_S) (a1 : Int32) : Option (Int32 × dd_S) := bd (f_X5_isDay sg a1) (fun r2 : Int32 => if r2 = (0 : Int32) then (none) else (bd (f_X2_clear sg) (fun sg5 : dd_S => f_X5_fill_27 a1 64 sg5 (0 : Int32))))
def f_X5_week (sg : dd_S) (a1 : Int32) : Option (Int32) := bd (f_X5_isDriver sg a1) (fun r2 : Int32 => if r2 = (0 : Int32) then (none) else (bd (f_X5_weekPay sg a1) (fun r5 : Int32 => some r5)))
def f_X5_rest_19 (sg : dd_S) (a1 : Int32) (a2 : Int32) : Option (Int32) := none
def f_X5_rest_69 (sg : dd_S) (a1 : Int32) (a2 : Int32) (t0 : Int32) : Option (Int32) := some t0
def f_X5_rest_58 (sg : dd_S) (a1 : Int32) (a2 : Int32) : Option (Int32) := f_X5_rest_69 sg a1 a2 (-1 : Int32)
def f_X5_rest (sg : dd_S) (a1 : Int32) (a2 : Int32) : Option (Int32) := bd (f_X5_isDriver sg a1) (fun r2 : Int32 => if r2 = (0 : Int32) then (f_X5_rest_19 sg a1 a2) else (bd (f_X5_isDay sg a2) (fun r5 : Int32 => if r5 = (0 : Int32) then (f_X5_rest_19 sg a1 a2) else (if a2 = (0 : Int32) then (f_X5_rest_19 sg a1 a2) else (bd (f_X5_dutyOn sg a1 (a2 - (1 : Int32))) (fun r9 : Int32 => bd (f_X5_dutyOn sg a1 a2) (fun r11 : Int32 => if r9 = (-1 : Int32) then (f_X5_rest_58 sg a1 a2) else (if r11 = (-1 : Int32) then (f_X5_rest_58 sg a1 a2) else (bd (f_X5_restBetween sg r9 r11) (fun r15 : Int32 => f_X5_rest_69 sg a1 a2 r15))))))))))
