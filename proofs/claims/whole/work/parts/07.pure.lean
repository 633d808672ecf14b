def f_X4_departureOf_23 (sg : dd_S) (a1 : Int32) (t0 : Int32) : Option (Int32) := some t0
def f_X4_departureOf_22 (sg : dd_S) (a1 : Int32) : Option (Int32) := f_X4_departureOf_23 sg a1 (0 : Int32)
def f_X4_departureOf (sg : dd_S) (a1 : Int32) : Option (Int32) := if a1 < (0 : Int32) then (f_X4_departureOf_22 sg a1) else (if (40 : Int32) ≤ a1 then (f_X4_departureOf_22 sg a1) else (gd (ix a1 40) (f_X4_departureOf_23 sg a1 (sg 43 a1.toNatClampNeg))))
def f_X4_fromOf_23 (sg : dd_S) (a1 : Int32) (t0 : Int32) : Option (Int32) := some t0
def f_X4_fromOf_22 (sg : dd_S) (a1 : Int32) : Option (Int32) := f_X4_fromOf_23 sg a1 (0 : Int32)
def f_X4_fromOf (sg : dd_S) (a1 : Int32) : Option (Int32) := if a1 < (0 : Int32) then (f_X4_fromOf_22 sg a1) else (if (40 : Int32) ≤ a1 then (f_X4_fromOf_22 sg a1) else (gd (ix a1 40) (f_X4_fromOf_23 sg a1 (sg 41 a1.toNatClampNeg))))
def f_X4_toOf_23 (sg : dd_S) (a1 : Int32) (t0 : Int32) : Option (Int32) := some t0
def f_X4_toOf_22 (sg : dd_S) (a1 : Int32) : Option (Int32) := f_X4_toOf_23 sg a1 (0 : Int32)
def f_X4_toOf (sg : dd_S) (a1 : Int32) : Option (Int32) := if a1 < (0 : Int32) then (f_X4_toOf_22 sg a1) else (if (40 : Int32) ≤ a1 then (f_X4_toOf_22 sg a1) else (gd (ix a1 40) (f_X4_toOf_23 sg a1 (sg 42 a1.toNatClampNeg))))
def f_X4_arrivalOf_23 (sg : dd_S) (a1 : Int32) (t0 : Int32) : Option (Int32) := some t0
def f_X4_arrivalOf_22 (sg : dd_S) (a1 : Int32) : Option (Int32) := f_X4_arrivalOf_23 sg a1 (0 : Int32)
def f_X4_arrivalOf (sg : dd_S) (a1 : Int32) : Option (Int32) := if a1 < (0 : Int32) then (f_X4_arrivalOf_22 sg a1) else (if (40 : Int32) ≤ a1 then (f_X4_arrivalOf_22 sg a1) else (gd (ix a1 40) (f_X4_arrivalOf_23 sg a1 (sg 44 a1.toNatClampNeg))))
def f_X4_minutesOf (sg : dd_S) (a1 : Int32) : Option (Int32) := bd (f_X4_arrivalOf sg a1) (fun r2 : Int32 => bd (f_X4_departureOf sg a1) (fun r4 : Int32 => some (r2 - r4)))
def f_X4_wayFrom_32 (sg : dd_S) (a1 : Int32) (a2 : Int32) (t0 : Int32) : Option (Int32) := some t0
def f_X4_wayFrom_31 (sg : dd_S) (a1 : Int32) (a2 : Int32) : Option (Int32) := f_X4_wayFrom_32 sg a1 a2 (0 : Int32)
def f_X4_wayFrom (sg : dd_S) (a1 : Int32) (a2 : Int32) : Option (Int32) := if a1 < (0 : Int32) then (f_X4_wayFrom_31 sg a1 a2) else (if (6 : Int32) ≤ a1 then (f_X4_wayFrom_31 sg a1 a2) else (if a2 < (0 : Int32) then (f_X4_wayFrom_31 sg a1 a2) else (if (6 : Int32) ≤ a2 then (f_X4_wayFrom_31 sg a1 a2) else (gd (ix a1 6) (gd (ix a2 6) (f_X4_wayFrom_32 sg a1 a2 (sg (53 + a1.toNatClampNeg) a2.toNatClampNeg)))))))
def f_X0_tripIn_23 (sg : dd_S) (d : Nat) (a1 : Int32) (t0 : Int32) : Option (Int32) := some t0
def f_X0_tripIn_22 (sg : dd_S) (d : Nat) (a1 : Int32) : Option (Int32) := f_X0_tripIn_23 sg d a1 (-1 : Int32)
def f_X0_tripIn (sg : dd_S) (d : Nat) (a1 : Int32) : Option (Int32) := if a1 < (0 : Int32) then (f_X0_tripIn_22 sg d a1) else (if (40 : Int32) ≤ a1 then (f_X0_tripIn_22 sg d a1) else (gd (ix a1 40) (f_X0_tripIn_23 sg d a1 (sg (15 + d) a1.toNatClampNeg))))
def f_X0_placeOf_2 (sg : dd_S) (d : Nat) (a1 : Int32) : Nat → Int32 → Option (Int32)
  | 0, _ => none
  | n + 1, v2 => if (sg d 1) ≤ v2 then (some (-1 : Int32)) else (bd (f_X0_tripIn sg d v2) (fun r3 : Int32 => if r3 = a1 then (some v2) else (lt (v2 + (1 : Int32)) (fun x5 : Int32 => f_X0_placeOf_2 sg d a1 n x5))))
def f_X0_placeOf (sg : dd_S) (d : Nat) (a1 : Int32) : Option (Int32) := f_X0_placeOf_2 sg d a1 64 (0 : Int32)
def f_X0_append_39 (d : Nat) (a1 : Int32) (sg : dd_S) : Option (dd_S) := some sg
def f_X0_append (sg : dd_S) (d : Nat) (a1 : Int32) : Option (dd_S) := if (sg d 1) < (0 : Int32) then (f_X0_append_39 d a1 sg) else (if (40 : Int32) ≤ (sg d 1) then (f_X0_append_39 d a1 sg) else (gd (ix (sg d 1) 40) (lt (st2 sg (15 + d) (sg d 1).toNatClampNeg a1) (fun sg4 : dd_S => lt (st2 sg4 d 1 ((sg4 d 1) + (1 : Int32))) (fun sg5 : dd_S => f_X0_append_39 d a1 sg5)))))
def f_X0_insert_86 (d : Nat) (a1 : Int32) (sg : dd_S) : Option (Int32 × dd_S) := some ((0 : Int32), sg)
def f_X0_insert_94 (d : Nat) (a1 : Int32) : Nat → dd_S → Int32 → Int32 → Option (Int32 × dd_S)
  | 0, _, _, _ => none
  | n + 1, sg, v4, v6 => if v6 ≤ v4 then (gd (ix v4 40) (lt (st2 sg (15 + d) v4.toNatClampNeg a1) (fun sg20 : dd_S => lt (st2 sg20 d 1 ((sg20 d 1) + (1 : Int32))) (fun sg21 : dd_S => some ((1 : Int32), sg21))))) else (gd (ix (v6 - (1 : Int32)) 40) (gd (ix v6 40) (lt (st2 sg (15 + d) v6.toNatClampNeg (sg (15 + d) (v6 - (1 : Int32)).toNatClampNeg)) (fun sg24 : dd_S => lt (v6 + (-1 : Int32)) (fun x25 : Int32 => f_X0_insert_94 d a1 n sg24 v4 x25)))))
def f_X0_insert_67 (d : Nat) (a1 : Int32) (sg : dd_S) (v4 : Int32) (t0 : Int32) : Option (Int32 × dd_S) := if t0 = (0 : Int32) then (if (sg d 1) < (40 : Int32) then (f_X0_insert_94 d a1 64 sg v4 (sg d 1)) else (f_X0_insert_86 d a1 sg)) else (f_X0_insert_86 d a1 sg)
def f_X0_insert_66 (d : Nat) (a1 : Int32) (sg : dd_S) (v4 : Int32) : Option (Int32 × dd_S) := f_X0_insert_67 d a1 sg v4 (0 : Int32)
def f_X0_insert_39 (d : Nat) (a1 : Int32) (sg : dd_S) (v3 : Int32) (v4 : Int32) : Option (Int32 × dd_S) := if (sg d 1) ≤ v4 then (f_X0_insert_66 d a1 sg v4) else (bd (f_X0_tripIn sg d v4) (fun r12 : Int32 => bd (f_X4_departureOf sg r12) (fun r14 : Int32 => if r14 = v3 then (f_X0_insert_67 d a1 sg v4 (1 : Int32)) else (f_X0_insert_66 d a1 sg v4))))
def f_X0_insert_12 (d : Nat) (a1 : Int32) : Nat → dd_S → Int32 → Int32 → Option (Int32 × dd_S)
  | 0, _, _, _ => none
  | n + 1, sg, v3, v4 => if v4 ≤ (0 : Int32) then (f_X0_insert_39 d a1 sg v3 v4) else (bd (f_X0_tripIn sg d (v4 - (1 : Int32))) (fun r5 : Int32 => bd (f_X4_departureOf sg r5) (fun r7 : Int32 => if r7 < v3 then (f_X0_insert_39 d a1 sg v3 v4) else (lt (v4 + (-1 : Int32)) (fun x9 : Int32 => f_X0_insert_12 d a1 n sg v3 x9)))))
def f_X0_insert (sg : dd_S) (d : Nat) (a1 : Int32) : Option (Int32 × dd_S) := bd (f_X4_departureOf sg a1) (fun r2 : Int32 => f_X0_insert_12 d a1 64 sg r2 (sg d 1))
