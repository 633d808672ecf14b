-- ===== PART A: goes FIRST, ahead of the names: the tables' words, and 'selects' of the private methods out of them =====
/-- a private method of a class that the tables say can be made, by its rows of tables_1 -/
def lw_okq (q : MethodName × Nat) : Prop := (q.1.cls ≠ "java/lang/invoke/MethodHandle" ∧ q.1.cls ≠ "java/lang/invoke/VarHandle") ∧ Cond.instantiable q.1.cls q.2 ∈ tables_1 ∧ Cond.privateMethod q.1 ∈ tables_1 ∧ Cond.instanceMethod q.1 ∈ tables_1
theorem lw_p0 : lw_okq (⟨"DutyDesk", "isTrip", "(I)Z"⟩, 12) := ⟨⟨by decide +kernel, by decide +kernel⟩, List.mem_of_getElem? (i := 14) (by decide +kernel), List.mem_of_getElem? (i := 199) (by decide +kernel), List.mem_of_getElem? (i := 200) (by decide +kernel)⟩
theorem lw_p1 : lw_okq (⟨"java/lang/Throwable", "fillInStackTrace", "(I)Ljava/lang/Throwable;"⟩, 6) := ⟨⟨by decide +kernel, by decide +kernel⟩, List.mem_of_getElem? (i := 241) (by decide +kernel), List.mem_of_getElem? (i := 239) (by decide +kernel), List.mem_of_getElem? (i := 240) (by decide +kernel)⟩
theorem lw_p2 : lw_okq (⟨"DutyDesk", "tripFact", "(II)I"⟩, 12) := ⟨⟨by decide +kernel, by decide +kernel⟩, List.mem_of_getElem? (i := 14) (by decide +kernel), List.mem_of_getElem? (i := 271) (by decide +kernel), List.mem_of_getElem? (i := 272) (by decide +kernel)⟩
theorem lw_p3 : lw_okq (⟨"DutyDesk", "dutyOf", "(I)I"⟩, 12) := ⟨⟨by decide +kernel, by decide +kernel⟩, List.mem_of_getElem? (i := 14) (by decide +kernel), List.mem_of_getElem? (i := 291) (by decide +kernel), List.mem_of_getElem? (i := 292) (by decide +kernel)⟩
theorem lw_p4 : lw_okq (⟨"DutyDesk", "freeTrips", "()I"⟩, 12) := ⟨⟨by decide +kernel, by decide +kernel⟩, List.mem_of_getElem? (i := 14) (by decide +kernel), List.mem_of_getElem? (i := 299) (by decide +kernel), List.mem_of_getElem? (i := 300) (by decide +kernel)⟩
theorem lw_p5 : lw_okq (⟨"DutyDesk", "isDuty", "(I)Z"⟩, 12) := ⟨⟨by decide +kernel, by decide +kernel⟩, List.mem_of_getElem? (i := 14) (by decide +kernel), List.mem_of_getElem? (i := 308) (by decide +kernel), List.mem_of_getElem? (i := 309) (by decide +kernel)⟩
theorem lw_p6 : lw_okq (⟨"DutyDesk", "dutyFact", "(II)I"⟩, 12) := ⟨⟨by decide +kernel, by decide +kernel⟩, List.mem_of_getElem? (i := 14) (by decide +kernel), List.mem_of_getElem? (i := 313) (by decide +kernel), List.mem_of_getElem? (i := 314) (by decide +kernel)⟩
theorem lw_p7 : lw_okq (⟨"DutyDesk", "dutyAt", "(I)LDutyDesk$Duty;"⟩, 12) := ⟨⟨by decide +kernel, by decide +kernel⟩, List.mem_of_getElem? (i := 14) (by decide +kernel), List.mem_of_getElem? (i := 317) (by decide +kernel), List.mem_of_getElem? (i := 318) (by decide +kernel)⟩
theorem lw_p8 : lw_okq (⟨"DutyDesk", "isFixed", "(I)Z"⟩, 12) := ⟨⟨by decide +kernel, by decide +kernel⟩, List.mem_of_getElem? (i := 14) (by decide +kernel), List.mem_of_getElem? (i := 321) (by decide +kernel), List.mem_of_getElem? (i := 322) (by decide +kernel)⟩
theorem lw_p9 : lw_okq (⟨"DutyDesk", "isHadOn", "(II)Z"⟩, 12) := ⟨⟨by decide +kernel, by decide +kernel⟩, List.mem_of_getElem? (i := 14) (by decide +kernel), List.mem_of_getElem? (i := 325) (by decide +kernel), List.mem_of_getElem? (i := 326) (by decide +kernel)⟩
theorem lw_p10 : lw_okq (⟨"DutyDesk", "dutyOn", "(II)I"⟩, 12) := ⟨⟨by decide +kernel, by decide +kernel⟩, List.mem_of_getElem? (i := 14) (by decide +kernel), List.mem_of_getElem? (i := 329) (by decide +kernel), List.mem_of_getElem? (i := 330) (by decide +kernel)⟩
theorem lw_p11 : lw_okq (⟨"DutyDesk", "planTrip", "(I)V"⟩, 12) := ⟨⟨by decide +kernel, by decide +kernel⟩, List.mem_of_getElem? (i := 14) (by decide +kernel), List.mem_of_getElem? (i := 358) (by decide +kernel), List.mem_of_getElem? (i := 359) (by decide +kernel)⟩
theorem lw_p12 : lw_okq (⟨"DutyDesk", "cheapestDuty", "(I)I"⟩, 12) := ⟨⟨by decide +kernel, by decide +kernel⟩, List.mem_of_getElem? (i := 14) (by decide +kernel), List.mem_of_getElem? (i := 362) (by decide +kernel), List.mem_of_getElem? (i := 363) (by decide +kernel)⟩
theorem lw_p13 : lw_okq (⟨"DutyDesk", "tryPut", "(II)Z"⟩, 12) := ⟨⟨by decide +kernel, by decide +kernel⟩, List.mem_of_getElem? (i := 14) (by decide +kernel), List.mem_of_getElem? (i := 366) (by decide +kernel), List.mem_of_getElem? (i := 367) (by decide +kernel)⟩
theorem lw_p14 : lw_okq (⟨"DutyDesk$Duty", "append", "(I)V"⟩, 9) := ⟨⟨by decide +kernel, by decide +kernel⟩, List.mem_of_getElem? (i := 76) (by decide +kernel), List.mem_of_getElem? (i := 375) (by decide +kernel), List.mem_of_getElem? (i := 376) (by decide +kernel)⟩
theorem lw_p15 : lw_okq (⟨"DutyDesk$Duty", "measureSpread", "(LDutyDesk$Timetable;)V"⟩, 9) := ⟨⟨by decide +kernel, by decide +kernel⟩, List.mem_of_getElem? (i := 76) (by decide +kernel), List.mem_of_getElem? (i := 388) (by decide +kernel), List.mem_of_getElem? (i := 389) (by decide +kernel)⟩
def lw_privs_1 : List (MethodName × Nat) := [(⟨"DutyDesk", "isTrip", "(I)Z"⟩, 12), (⟨"java/lang/Throwable", "fillInStackTrace", "(I)Ljava/lang/Throwable;"⟩, 6), (⟨"DutyDesk", "tripFact", "(II)I"⟩, 12), (⟨"DutyDesk", "dutyOf", "(I)I"⟩, 12), (⟨"DutyDesk", "freeTrips", "()I"⟩, 12), (⟨"DutyDesk", "isDuty", "(I)Z"⟩, 12), (⟨"DutyDesk", "dutyFact", "(II)I"⟩, 12), (⟨"DutyDesk", "dutyAt", "(I)LDutyDesk$Duty;"⟩, 12), (⟨"DutyDesk", "isFixed", "(I)Z"⟩, 12), (⟨"DutyDesk", "isHadOn", "(II)Z"⟩, 12), (⟨"DutyDesk", "dutyOn", "(II)I"⟩, 12), (⟨"DutyDesk", "planTrip", "(I)V"⟩, 12), (⟨"DutyDesk", "cheapestDuty", "(I)I"⟩, 12), (⟨"DutyDesk", "tryPut", "(II)Z"⟩, 12), (⟨"DutyDesk$Duty", "append", "(I)V"⟩, 9), (⟨"DutyDesk$Duty", "measureSpread", "(LDutyDesk$Timetable;)V"⟩, 9)]
theorem lw_r1 : ∀ q ∈ lw_privs_1, lw_okq q := List.forall_mem_cons.mpr ⟨lw_p0, List.forall_mem_cons.mpr ⟨lw_p1, List.forall_mem_cons.mpr ⟨lw_p2, List.forall_mem_cons.mpr ⟨lw_p3, List.forall_mem_cons.mpr ⟨lw_p4, List.forall_mem_cons.mpr ⟨lw_p5, List.forall_mem_cons.mpr ⟨lw_p6, List.forall_mem_cons.mpr ⟨lw_p7, List.forall_mem_cons.mpr ⟨lw_p8, List.forall_mem_cons.mpr ⟨lw_p9, List.forall_mem_cons.mpr ⟨lw_p10, List.forall_mem_cons.mpr ⟨lw_p11, List.forall_mem_cons.mpr ⟨lw_p12, List.forall_mem_cons.mpr ⟨lw_p13, List.forall_mem_cons.mpr ⟨lw_p14, List.forall_mem_cons.mpr ⟨lw_p15, fun _ h => absurd h List.not_mem_nil⟩⟩⟩⟩⟩⟩⟩⟩⟩⟩⟩⟩⟩⟩⟩⟩
theorem lw_p16 : lw_okq (⟨"DutyDesk$Duty", "measureStretches", "(LDutyDesk$Timetable;LDutyDesk$Rules;)V"⟩, 9) := ⟨⟨by decide +kernel, by decide +kernel⟩, List.mem_of_getElem? (i := 76) (by decide +kernel), List.mem_of_getElem? (i := 399) (by decide +kernel), List.mem_of_getElem? (i := 400) (by decide +kernel)⟩
theorem lw_p17 : lw_okq (⟨"DutyDesk$Duty", "endStretch", "(I)V"⟩, 9) := ⟨⟨by decide +kernel, by decide +kernel⟩, List.mem_of_getElem? (i := 76) (by decide +kernel), List.mem_of_getElem? (i := 407) (by decide +kernel), List.mem_of_getElem? (i := 408) (by decide +kernel)⟩
theorem lw_p18 : lw_okq (⟨"DutyDesk", "keepPut", "(II)V"⟩, 12) := ⟨⟨by decide +kernel, by decide +kernel⟩, List.mem_of_getElem? (i := 14) (by decide +kernel), List.mem_of_getElem? (i := 414) (by decide +kernel), List.mem_of_getElem? (i := 415) (by decide +kernel)⟩
theorem lw_p19 : lw_okq (⟨"DutyDesk", "assign", "(II)V"⟩, 12) := ⟨⟨by decide +kernel, by decide +kernel⟩, List.mem_of_getElem? (i := 14) (by decide +kernel), List.mem_of_getElem? (i := 418) (by decide +kernel), List.mem_of_getElem? (i := 419) (by decide +kernel)⟩
theorem lw_p20 : lw_okq (⟨"DutyDesk", "weighPairsOf", "(I)V"⟩, 12) := ⟨⟨by decide +kernel, by decide +kernel⟩, List.mem_of_getElem? (i := 14) (by decide +kernel), List.mem_of_getElem? (i := 430) (by decide +kernel), List.mem_of_getElem? (i := 431) (by decide +kernel)⟩
theorem lw_p21 : lw_okq (⟨"DutyDesk", "weighTimesOf", "(III)V"⟩, 12) := ⟨⟨by decide +kernel, by decide +kernel⟩, List.mem_of_getElem? (i := 14) (by decide +kernel), List.mem_of_getElem? (i := 434) (by decide +kernel), List.mem_of_getElem? (i := 435) (by decide +kernel)⟩
theorem lw_p22 : lw_okq (⟨"DutyDesk", "tryExchange", "(III)Z"⟩, 12) := ⟨⟨by decide +kernel, by decide +kernel⟩, List.mem_of_getElem? (i := 14) (by decide +kernel), List.mem_of_getElem? (i := 438) (by decide +kernel), List.mem_of_getElem? (i := 439) (by decide +kernel)⟩
theorem lw_p23 : lw_okq (⟨"DutyDesk", "changeOfPay", "(II)I"⟩, 12) := ⟨⟨by decide +kernel, by decide +kernel⟩, List.mem_of_getElem? (i := 14) (by decide +kernel), List.mem_of_getElem? (i := 446) (by decide +kernel), List.mem_of_getElem? (i := 447) (by decide +kernel)⟩
theorem lw_p24 : lw_okq (⟨"DutyDesk", "keepExchange", "(II)V"⟩, 12) := ⟨⟨by decide +kernel, by decide +kernel⟩, List.mem_of_getElem? (i := 14) (by decide +kernel), List.mem_of_getElem? (i := 454) (by decide +kernel), List.mem_of_getElem? (i := 455) (by decide +kernel)⟩
theorem lw_p25 : lw_okq (⟨"DutyDesk", "assignTripsOf", "(I)V"⟩, 12) := ⟨⟨by decide +kernel, by decide +kernel⟩, List.mem_of_getElem? (i := 14) (by decide +kernel), List.mem_of_getElem? (i := 458) (by decide +kernel), List.mem_of_getElem? (i := 459) (by decide +kernel)⟩
theorem lw_p26 : lw_okq (⟨"DutyDesk", "isDriver", "(I)Z"⟩, 12) := ⟨⟨by decide +kernel, by decide +kernel⟩, List.mem_of_getElem? (i := 14) (by decide +kernel), List.mem_of_getElem? (i := 495) (by decide +kernel), List.mem_of_getElem? (i := 496) (by decide +kernel)⟩
theorem lw_p27 : lw_okq (⟨"DutyDesk", "isOpenOn", "(II)Z"⟩, 12) := ⟨⟨by decide +kernel, by decide +kernel⟩, List.mem_of_getElem? (i := 14) (by decide +kernel), List.mem_of_getElem? (i := 508) (by decide +kernel), List.mem_of_getElem? (i := 509) (by decide +kernel)⟩
theorem lw_p28 : lw_okq (⟨"DutyDesk", "fillWith", "(II)V"⟩, 12) := ⟨⟨by decide +kernel, by decide +kernel⟩, List.mem_of_getElem? (i := 14) (by decide +kernel), List.mem_of_getElem? (i := 512) (by decide +kernel), List.mem_of_getElem? (i := 513) (by decide +kernel)⟩
theorem lw_p29 : lw_okq (⟨"DutyDesk", "cheapestDriver", "(II)I"⟩, 12) := ⟨⟨by decide +kernel, by decide +kernel⟩, List.mem_of_getElem? (i := 14) (by decide +kernel), List.mem_of_getElem? (i := 516) (by decide +kernel), List.mem_of_getElem? (i := 517) (by decide +kernel)⟩
theorem lw_p30 : lw_okq (⟨"DutyDesk", "reasonAgainst", "(III)I"⟩, 12) := ⟨⟨by decide +kernel, by decide +kernel⟩, List.mem_of_getElem? (i := 14) (by decide +kernel), List.mem_of_getElem? (i := 520) (by decide +kernel), List.mem_of_getElem? (i := 521) (by decide +kernel)⟩
theorem lw_p31 : lw_okq (⟨"DutyDesk", "daysInARow", "(II)I"⟩, 12) := ⟨⟨by decide +kernel, by decide +kernel⟩, List.mem_of_getElem? (i := 14) (by decide +kernel), List.mem_of_getElem? (i := 524) (by decide +kernel), List.mem_of_getElem? (i := 525) (by decide +kernel)⟩
def lw_privs_2 : List (MethodName × Nat) := [(⟨"DutyDesk$Duty", "measureStretches", "(LDutyDesk$Timetable;LDutyDesk$Rules;)V"⟩, 9), (⟨"DutyDesk$Duty", "endStretch", "(I)V"⟩, 9), (⟨"DutyDesk", "keepPut", "(II)V"⟩, 12), (⟨"DutyDesk", "assign", "(II)V"⟩, 12), (⟨"DutyDesk", "weighPairsOf", "(I)V"⟩, 12), (⟨"DutyDesk", "weighTimesOf", "(III)V"⟩, 12), (⟨"DutyDesk", "tryExchange", "(III)Z"⟩, 12), (⟨"DutyDesk", "changeOfPay", "(II)I"⟩, 12), (⟨"DutyDesk", "keepExchange", "(II)V"⟩, 12), (⟨"DutyDesk", "assignTripsOf", "(I)V"⟩, 12), (⟨"DutyDesk", "isDriver", "(I)Z"⟩, 12), (⟨"DutyDesk", "isOpenOn", "(II)Z"⟩, 12), (⟨"DutyDesk", "fillWith", "(II)V"⟩, 12), (⟨"DutyDesk", "cheapestDriver", "(II)I"⟩, 12), (⟨"DutyDesk", "reasonAgainst", "(III)I"⟩, 12), (⟨"DutyDesk", "daysInARow", "(II)I"⟩, 12)]
theorem lw_r2 : ∀ q ∈ lw_privs_2, lw_okq q := List.forall_mem_cons.mpr ⟨lw_p16, List.forall_mem_cons.mpr ⟨lw_p17, List.forall_mem_cons.mpr ⟨lw_p18, List.forall_mem_cons.mpr ⟨lw_p19, List.forall_mem_cons.mpr ⟨lw_p20, List.forall_mem_cons.mpr ⟨lw_p21, List.forall_mem_cons.mpr ⟨lw_p22, List.forall_mem_cons.mpr ⟨lw_p23, List.forall_mem_cons.mpr ⟨lw_p24, List.forall_mem_cons.mpr ⟨lw_p25, List.forall_mem_cons.mpr ⟨lw_p26, List.forall_mem_cons.mpr ⟨lw_p27, List.forall_mem_cons.mpr ⟨lw_p28, List.forall_mem_cons.mpr ⟨lw_p29, List.forall_mem_cons.mpr ⟨lw_p30, List.forall_mem_cons.mpr ⟨lw_p31, fun _ h => absurd h List.not_mem_nil⟩⟩⟩⟩⟩⟩⟩⟩⟩⟩⟩⟩⟩⟩⟩⟩
theorem lw_p32 : lw_okq (⟨"DutyDesk", "weekPay", "(I)I"⟩, 12) := ⟨⟨by decide +kernel, by decide +kernel⟩, List.mem_of_getElem? (i := 14) (by decide +kernel), List.mem_of_getElem? (i := 528) (by decide +kernel), List.mem_of_getElem? (i := 529) (by decide +kernel)⟩
theorem lw_p33 : lw_okq (⟨"DutyDesk", "hasRest", "(III)Z"⟩, 12) := ⟨⟨by decide +kernel, by decide +kernel⟩, List.mem_of_getElem? (i := 14) (by decide +kernel), List.mem_of_getElem? (i := 532) (by decide +kernel), List.mem_of_getElem? (i := 533) (by decide +kernel)⟩
theorem lw_p34 : lw_okq (⟨"DutyDesk", "restBetween", "(II)I"⟩, 12) := ⟨⟨by decide +kernel, by decide +kernel⟩, List.mem_of_getElem? (i := 14) (by decide +kernel), List.mem_of_getElem? (i := 536) (by decide +kernel), List.mem_of_getElem? (i := 537) (by decide +kernel)⟩
theorem lw_p35 : lw_okq (⟨"DutyDesk", "enter", "(III)V"⟩, 12) := ⟨⟨by decide +kernel, by decide +kernel⟩, List.mem_of_getElem? (i := 14) (by decide +kernel), List.mem_of_getElem? (i := 540) (by decide +kernel), List.mem_of_getElem? (i := 541) (by decide +kernel)⟩
theorem lw_p36 : lw_okq (⟨"DutyDesk", "openDuties", "(I)I"⟩, 12) := ⟨⟨by decide +kernel, by decide +kernel⟩, List.mem_of_getElem? (i := 14) (by decide +kernel), List.mem_of_getElem? (i := 544) (by decide +kernel), List.mem_of_getElem? (i := 545) (by decide +kernel)⟩
def lw_privs_3 : List (MethodName × Nat) := [(⟨"DutyDesk", "weekPay", "(I)I"⟩, 12), (⟨"DutyDesk", "hasRest", "(III)Z"⟩, 12), (⟨"DutyDesk", "restBetween", "(II)I"⟩, 12), (⟨"DutyDesk", "enter", "(III)V"⟩, 12), (⟨"DutyDesk", "openDuties", "(I)I"⟩, 12)]
theorem lw_r3 : ∀ q ∈ lw_privs_3, lw_okq q := List.forall_mem_cons.mpr ⟨lw_p32, List.forall_mem_cons.mpr ⟨lw_p33, List.forall_mem_cons.mpr ⟨lw_p34, List.forall_mem_cons.mpr ⟨lw_p35, List.forall_mem_cons.mpr ⟨lw_p36, fun _ h => absurd h List.not_mem_nil⟩⟩⟩⟩⟩
def lw_privs : List (MethodName × Nat) := lw_privs_1 ++ (lw_privs_2 ++ (lw_privs_3))
def lw_tbl : List Cond := k2_sels lw_privs ++ tables_1
theorem lw_privs_ok : ∀ q ∈ lw_privs, lw_okq q := by
  show ∀ q ∈ lw_privs_1 ++ (lw_privs_2 ++ (lw_privs_3)), lw_okq q
  exact List.forall_mem_append.mpr ⟨lw_r1, List.forall_mem_append.mpr ⟨lw_r2, lw_r3⟩⟩
/-- the streams that the claim lets the run draw from -/
abbrev lw_cs : List Choice := [Jvm.Choice.named "NaN.bits"]
theorem lw_bits : nanBits ∈ lw_cs := by first | decide | exact List.mem_cons_self | simp [lw_cs, nanBits]
def RX0 : String := "DutyDesk$Duty"
def TX0 : u_T := fun k => match k with
  | 0 => ("DutyDesk$Duty", "trips", "[I", true)
  | 1 => ("DutyDesk$Duty", "size", "I", false)
  | 2 => ("DutyDesk$Duty", "begin", "I", false)
  | 3 => ("DutyDesk$Duty", "end", "I", false)
  | 4 => ("DutyDesk$Duty", "work", "I", false)
  | 5 => ("DutyDesk$Duty", "pay", "I", false)
  | 6 => ("DutyDesk$Duty", "breaks", "I", false)
  | 7 => ("DutyDesk$Duty", "mostDriving", "I", false)
  | _ => ("DutyDesk$Duty", "right", "Z", false)
def tyX0 : Nat → FieldType := fun k => match k with
  | 0 => .array .int
  | 1 => .int
  | 2 => .int
  | 3 => .int
  | 4 => .int
  | 5 => .int
  | 6 => .int
  | 7 => .int
  | _ => .boolean
abbrev wsX00 : List Cond := u_ws RX0 TX0 9
theorem nmX0 : ∀ a, a < 9 → ∀ b, b < 9 → a ≠ b → (TX0 a).2.1 ≠ (TX0 b).2.1 := by decide +kernel
theorem tyX0_ok : ∀ k, k < 9 → parseFieldDescriptor (TX0 k).2.2.1 = some (tyX0 k) := by decide +kernel
abbrev cX0_init : ByteArray := prog_2_method_1_code
def yX0_init : MethodName := ⟨RX0, "<init>", "()V"⟩
abbrev cX0_tripIn : ByteArray := prog_2_method_2_code
def yX0_tripIn : MethodName := ⟨RX0, "tripIn", "(I)I"⟩
abbrev cX0_append : ByteArray := prog_2_method_4_code
def yX0_append : MethodName := ⟨RX0, "append", "(I)V"⟩
abbrev cX0_insert : ByteArray := prog_2_method_5_code
def yX0_insert : MethodName := ⟨RX0, "insert", "(ILDutyDesk$Timetable;)Z"⟩
abbrev cX0_copy : ByteArray := prog_2_method_6_code
def yX0_copy : MethodName := ⟨RX0, "copy", "(LDutyDesk$Duty;)V"⟩
abbrev cX0_join : ByteArray := prog_2_method_8_code
def yX0_join : MethodName := ⟨RX0, "join", "(LDutyDesk$Duty;LDutyDesk$Duty;ILDutyDesk$Timetable;)V"⟩
abbrev cX0_measure : ByteArray := prog_2_method_9_code
def yX0_measure : MethodName := ⟨RX0, "measure", "(LDutyDesk$Timetable;LDutyDesk$Rules;)V"⟩
abbrev cX0_measureSpread : ByteArray := prog_2_method_10_code
def yX0_measureSpread : MethodName := ⟨RX0, "measureSpread", "(LDutyDesk$Timetable;)V"⟩
abbrev cX0_measureStretches : ByteArray := prog_2_method_11_code
def yX0_measureStretches : MethodName := ⟨RX0, "measureStretches", "(LDutyDesk$Timetable;LDutyDesk$Rules;)V"⟩
abbrev cX0_endStretch : ByteArray := prog_2_method_12_code
def yX0_endStretch : MethodName := ⟨RX0, "endStretch", "(I)V"⟩
abbrev cX0_payFor : ByteArray := prog_2_method_13_code
def yX0_payFor : MethodName := ⟨RX0, "payFor", "(I)I"⟩
def RX1 : String := "DutyDesk$Exchange"
def TX1 : u_T := fun k => match k with
  | 0 => ("DutyDesk$Exchange", "first", "I", false)
  | 1 => ("DutyDesk$Exchange", "second", "I", false)
  | 2 => ("DutyDesk$Exchange", "time", "I", false)
  | _ => ("DutyDesk$Exchange", "change", "I", false)
def tyX1 : Nat → FieldType := fun k => match k with
  | 0 => .int
  | 1 => .int
  | 2 => .int
  | _ => .int
abbrev wsX10 : List Cond := u_ws RX1 TX1 4
theorem nmX1 : ∀ a, a < 4 → ∀ b, b < 4 → a ≠ b → (TX1 a).2.1 ≠ (TX1 b).2.1 := by decide +kernel
theorem tyX1_ok : ∀ k, k < 4 → parseFieldDescriptor (TX1 k).2.2.1 = some (tyX1 k) := by decide +kernel
abbrev cX1_init : ByteArray := prog_3_method_1_code
def yX1_init : MethodName := ⟨RX1, "<init>", "()V"⟩
abbrev cX1_clear : ByteArray := prog_3_method_2_code
def yX1_clear : MethodName := ⟨RX1, "clear", "()V"⟩
abbrev cX1_offer : ByteArray := prog_3_method_3_code
def yX1_offer : MethodName := ⟨RX1, "offer", "(IIII)V"⟩
def RX2 : String := "DutyDesk$Queue"
def TX2 : u_T := fun k => match k with
  | 0 => ("DutyDesk$Queue", "keys", "[I", true)
  | 1 => ("DutyDesk$Queue", "numbers", "[I", true)
  | _ => ("DutyDesk$Queue", "size", "I", false)
def tyX2 : Nat → FieldType := fun k => match k with
  | 0 => .array .int
  | 1 => .array .int
  | _ => .int
abbrev wsX20 : List Cond := u_ws RX2 TX2 3
theorem nmX2 : ∀ a, a < 3 → ∀ b, b < 3 → a ≠ b → (TX2 a).2.1 ≠ (TX2 b).2.1 := by decide +kernel
theorem tyX2_ok : ∀ k, k < 3 → parseFieldDescriptor (TX2 k).2.2.1 = some (tyX2 k) := by decide +kernel
abbrev cX2_init : ByteArray := prog_4_method_1_code
def yX2_init : MethodName := ⟨RX2, "<init>", "()V"⟩
abbrev cX2_clear : ByteArray := prog_4_method_2_code
def yX2_clear : MethodName := ⟨RX2, "clear", "()V"⟩
abbrev cX2_numberIn : ByteArray := prog_4_method_3_code
def yX2_numberIn : MethodName := ⟨RX2, "numberIn", "(I)I"⟩
abbrev cX2_insert : ByteArray := prog_4_method_4_code
def yX2_insert : MethodName := ⟨RX2, "insert", "(II)V"⟩
def RX3 : String := "DutyDesk$Rules"
def TX3 : u_T := fun k => match k with
  | 0 => ("DutyDesk$Rules", "drivingLimit", "I", false)
  | 1 => ("DutyDesk$Rules", "spreadLimit", "I", false)
  | 2 => ("DutyDesk$Rules", "leastBreak", "I", false)
  | _ => ("DutyDesk$Rules", "leastRest", "I", false)
def tyX3 : Nat → FieldType := fun k => match k with
  | 0 => .int
  | 1 => .int
  | 2 => .int
  | _ => .int
abbrev wsX30 : List Cond := u_ws RX3 TX3 4
theorem nmX3 : ∀ a, a < 4 → ∀ b, b < 4 → a ≠ b → (TX3 a).2.1 ≠ (TX3 b).2.1 := by decide +kernel
theorem tyX3_ok : ∀ k, k < 4 → parseFieldDescriptor (TX3 k).2.2.1 = some (tyX3 k) := by decide +kernel
abbrev cX3_init : ByteArray := prog_5_method_1_code
def yX3_init : MethodName := ⟨RX3, "<init>", "()V"⟩
def RX4 : String := "DutyDesk$Timetable"
def TX4 : u_T := fun k => match k with
  | 0 => ("DutyDesk$Timetable", "ways", "[[I", true)
  | 1 => ("DutyDesk$Timetable", "from", "[I", true)
  | 2 => ("DutyDesk$Timetable", "to", "[I", true)
  | 3 => ("DutyDesk$Timetable", "departure", "[I", true)
  | 4 => ("DutyDesk$Timetable", "arrival", "[I", true)
  | _ => ("DutyDesk$Timetable", "size", "I", false)
def tyX4 : Nat → FieldType := fun k => match k with
  | 0 => .array (.array .int)
  | 1 => .array .int
  | 2 => .array .int
  | 3 => .array .int
  | 4 => .array .int
  | _ => .int
abbrev wsX40 : List Cond := u_ws RX4 TX4 6
theorem nmX4 : ∀ a, a < 6 → ∀ b, b < 6 → a ≠ b → (TX4 a).2.1 ≠ (TX4 b).2.1 := by decide +kernel
theorem tyX4_ok : ∀ k, k < 6 → parseFieldDescriptor (TX4 k).2.2.1 = some (tyX4 k) := by decide +kernel
abbrev cX4_init : ByteArray := prog_6_method_1_code
def yX4_init : MethodName := ⟨RX4, "<init>", "()V"⟩
abbrev cX4_wayFrom : ByteArray := prog_6_method_2_code
def yX4_wayFrom : MethodName := ⟨RX4, "wayFrom", "(II)I"⟩
abbrev cX4_append : ByteArray := prog_6_method_4_code
def yX4_append : MethodName := ⟨RX4, "append", "(IIII)I"⟩
abbrev cX4_fromOf : ByteArray := prog_6_method_5_code
def yX4_fromOf : MethodName := ⟨RX4, "fromOf", "(I)I"⟩
abbrev cX4_toOf : ByteArray := prog_6_method_6_code
def yX4_toOf : MethodName := ⟨RX4, "toOf", "(I)I"⟩
abbrev cX4_departureOf : ByteArray := prog_6_method_7_code
def yX4_departureOf : MethodName := ⟨RX4, "departureOf", "(I)I"⟩
abbrev cX4_arrivalOf : ByteArray := prog_6_method_8_code
def yX4_arrivalOf : MethodName := ⟨RX4, "arrivalOf", "(I)I"⟩
abbrev cX4_minutesOf : ByteArray := prog_6_method_9_code
def yX4_minutesOf : MethodName := ⟨RX4, "minutesOf", "(I)I"⟩
def RX5 : String := "DutyDesk"
def TX5 : u_T := fun k => match k with
  | 0 => ("DutyDesk", "table", "LDutyDesk$Timetable;", true)
  | 1 => ("DutyDesk", "rules", "LDutyDesk$Rules;", true)
  | 2 => ("DutyDesk", "duties", "[LDutyDesk$Duty;", true)
  | 3 => ("DutyDesk", "dutyOfTrip", "[I", true)
  | 4 => ("DutyDesk", "roster", "[[I", true)
  | 5 => ("DutyDesk", "dutyCount", "I", false)
  | 6 => ("DutyDesk", "driverCount", "I", false)
  | 7 => ("DutyDesk", "trial", "LDutyDesk$Duty;", true)
  | 8 => ("DutyDesk", "otherTrial", "LDutyDesk$Duty;", true)
  | 9 => ("DutyDesk", "queue", "LDutyDesk$Queue;", true)
  | 10 => ("DutyDesk", "best", "LDutyDesk$Exchange;", true)
  | _ => ("DutyDesk", "noDuty", "LDutyDesk$Duty;", true)
def tyX5 : Nat → FieldType := fun k => match k with
  | 0 => .object "DutyDesk$Timetable"
  | 1 => .object "DutyDesk$Rules"
  | 2 => .array (.object "DutyDesk$Duty")
  | 3 => .array .int
  | 4 => .array (.array .int)
  | 5 => .int
  | 6 => .int
  | 7 => .object "DutyDesk$Duty"
  | 8 => .object "DutyDesk$Duty"
  | 9 => .object "DutyDesk$Queue"
  | 10 => .object "DutyDesk$Exchange"
  | _ => .object "DutyDesk$Duty"
abbrev wsX50 : List Cond := u_ws RX5 TX5 12
theorem nmX5 : ∀ a, a < 12 → ∀ b, b < 12 → a ≠ b → (TX5 a).2.1 ≠ (TX5 b).2.1 := by decide +kernel
theorem tyX5_ok : ∀ k, k < 12 → parseFieldDescriptor (TX5 k).2.2.1 = some (tyX5 k) := by decide +kernel
abbrev cX5_init : ByteArray := prog_1_method_1_code
def yX5_init : MethodName := ⟨RX5, "<init>", "()V"⟩
abbrev cX5_addTrip : ByteArray := prog_1_method_3_code
def yX5_addTrip : MethodName := ⟨RX5, "addTrip", "(IIII)I"⟩
abbrev cX5_trip : ByteArray := prog_1_method_4_code
def yX5_trip : MethodName := ⟨RX5, "trip", "(II)I"⟩
abbrev cX5_count : ByteArray := prog_1_method_6_code
def yX5_count : MethodName := ⟨RX5, "count", "(I)I"⟩
abbrev cX5_duty : ByteArray := prog_1_method_10_code
def yX5_duty : MethodName := ⟨RX5, "duty", "(II)I"⟩
abbrev cX5_tripAt : ByteArray := prog_1_method_11_code
def yX5_tripAt : MethodName := ⟨RX5, "tripAt", "(II)I"⟩
abbrev cX5_plan : ByteArray := prog_1_method_13_code
def yX5_plan : MethodName := ⟨RX5, "plan", "()I"⟩
abbrev cX5_improve : ByteArray := prog_1_method_15_code
def yX5_improve : MethodName := ⟨RX5, "improve", "()I"⟩
abbrev cX5_pay : ByteArray := prog_1_method_16_code
def yX5_pay : MethodName := ⟨RX5, "pay", "()I"⟩
abbrev cX5_use : ByteArray := prog_1_method_17_code
def yX5_use : MethodName := ⟨RX5, "use", "()D"⟩
abbrev cX5_addDriver : ByteArray := prog_1_method_18_code
def yX5_addDriver : MethodName := ⟨RX5, "addDriver", "()I"⟩
abbrev cX5_given : ByteArray := prog_1_method_22_code
def yX5_given : MethodName := ⟨RX5, "given", "(II)I"⟩
abbrev cX5_fill : ByteArray := prog_1_method_23_code
def yX5_fill : MethodName := ⟨RX5, "fill", "(I)I"⟩
abbrev cX5_week : ByteArray := prog_1_method_24_code
def yX5_week : MethodName := ⟨RX5, "week", "(I)I"⟩
abbrev cX5_rest : ByteArray := prog_1_method_25_code
def yX5_rest : MethodName := ⟨RX5, "rest", "(II)I"⟩
abbrev cX5_isPoint : ByteArray := prog_1_method_27_code
def yX5_isPoint : MethodName := ⟨RX5, "isPoint", "(I)Z"⟩
abbrev cX5_isDay : ByteArray := prog_1_method_28_code
def yX5_isDay : MethodName := ⟨RX5, "isDay", "(I)Z"⟩
abbrev cX5_areTimesOfTrip : ByteArray := prog_1_method_29_code
def yX5_areTimesOfTrip : MethodName := ⟨RX5, "areTimesOfTrip", "(II)Z"⟩
abbrev cX5_isTrip : ByteArray := prog_1_method_30_code
def yX5_isTrip : MethodName := ⟨RX5, "isTrip", "(I)Z"⟩
abbrev cX5_isDuty : ByteArray := prog_1_method_31_code
def yX5_isDuty : MethodName := ⟨RX5, "isDuty", "(I)Z"⟩
abbrev cX5_isDriver : ByteArray := prog_1_method_32_code
def yX5_isDriver : MethodName := ⟨RX5, "isDriver", "(I)Z"⟩
abbrev cX5_dutyAt : ByteArray := prog_1_method_33_code
def yX5_dutyAt : MethodName := ⟨RX5, "dutyAt", "(I)LDutyDesk$Duty;"⟩
abbrev cX5_dutyOf : ByteArray := prog_1_method_34_code
def yX5_dutyOf : MethodName := ⟨RX5, "dutyOf", "(I)I"⟩
abbrev cX5_assign : ByteArray := prog_1_method_35_code
def yX5_assign : MethodName := ⟨RX5, "assign", "(II)V"⟩
abbrev cX5_tripFact : ByteArray := prog_1_method_36_code
def yX5_tripFact : MethodName := ⟨RX5, "tripFact", "(II)I"⟩
abbrev cX5_dutyFact : ByteArray := prog_1_method_37_code
def yX5_dutyFact : MethodName := ⟨RX5, "dutyFact", "(II)I"⟩
abbrev cX5_freeTrips : ByteArray := prog_1_method_38_code
def yX5_freeTrips : MethodName := ⟨RX5, "freeTrips", "()I"⟩
abbrev cX5_tryPut : ByteArray := prog_1_method_41_code
def yX5_tryPut : MethodName := ⟨RX5, "tryPut", "(II)Z"⟩
abbrev cX5_keepPut : ByteArray := prog_1_method_42_code
def yX5_keepPut : MethodName := ⟨RX5, "keepPut", "(II)V"⟩
abbrev cX5_cheapestDuty : ByteArray := prog_1_method_44_code
def yX5_cheapestDuty : MethodName := ⟨RX5, "cheapestDuty", "(I)I"⟩
abbrev cX5_planTrip : ByteArray := prog_1_method_45_code
def yX5_planTrip : MethodName := ⟨RX5, "planTrip", "(I)V"⟩
abbrev cX5_tryExchange : ByteArray := prog_1_method_46_code
def yX5_tryExchange : MethodName := ⟨RX5, "tryExchange", "(III)Z"⟩
abbrev cX5_changeOfPay : ByteArray := prog_1_method_47_code
def yX5_changeOfPay : MethodName := ⟨RX5, "changeOfPay", "(II)I"⟩
abbrev cX5_keepExchange : ByteArray := prog_1_method_48_code
def yX5_keepExchange : MethodName := ⟨RX5, "keepExchange", "(II)V"⟩
abbrev cX5_assignTripsOf : ByteArray := prog_1_method_49_code
def yX5_assignTripsOf : MethodName := ⟨RX5, "assignTripsOf", "(I)V"⟩
abbrev cX5_weighPairsOf : ByteArray := prog_1_method_50_code
def yX5_weighPairsOf : MethodName := ⟨RX5, "weighPairsOf", "(I)V"⟩
abbrev cX5_weighTimesOf : ByteArray := prog_1_method_51_code
def yX5_weighTimesOf : MethodName := ⟨RX5, "weighTimesOf", "(III)V"⟩
abbrev cX5_dutyOn : ByteArray := prog_1_method_52_code
def yX5_dutyOn : MethodName := ⟨RX5, "dutyOn", "(II)I"⟩
abbrev cX5_enter : ByteArray := prog_1_method_53_code
def yX5_enter : MethodName := ⟨RX5, "enter", "(III)V"⟩
abbrev cX5_isHadOn : ByteArray := prog_1_method_54_code
def yX5_isHadOn : MethodName := ⟨RX5, "isHadOn", "(II)Z"⟩
abbrev cX5_isFixed : ByteArray := prog_1_method_55_code
def yX5_isFixed : MethodName := ⟨RX5, "isFixed", "(I)Z"⟩
abbrev cX5_isOpenOn : ByteArray := prog_1_method_56_code
def yX5_isOpenOn : MethodName := ⟨RX5, "isOpenOn", "(II)Z"⟩
abbrev cX5_openDuties : ByteArray := prog_1_method_57_code
def yX5_openDuties : MethodName := ⟨RX5, "openDuties", "(I)I"⟩
abbrev cX5_weekPay : ByteArray := prog_1_method_58_code
def yX5_weekPay : MethodName := ⟨RX5, "weekPay", "(I)I"⟩
abbrev cX5_reasonAgainst : ByteArray := prog_1_method_59_code
def yX5_reasonAgainst : MethodName := ⟨RX5, "reasonAgainst", "(III)I"⟩
abbrev cX5_daysInARow : ByteArray := prog_1_method_60_code
def yX5_daysInARow : MethodName := ⟨RX5, "daysInARow", "(II)I"⟩
abbrev cX5_hasRest : ByteArray := prog_1_method_61_code
def yX5_hasRest : MethodName := ⟨RX5, "hasRest", "(III)Z"⟩
abbrev cX5_restBetween : ByteArray := prog_1_method_62_code
def yX5_restBetween : MethodName := ⟨RX5, "restBetween", "(II)I"⟩
abbrev cX5_fillWith : ByteArray := prog_1_method_63_code
def yX5_fillWith : MethodName := ⟨RX5, "fillWith", "(II)V"⟩
abbrev cX5_cheapestDriver : ByteArray := prog_1_method_64_code
def yX5_cheapestDriver : MethodName := ⟨RX5, "cheapestDriver", "(II)I"⟩
def RX6 : String := "DutyDeskModel"
def TX6 : u_T := fun k => match k with
  | _ => ("", "", "", false)
def tyX6 : Nat → FieldType := fun k => match k with
  | _ => .int
abbrev wsX60 : List Cond := u_ws RX6 TX6 0
theorem nmX6 : ∀ a, a < 0 → ∀ b, b < 0 → a ≠ b → (TX6 a).2.1 ≠ (TX6 b).2.1 := by decide +kernel
theorem tyX6_ok : ∀ k, k < 0 → parseFieldDescriptor (TX6 k).2.2.1 = some (tyX6 k) := by decide +kernel
def RL : String := "DutyDeskLaw"
abbrev cL_below : ByteArray := method_2_code
def yL_below : MethodName := ⟨RL, "below", "(II)I"⟩
abbrev cL_cell : ByteArray := method_3_code
def yL_cell : MethodName := ⟨RL, "cell", "([II)I"⟩
abbrev cL_trips : ByteArray := method_4_code
def yL_trips : MethodName := ⟨RL, "trips", "(LDutyDesk;[III[I)I"⟩
abbrev cL_law : ByteArray := code
def yL_law : MethodName := ⟨RL, "law", "([I)Z"⟩
abbrev vwCl : List vw_C := [(RX0, TX0, 9), (RX1, TX1, 4), (RX2, TX2, 3), (RX3, TX3, 4), (RX4, TX4, 6), (RX5, TX5, 12)]
