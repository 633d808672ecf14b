section
-- ===== PART A: goes FIRST, ahead of the names: the tables' words, and 'selects' of the private methods out of them =====
/-- a private method of a class that the tables say can be made, by its rows of tables_1 -/
def lw_okq (q : MethodName × Nat) : Prop := (q.1.cls ≠ "java/lang/invoke/MethodHandle" ∧ q.1.cls ≠ "java/lang/invoke/VarHandle") ∧ Cond.instantiable q.1.cls q.2 ∈ tables_1 ∧ Cond.privateMethod q.1 ∈ tables_1 ∧ Cond.instanceMethod q.1 ∈ tables_1
theorem lw_p0 : lw_okq (⟨"DutyDesk", "dutyOf", "(I)I"⟩, 12) := ⟨⟨by decide +kernel, by decide +kernel⟩, List.mem_of_getElem? (i := 16) (by decide +kernel), List.mem_of_getElem? (i := 208) (by decide +kernel), List.mem_of_getElem? (i := 209) (by decide +kernel)⟩
theorem lw_p1 : lw_okq (⟨"DutyDesk", "planTrip", "(I)V"⟩, 12) := ⟨⟨by decide +kernel, by decide +kernel⟩, List.mem_of_getElem? (i := 16) (by decide +kernel), List.mem_of_getElem? (i := 224) (by decide +kernel), List.mem_of_getElem? (i := 225) (by decide +kernel)⟩
theorem lw_p2 : lw_okq (⟨"DutyDesk", "cheapestDuty", "(I)I"⟩, 12) := ⟨⟨by decide +kernel, by decide +kernel⟩, List.mem_of_getElem? (i := 16) (by decide +kernel), List.mem_of_getElem? (i := 228) (by decide +kernel), List.mem_of_getElem? (i := 229) (by decide +kernel)⟩
theorem lw_p3 : lw_okq (⟨"DutyDesk", "tryPut", "(II)Z"⟩, 12) := ⟨⟨by decide +kernel, by decide +kernel⟩, List.mem_of_getElem? (i := 16) (by decide +kernel), List.mem_of_getElem? (i := 232) (by decide +kernel), List.mem_of_getElem? (i := 233) (by decide +kernel)⟩
theorem lw_p4 : lw_okq (⟨"DutyDesk", "isFixed", "(I)Z"⟩, 12) := ⟨⟨by decide +kernel, by decide +kernel⟩, List.mem_of_getElem? (i := 16) (by decide +kernel), List.mem_of_getElem? (i := 236) (by decide +kernel), List.mem_of_getElem? (i := 237) (by decide +kernel)⟩
theorem lw_p5 : lw_okq (⟨"DutyDesk", "isHadOn", "(II)Z"⟩, 12) := ⟨⟨by decide +kernel, by decide +kernel⟩, List.mem_of_getElem? (i := 16) (by decide +kernel), List.mem_of_getElem? (i := 240) (by decide +kernel), List.mem_of_getElem? (i := 241) (by decide +kernel)⟩
theorem lw_p6 : lw_okq (⟨"DutyDesk", "dutyOn", "(II)I"⟩, 12) := ⟨⟨by decide +kernel, by decide +kernel⟩, List.mem_of_getElem? (i := 16) (by decide +kernel), List.mem_of_getElem? (i := 244) (by decide +kernel), List.mem_of_getElem? (i := 245) (by decide +kernel)⟩
theorem lw_p7 : lw_okq (⟨"DutyDesk", "dutyAt", "(I)LDutyDesk$Duty;"⟩, 12) := ⟨⟨by decide +kernel, by decide +kernel⟩, List.mem_of_getElem? (i := 16) (by decide +kernel), List.mem_of_getElem? (i := 248) (by decide +kernel), List.mem_of_getElem? (i := 249) (by decide +kernel)⟩
theorem lw_p8 : lw_okq (⟨"DutyDesk$Duty", "append", "(I)V"⟩, 9) := ⟨⟨by decide +kernel, by decide +kernel⟩, List.mem_of_getElem? (i := 81) (by decide +kernel), List.mem_of_getElem? (i := 260) (by decide +kernel), List.mem_of_getElem? (i := 261) (by decide +kernel)⟩
theorem lw_p9 : lw_okq (⟨"DutyDesk$Duty", "measureSpread", "(LDutyDesk$Timetable;)V"⟩, 9) := ⟨⟨by decide +kernel, by decide +kernel⟩, List.mem_of_getElem? (i := 81) (by decide +kernel), List.mem_of_getElem? (i := 273) (by decide +kernel), List.mem_of_getElem? (i := 274) (by decide +kernel)⟩
theorem lw_p10 : lw_okq (⟨"DutyDesk$Duty", "measureStretches", "(LDutyDesk$Timetable;LDutyDesk$Rules;)V"⟩, 9) := ⟨⟨by decide +kernel, by decide +kernel⟩, List.mem_of_getElem? (i := 81) (by decide +kernel), List.mem_of_getElem? (i := 293) (by decide +kernel), List.mem_of_getElem? (i := 294) (by decide +kernel)⟩
theorem lw_p11 : lw_okq (⟨"DutyDesk$Duty", "endStretch", "(I)V"⟩, 9) := ⟨⟨by decide +kernel, by decide +kernel⟩, List.mem_of_getElem? (i := 81) (by decide +kernel), List.mem_of_getElem? (i := 303) (by decide +kernel), List.mem_of_getElem? (i := 304) (by decide +kernel)⟩
theorem lw_p12 : lw_okq (⟨"DutyDesk", "keepPut", "(II)V"⟩, 12) := ⟨⟨by decide +kernel, by decide +kernel⟩, List.mem_of_getElem? (i := 16) (by decide +kernel), List.mem_of_getElem? (i := 310) (by decide +kernel), List.mem_of_getElem? (i := 311) (by decide +kernel)⟩
theorem lw_p13 : lw_okq (⟨"DutyDesk", "assign", "(II)V"⟩, 12) := ⟨⟨by decide +kernel, by decide +kernel⟩, List.mem_of_getElem? (i := 16) (by decide +kernel), List.mem_of_getElem? (i := 314) (by decide +kernel), List.mem_of_getElem? (i := 315) (by decide +kernel)⟩
theorem lw_p14 : lw_okq (⟨"DutyDesk", "freeTrips", "()I"⟩, 12) := ⟨⟨by decide +kernel, by decide +kernel⟩, List.mem_of_getElem? (i := 16) (by decide +kernel), List.mem_of_getElem? (i := 318) (by decide +kernel), List.mem_of_getElem? (i := 319) (by decide +kernel)⟩
theorem lw_p15 : lw_okq (⟨"DutyDesk", "weighPairsOf", "(I)V"⟩, 12) := ⟨⟨by decide +kernel, by decide +kernel⟩, List.mem_of_getElem? (i := 16) (by decide +kernel), List.mem_of_getElem? (i := 330) (by decide +kernel), List.mem_of_getElem? (i := 331) (by decide +kernel)⟩
def lw_privs_1 : List (MethodName × Nat) := [(⟨"DutyDesk", "dutyOf", "(I)I"⟩, 12), (⟨"DutyDesk", "planTrip", "(I)V"⟩, 12), (⟨"DutyDesk", "cheapestDuty", "(I)I"⟩, 12), (⟨"DutyDesk", "tryPut", "(II)Z"⟩, 12), (⟨"DutyDesk", "isFixed", "(I)Z"⟩, 12), (⟨"DutyDesk", "isHadOn", "(II)Z"⟩, 12), (⟨"DutyDesk", "dutyOn", "(II)I"⟩, 12), (⟨"DutyDesk", "dutyAt", "(I)LDutyDesk$Duty;"⟩, 12), (⟨"DutyDesk$Duty", "append", "(I)V"⟩, 9), (⟨"DutyDesk$Duty", "measureSpread", "(LDutyDesk$Timetable;)V"⟩, 9), (⟨"DutyDesk$Duty", "measureStretches", "(LDutyDesk$Timetable;LDutyDesk$Rules;)V"⟩, 9), (⟨"DutyDesk$Duty", "endStretch", "(I)V"⟩, 9), (⟨"DutyDesk", "keepPut", "(II)V"⟩, 12), (⟨"DutyDesk", "assign", "(II)V"⟩, 12), (⟨"DutyDesk", "freeTrips", "()I"⟩, 12), (⟨"DutyDesk", "weighPairsOf", "(I)V"⟩, 12)]
theorem lw_r1 : ∀ q ∈ lw_privs_1, lw_okq q := List.forall_mem_cons.mpr ⟨lw_p0, List.forall_mem_cons.mpr ⟨lw_p1, List.forall_mem_cons.mpr ⟨lw_p2, List.forall_mem_cons.mpr ⟨lw_p3, List.forall_mem_cons.mpr ⟨lw_p4, List.forall_mem_cons.mpr ⟨lw_p5, List.forall_mem_cons.mpr ⟨lw_p6, List.forall_mem_cons.mpr ⟨lw_p7, List.forall_mem_cons.mpr ⟨lw_p8, List.forall_mem_cons.mpr ⟨lw_p9, List.forall_mem_cons.mpr ⟨lw_p10, List.forall_mem_cons.mpr ⟨lw_p11, List.forall_mem_cons.mpr ⟨lw_p12, List.forall_mem_cons.mpr ⟨lw_p13, List.forall_mem_cons.mpr ⟨lw_p14, List.forall_mem_cons.mpr ⟨lw_p15, fun _ h => absurd h List.not_mem_nil⟩⟩⟩⟩⟩⟩⟩⟩⟩⟩⟩⟩⟩⟩⟩⟩
theorem lw_p16 : lw_okq (⟨"DutyDesk", "weighTimesOf", "(III)V"⟩, 12) := ⟨⟨by decide +kernel, by decide +kernel⟩, List.mem_of_getElem? (i := 16) (by decide +kernel), List.mem_of_getElem? (i := 334) (by decide +kernel), List.mem_of_getElem? (i := 335) (by decide +kernel)⟩
theorem lw_p17 : lw_okq (⟨"DutyDesk", "tryExchange", "(III)Z"⟩, 12) := ⟨⟨by decide +kernel, by decide +kernel⟩, List.mem_of_getElem? (i := 16) (by decide +kernel), List.mem_of_getElem? (i := 339) (by decide +kernel), List.mem_of_getElem? (i := 340) (by decide +kernel)⟩
theorem lw_p18 : lw_okq (⟨"DutyDesk", "changeOfPay", "(II)I"⟩, 12) := ⟨⟨by decide +kernel, by decide +kernel⟩, List.mem_of_getElem? (i := 16) (by decide +kernel), List.mem_of_getElem? (i := 347) (by decide +kernel), List.mem_of_getElem? (i := 348) (by decide +kernel)⟩
theorem lw_p19 : lw_okq (⟨"DutyDesk", "keepExchange", "(II)V"⟩, 12) := ⟨⟨by decide +kernel, by decide +kernel⟩, List.mem_of_getElem? (i := 16) (by decide +kernel), List.mem_of_getElem? (i := 355) (by decide +kernel), List.mem_of_getElem? (i := 356) (by decide +kernel)⟩
theorem lw_p20 : lw_okq (⟨"DutyDesk", "assignTripsOf", "(I)V"⟩, 12) := ⟨⟨by decide +kernel, by decide +kernel⟩, List.mem_of_getElem? (i := 16) (by decide +kernel), List.mem_of_getElem? (i := 359) (by decide +kernel), List.mem_of_getElem? (i := 360) (by decide +kernel)⟩
theorem lw_p21 : lw_okq (⟨"DutyDesk", "tripFact", "(II)I"⟩, 12) := ⟨⟨by decide +kernel, by decide +kernel⟩, List.mem_of_getElem? (i := 16) (by decide +kernel), List.mem_of_getElem? (i := 378) (by decide +kernel), List.mem_of_getElem? (i := 379) (by decide +kernel)⟩
theorem lw_p22 : lw_okq (⟨"DutyDesk", "dutyFact", "(II)I"⟩, 12) := ⟨⟨by decide +kernel, by decide +kernel⟩, List.mem_of_getElem? (i := 16) (by decide +kernel), List.mem_of_getElem? (i := 385) (by decide +kernel), List.mem_of_getElem? (i := 386) (by decide +kernel)⟩
theorem lw_p23 : lw_okq (⟨"java/lang/Throwable", "fillInStackTrace", "(I)Ljava/lang/Throwable;"⟩, 6) := ⟨⟨by decide +kernel, by decide +kernel⟩, List.mem_of_getElem? (i := 439) (by decide +kernel), List.mem_of_getElem? (i := 437) (by decide +kernel), List.mem_of_getElem? (i := 438) (by decide +kernel)⟩
theorem lw_p24 : lw_okq (⟨"DutyDesk", "measureDuties", "()V"⟩, 12) := ⟨⟨by decide +kernel, by decide +kernel⟩, List.mem_of_getElem? (i := 16) (by decide +kernel), List.mem_of_getElem? (i := 490) (by decide +kernel), List.mem_of_getElem? (i := 491) (by decide +kernel)⟩
theorem lw_p25 : lw_okq (⟨"DutyDesk", "isTrip", "(I)Z"⟩, 12) := ⟨⟨by decide +kernel, by decide +kernel⟩, List.mem_of_getElem? (i := 16) (by decide +kernel), List.mem_of_getElem? (i := 533) (by decide +kernel), List.mem_of_getElem? (i := 534) (by decide +kernel)⟩
theorem lw_p26 : lw_okq (⟨"DutyDesk", "wrongDuties", "()I"⟩, 12) := ⟨⟨by decide +kernel, by decide +kernel⟩, List.mem_of_getElem? (i := 16) (by decide +kernel), List.mem_of_getElem? (i := 547) (by decide +kernel), List.mem_of_getElem? (i := 548) (by decide +kernel)⟩
theorem lw_p27 : lw_okq (⟨"DutyDesk", "isDuty", "(I)Z"⟩, 12) := ⟨⟨by decide +kernel, by decide +kernel⟩, List.mem_of_getElem? (i := 16) (by decide +kernel), List.mem_of_getElem? (i := 574) (by decide +kernel), List.mem_of_getElem? (i := 575) (by decide +kernel)⟩
theorem lw_p28 : lw_okq (⟨"DutyDesk", "tryWithout", "(II)Z"⟩, 12) := ⟨⟨by decide +kernel, by decide +kernel⟩, List.mem_of_getElem? (i := 16) (by decide +kernel), List.mem_of_getElem? (i := 592) (by decide +kernel), List.mem_of_getElem? (i := 593) (by decide +kernel)⟩
theorem lw_p29 : lw_okq (⟨"DutyDesk", "isDriver", "(I)Z"⟩, 12) := ⟨⟨by decide +kernel, by decide +kernel⟩, List.mem_of_getElem? (i := 16) (by decide +kernel), List.mem_of_getElem? (i := 649) (by decide +kernel), List.mem_of_getElem? (i := 650) (by decide +kernel)⟩
theorem lw_p30 : lw_okq (⟨"DutyDesk", "reasonAgainst", "(III)I"⟩, 12) := ⟨⟨by decide +kernel, by decide +kernel⟩, List.mem_of_getElem? (i := 16) (by decide +kernel), List.mem_of_getElem? (i := 657) (by decide +kernel), List.mem_of_getElem? (i := 658) (by decide +kernel)⟩
theorem lw_p31 : lw_okq (⟨"DutyDesk", "daysInARow", "(II)I"⟩, 12) := ⟨⟨by decide +kernel, by decide +kernel⟩, List.mem_of_getElem? (i := 16) (by decide +kernel), List.mem_of_getElem? (i := 661) (by decide +kernel), List.mem_of_getElem? (i := 662) (by decide +kernel)⟩
def lw_privs_2 : List (MethodName × Nat) := [(⟨"DutyDesk", "weighTimesOf", "(III)V"⟩, 12), (⟨"DutyDesk", "tryExchange", "(III)Z"⟩, 12), (⟨"DutyDesk", "changeOfPay", "(II)I"⟩, 12), (⟨"DutyDesk", "keepExchange", "(II)V"⟩, 12), (⟨"DutyDesk", "assignTripsOf", "(I)V"⟩, 12), (⟨"DutyDesk", "tripFact", "(II)I"⟩, 12), (⟨"DutyDesk", "dutyFact", "(II)I"⟩, 12), (⟨"java/lang/Throwable", "fillInStackTrace", "(I)Ljava/lang/Throwable;"⟩, 6), (⟨"DutyDesk", "measureDuties", "()V"⟩, 12), (⟨"DutyDesk", "isTrip", "(I)Z"⟩, 12), (⟨"DutyDesk", "wrongDuties", "()I"⟩, 12), (⟨"DutyDesk", "isDuty", "(I)Z"⟩, 12), (⟨"DutyDesk", "tryWithout", "(II)Z"⟩, 12), (⟨"DutyDesk", "isDriver", "(I)Z"⟩, 12), (⟨"DutyDesk", "reasonAgainst", "(III)I"⟩, 12), (⟨"DutyDesk", "daysInARow", "(II)I"⟩, 12)]
theorem lw_r2 : ∀ q ∈ lw_privs_2, lw_okq q := List.forall_mem_cons.mpr ⟨lw_p16, List.forall_mem_cons.mpr ⟨lw_p17, List.forall_mem_cons.mpr ⟨lw_p18, List.forall_mem_cons.mpr ⟨lw_p19, List.forall_mem_cons.mpr ⟨lw_p20, List.forall_mem_cons.mpr ⟨lw_p21, List.forall_mem_cons.mpr ⟨lw_p22, List.forall_mem_cons.mpr ⟨lw_p23, List.forall_mem_cons.mpr ⟨lw_p24, List.forall_mem_cons.mpr ⟨lw_p25, List.forall_mem_cons.mpr ⟨lw_p26, List.forall_mem_cons.mpr ⟨lw_p27, List.forall_mem_cons.mpr ⟨lw_p28, List.forall_mem_cons.mpr ⟨lw_p29, List.forall_mem_cons.mpr ⟨lw_p30, List.forall_mem_cons.mpr ⟨lw_p31, fun _ h => absurd h List.not_mem_nil⟩⟩⟩⟩⟩⟩⟩⟩⟩⟩⟩⟩⟩⟩⟩⟩
theorem lw_p32 : lw_okq (⟨"DutyDesk", "weekPay", "(I)I"⟩, 12) := ⟨⟨by decide +kernel, by decide +kernel⟩, List.mem_of_getElem? (i := 16) (by decide +kernel), List.mem_of_getElem? (i := 665) (by decide +kernel), List.mem_of_getElem? (i := 666) (by decide +kernel)⟩
theorem lw_p33 : lw_okq (⟨"DutyDesk", "hasRest", "(III)Z"⟩, 12) := ⟨⟨by decide +kernel, by decide +kernel⟩, List.mem_of_getElem? (i := 16) (by decide +kernel), List.mem_of_getElem? (i := 669) (by decide +kernel), List.mem_of_getElem? (i := 670) (by decide +kernel)⟩
theorem lw_p34 : lw_okq (⟨"DutyDesk", "restBetween", "(II)I"⟩, 12) := ⟨⟨by decide +kernel, by decide +kernel⟩, List.mem_of_getElem? (i := 16) (by decide +kernel), List.mem_of_getElem? (i := 673) (by decide +kernel), List.mem_of_getElem? (i := 674) (by decide +kernel)⟩
theorem lw_p35 : lw_okq (⟨"DutyDesk", "enter", "(III)V"⟩, 12) := ⟨⟨by decide +kernel, by decide +kernel⟩, List.mem_of_getElem? (i := 16) (by decide +kernel), List.mem_of_getElem? (i := 685) (by decide +kernel), List.mem_of_getElem? (i := 686) (by decide +kernel)⟩
theorem lw_p36 : lw_okq (⟨"DutyDesk", "isOpenOn", "(II)Z"⟩, 12) := ⟨⟨by decide +kernel, by decide +kernel⟩, List.mem_of_getElem? (i := 16) (by decide +kernel), List.mem_of_getElem? (i := 713) (by decide +kernel), List.mem_of_getElem? (i := 714) (by decide +kernel)⟩
theorem lw_p37 : lw_okq (⟨"DutyDesk", "fillWith", "(II)V"⟩, 12) := ⟨⟨by decide +kernel, by decide +kernel⟩, List.mem_of_getElem? (i := 16) (by decide +kernel), List.mem_of_getElem? (i := 717) (by decide +kernel), List.mem_of_getElem? (i := 718) (by decide +kernel)⟩
theorem lw_p38 : lw_okq (⟨"DutyDesk", "cheapestDriver", "(II)I"⟩, 12) := ⟨⟨by decide +kernel, by decide +kernel⟩, List.mem_of_getElem? (i := 16) (by decide +kernel), List.mem_of_getElem? (i := 721) (by decide +kernel), List.mem_of_getElem? (i := 722) (by decide +kernel)⟩
theorem lw_p39 : lw_okq (⟨"DutyDesk", "openDuties", "(I)I"⟩, 12) := ⟨⟨by decide +kernel, by decide +kernel⟩, List.mem_of_getElem? (i := 16) (by decide +kernel), List.mem_of_getElem? (i := 725) (by decide +kernel), List.mem_of_getElem? (i := 726) (by decide +kernel)⟩
theorem lw_p40 : lw_okq (⟨"DutyDeskModel", "no", "(I)I"⟩, 25) := ⟨⟨by decide +kernel, by decide +kernel⟩, List.mem_of_getElem? (i := 745) (by decide +kernel), List.mem_of_getElem? (i := 841) (by decide +kernel), List.mem_of_getElem? (i := 842) (by decide +kernel)⟩
theorem lw_p41 : lw_okq (⟨"DutyDeskModel", "isTrip", "(I)Z"⟩, 25) := ⟨⟨by decide +kernel, by decide +kernel⟩, List.mem_of_getElem? (i := 745) (by decide +kernel), List.mem_of_getElem? (i := 853) (by decide +kernel), List.mem_of_getElem? (i := 854) (by decide +kernel)⟩
theorem lw_p42 : lw_okq (⟨"DutyDeskModel", "look", "(I)Z"⟩, 25) := ⟨⟨by decide +kernel, by decide +kernel⟩, List.mem_of_getElem? (i := 745) (by decide +kernel), List.mem_of_getElem? (i := 861) (by decide +kernel), List.mem_of_getElem? (i := 862) (by decide +kernel)⟩
theorem lw_p43 : lw_okq (⟨"DutyDeskModel", "sort", "(I)V"⟩, 25) := ⟨⟨by decide +kernel, by decide +kernel⟩, List.mem_of_getElem? (i := 745) (by decide +kernel), List.mem_of_getElem? (i := 865) (by decide +kernel), List.mem_of_getElem? (i := 866) (by decide +kernel)⟩
theorem lw_p44 : lw_okq (⟨"DutyDeskModel", "way", "(II)I"⟩, 25) := ⟨⟨by decide +kernel, by decide +kernel⟩, List.mem_of_getElem? (i := 745) (by decide +kernel), List.mem_of_getElem? (i := 869) (by decide +kernel), List.mem_of_getElem? (i := 870) (by decide +kernel)⟩
theorem lw_p45 : lw_okq (⟨"DutyDeskModel", "freeTrips", "()I"⟩, 25) := ⟨⟨by decide +kernel, by decide +kernel⟩, List.mem_of_getElem? (i := 745) (by decide +kernel), List.mem_of_getElem? (i := 880) (by decide +kernel), List.mem_of_getElem? (i := 881) (by decide +kernel)⟩
theorem lw_p46 : lw_okq (⟨"DutyDeskModel", "isDuty", "(I)Z"⟩, 25) := ⟨⟨by decide +kernel, by decide +kernel⟩, List.mem_of_getElem? (i := 745) (by decide +kernel), List.mem_of_getElem? (i := 892) (by decide +kernel), List.mem_of_getElem? (i := 893) (by decide +kernel)⟩
theorem lw_p47 : lw_okq (⟨"DutyDeskModel", "canPut", "(II)Z"⟩, 25) := ⟨⟨by decide +kernel, by decide +kernel⟩, List.mem_of_getElem? (i := 745) (by decide +kernel), List.mem_of_getElem? (i := 896) (by decide +kernel), List.mem_of_getElem? (i := 897) (by decide +kernel)⟩
def lw_privs_3 : List (MethodName × Nat) := [(⟨"DutyDesk", "weekPay", "(I)I"⟩, 12), (⟨"DutyDesk", "hasRest", "(III)Z"⟩, 12), (⟨"DutyDesk", "restBetween", "(II)I"⟩, 12), (⟨"DutyDesk", "enter", "(III)V"⟩, 12), (⟨"DutyDesk", "isOpenOn", "(II)Z"⟩, 12), (⟨"DutyDesk", "fillWith", "(II)V"⟩, 12), (⟨"DutyDesk", "cheapestDriver", "(II)I"⟩, 12), (⟨"DutyDesk", "openDuties", "(I)I"⟩, 12), (⟨"DutyDeskModel", "no", "(I)I"⟩, 25), (⟨"DutyDeskModel", "isTrip", "(I)Z"⟩, 25), (⟨"DutyDeskModel", "look", "(I)Z"⟩, 25), (⟨"DutyDeskModel", "sort", "(I)V"⟩, 25), (⟨"DutyDeskModel", "way", "(II)I"⟩, 25), (⟨"DutyDeskModel", "freeTrips", "()I"⟩, 25), (⟨"DutyDeskModel", "isDuty", "(I)Z"⟩, 25), (⟨"DutyDeskModel", "canPut", "(II)Z"⟩, 25)]
theorem lw_r3 : ∀ q ∈ lw_privs_3, lw_okq q := List.forall_mem_cons.mpr ⟨lw_p32, List.forall_mem_cons.mpr ⟨lw_p33, List.forall_mem_cons.mpr ⟨lw_p34, List.forall_mem_cons.mpr ⟨lw_p35, List.forall_mem_cons.mpr ⟨lw_p36, List.forall_mem_cons.mpr ⟨lw_p37, List.forall_mem_cons.mpr ⟨lw_p38, List.forall_mem_cons.mpr ⟨lw_p39, List.forall_mem_cons.mpr ⟨lw_p40, List.forall_mem_cons.mpr ⟨lw_p41, List.forall_mem_cons.mpr ⟨lw_p42, List.forall_mem_cons.mpr ⟨lw_p43, List.forall_mem_cons.mpr ⟨lw_p44, List.forall_mem_cons.mpr ⟨lw_p45, List.forall_mem_cons.mpr ⟨lw_p46, List.forall_mem_cons.mpr ⟨lw_p47, fun _ h => absurd h List.not_mem_nil⟩⟩⟩⟩⟩⟩⟩⟩⟩⟩⟩⟩⟩⟩⟩⟩
theorem lw_p48 : lw_okq (⟨"DutyDeskModel", "isFixed", "(I)Z"⟩, 25) := ⟨⟨by decide +kernel, by decide +kernel⟩, List.mem_of_getElem? (i := 745) (by decide +kernel), List.mem_of_getElem? (i := 900) (by decide +kernel), List.mem_of_getElem? (i := 901) (by decide +kernel)⟩
theorem lw_p49 : lw_okq (⟨"DutyDeskModel", "hasDeparture", "(II)Z"⟩, 25) := ⟨⟨by decide +kernel, by decide +kernel⟩, List.mem_of_getElem? (i := 745) (by decide +kernel), List.mem_of_getElem? (i := 904) (by decide +kernel), List.mem_of_getElem? (i := 905) (by decide +kernel)⟩
theorem lw_p50 : lw_okq (⟨"DutyDeskModel", "told", "(II)I"⟩, 25) := ⟨⟨by decide +kernel, by decide +kernel⟩, List.mem_of_getElem? (i := 745) (by decide +kernel), List.mem_of_getElem? (i := 916) (by decide +kernel), List.mem_of_getElem? (i := 917) (by decide +kernel)⟩
theorem lw_p51 : lw_okq (⟨"DutyDeskModel", "best", "(I)I"⟩, 25) := ⟨⟨by decide +kernel, by decide +kernel⟩, List.mem_of_getElem? (i := 745) (by decide +kernel), List.mem_of_getElem? (i := 928) (by decide +kernel), List.mem_of_getElem? (i := 929) (by decide +kernel)⟩
theorem lw_p52 : lw_okq (⟨"DutyDeskModel", "payOf", "(I)I"⟩, 25) := ⟨⟨by decide +kernel, by decide +kernel⟩, List.mem_of_getElem? (i := 745) (by decide +kernel), List.mem_of_getElem? (i := 932) (by decide +kernel), List.mem_of_getElem? (i := 933) (by decide +kernel)⟩
theorem lw_p53 : lw_okq (⟨"DutyDeskModel", "place", "(I)V"⟩, 25) := ⟨⟨by decide +kernel, by decide +kernel⟩, List.mem_of_getElem? (i := 745) (by decide +kernel), List.mem_of_getElem? (i := 940) (by decide +kernel), List.mem_of_getElem? (i := 941) (by decide +kernel)⟩
theorem lw_p54 : lw_okq (⟨"DutyDeskModel", "canExchange", "(III)Z"⟩, 25) := ⟨⟨by decide +kernel, by decide +kernel⟩, List.mem_of_getElem? (i := 745) (by decide +kernel), List.mem_of_getElem? (i := 949) (by decide +kernel), List.mem_of_getElem? (i := 950) (by decide +kernel)⟩
theorem lw_p55 : lw_okq (⟨"DutyDeskModel", "exchange", "(III)V"⟩, 25) := ⟨⟨by decide +kernel, by decide +kernel⟩, List.mem_of_getElem? (i := 745) (by decide +kernel), List.mem_of_getElem? (i := 953) (by decide +kernel), List.mem_of_getElem? (i := 954) (by decide +kernel)⟩
theorem lw_p56 : lw_okq (⟨"DutyDeskModel", "allPay", "()I"⟩, 25) := ⟨⟨by decide +kernel, by decide +kernel⟩, List.mem_of_getElem? (i := 745) (by decide +kernel), List.mem_of_getElem? (i := 965) (by decide +kernel), List.mem_of_getElem? (i := 966) (by decide +kernel)⟩
theorem lw_p57 : lw_okq (⟨"DutyDeskModel", "isDriver", "(I)Z"⟩, 25) := ⟨⟨by decide +kernel, by decide +kernel⟩, List.mem_of_getElem? (i := 745) (by decide +kernel), List.mem_of_getElem? (i := 981) (by decide +kernel), List.mem_of_getElem? (i := 982) (by decide +kernel)⟩
theorem lw_p58 : lw_okq (⟨"DutyDeskModel", "reasonFor", "(III)I"⟩, 25) := ⟨⟨by decide +kernel, by decide +kernel⟩, List.mem_of_getElem? (i := 745) (by decide +kernel), List.mem_of_getElem? (i := 988) (by decide +kernel), List.mem_of_getElem? (i := 989) (by decide +kernel)⟩
theorem lw_p59 : lw_okq (⟨"DutyDeskModel", "isTaken", "(II)Z"⟩, 25) := ⟨⟨by decide +kernel, by decide +kernel⟩, List.mem_of_getElem? (i := 745) (by decide +kernel), List.mem_of_getElem? (i := 992) (by decide +kernel), List.mem_of_getElem? (i := 993) (by decide +kernel)⟩
theorem lw_p60 : lw_okq (⟨"DutyDeskModel", "at", "(II)I"⟩, 25) := ⟨⟨by decide +kernel, by decide +kernel⟩, List.mem_of_getElem? (i := 745) (by decide +kernel), List.mem_of_getElem? (i := 996) (by decide +kernel), List.mem_of_getElem? (i := 997) (by decide +kernel)⟩
theorem lw_p61 : lw_okq (⟨"DutyDeskModel", "longest", "(II)I"⟩, 25) := ⟨⟨by decide +kernel, by decide +kernel⟩, List.mem_of_getElem? (i := 745) (by decide +kernel), List.mem_of_getElem? (i := 1000) (by decide +kernel), List.mem_of_getElem? (i := 1001) (by decide +kernel)⟩
theorem lw_p62 : lw_okq (⟨"DutyDeskModel", "weekOf", "(I)I"⟩, 25) := ⟨⟨by decide +kernel, by decide +kernel⟩, List.mem_of_getElem? (i := 745) (by decide +kernel), List.mem_of_getElem? (i := 1004) (by decide +kernel), List.mem_of_getElem? (i := 1005) (by decide +kernel)⟩
theorem lw_p63 : lw_okq (⟨"DutyDeskModel", "hasRest", "(III)Z"⟩, 25) := ⟨⟨by decide +kernel, by decide +kernel⟩, List.mem_of_getElem? (i := 745) (by decide +kernel), List.mem_of_getElem? (i := 1008) (by decide +kernel), List.mem_of_getElem? (i := 1009) (by decide +kernel)⟩
def lw_privs_4 : List (MethodName × Nat) := [(⟨"DutyDeskModel", "isFixed", "(I)Z"⟩, 25), (⟨"DutyDeskModel", "hasDeparture", "(II)Z"⟩, 25), (⟨"DutyDeskModel", "told", "(II)I"⟩, 25), (⟨"DutyDeskModel", "best", "(I)I"⟩, 25), (⟨"DutyDeskModel", "payOf", "(I)I"⟩, 25), (⟨"DutyDeskModel", "place", "(I)V"⟩, 25), (⟨"DutyDeskModel", "canExchange", "(III)Z"⟩, 25), (⟨"DutyDeskModel", "exchange", "(III)V"⟩, 25), (⟨"DutyDeskModel", "allPay", "()I"⟩, 25), (⟨"DutyDeskModel", "isDriver", "(I)Z"⟩, 25), (⟨"DutyDeskModel", "reasonFor", "(III)I"⟩, 25), (⟨"DutyDeskModel", "isTaken", "(II)Z"⟩, 25), (⟨"DutyDeskModel", "at", "(II)I"⟩, 25), (⟨"DutyDeskModel", "longest", "(II)I"⟩, 25), (⟨"DutyDeskModel", "weekOf", "(I)I"⟩, 25), (⟨"DutyDeskModel", "hasRest", "(III)Z"⟩, 25)]
theorem lw_r4 : ∀ q ∈ lw_privs_4, lw_okq q := List.forall_mem_cons.mpr ⟨lw_p48, List.forall_mem_cons.mpr ⟨lw_p49, List.forall_mem_cons.mpr ⟨lw_p50, List.forall_mem_cons.mpr ⟨lw_p51, List.forall_mem_cons.mpr ⟨lw_p52, List.forall_mem_cons.mpr ⟨lw_p53, List.forall_mem_cons.mpr ⟨lw_p54, List.forall_mem_cons.mpr ⟨lw_p55, List.forall_mem_cons.mpr ⟨lw_p56, List.forall_mem_cons.mpr ⟨lw_p57, List.forall_mem_cons.mpr ⟨lw_p58, List.forall_mem_cons.mpr ⟨lw_p59, List.forall_mem_cons.mpr ⟨lw_p60, List.forall_mem_cons.mpr ⟨lw_p61, List.forall_mem_cons.mpr ⟨lw_p62, List.forall_mem_cons.mpr ⟨lw_p63, fun _ h => absurd h List.not_mem_nil⟩⟩⟩⟩⟩⟩⟩⟩⟩⟩⟩⟩⟩⟩⟩⟩
theorem lw_p64 : lw_okq (⟨"DutyDeskModel", "between", "(II)I"⟩, 25) := ⟨⟨by decide +kernel, by decide +kernel⟩, List.mem_of_getElem? (i := 745) (by decide +kernel), List.mem_of_getElem? (i := 1012) (by decide +kernel), List.mem_of_getElem? (i := 1013) (by decide +kernel)⟩
def lw_privs_5 : List (MethodName × Nat) := [(⟨"DutyDeskModel", "between", "(II)I"⟩, 25)]
theorem lw_r5 : ∀ q ∈ lw_privs_5, lw_okq q := List.forall_mem_cons.mpr ⟨lw_p64, fun _ h => absurd h List.not_mem_nil⟩
def lw_privs : List (MethodName × Nat) := lw_privs_1 ++ (lw_privs_2 ++ (lw_privs_3 ++ (lw_privs_4 ++ (lw_privs_5))))
def lw_tbl : List Cond := k2_sels lw_privs ++ tables_1
theorem lw_privs_ok : ∀ q ∈ lw_privs, lw_okq q := by
  show ∀ q ∈ lw_privs_1 ++ (lw_privs_2 ++ (lw_privs_3 ++ (lw_privs_4 ++ (lw_privs_5)))), lw_okq q
  exact List.forall_mem_append.mpr ⟨lw_r1, List.forall_mem_append.mpr ⟨lw_r2, List.forall_mem_append.mpr ⟨lw_r3, List.forall_mem_append.mpr ⟨lw_r4, lw_r5⟩⟩⟩⟩
/-- the streams that the claim lets the run draw from -/
abbrev lw_cs : List Choice := [Jvm.Choice.named "NaN.bits"]
theorem lw_bits : nanBits ∈ lw_cs := by first | decide | exact List.mem_cons_self | simp [lw_cs, nanBits]
def RX0 : String := "DutyDesk$Duty"
def TX0 : u_T := fun k => match k with
  | 0 => ("DutyDesk$Duty", "trips", "[I", true)
  | 1 => ("DutyDesk$Duty", "size", "I", false)
  | 2 => ("DutyDesk$Duty", "begin", "I", false)
  | 3 => ("DutyDesk$Duty", "end", "I", false)
  | 4 => ("DutyDesk$Duty", "work", "I", false)
  | 5 => ("DutyDesk$Duty", "pay", "I", false)
  | 6 => ("DutyDesk$Duty", "breaks", "I", false)
  | 7 => ("DutyDesk$Duty", "mostDriving", "I", false)
  | _ => ("DutyDesk$Duty", "right", "Z", false)
def tyX0 : Nat → FieldType := fun k => match k with
  | 0 => .array .int
  | 1 => .int
  | 2 => .int
  | 3 => .int
  | 4 => .int
  | 5 => .int
  | 6 => .int
  | 7 => .int
  | _ => .boolean
abbrev wsX00 : List Cond := u_ws RX0 TX0 9
theorem nmX0 : ∀ a, a < 9 → ∀ b, b < 9 → a ≠ b → (TX0 a).2.1 ≠ (TX0 b).2.1 := by decide +kernel
theorem tyX0_ok : ∀ k, k < 9 → parseFieldDescriptor (TX0 k).2.2.1 = some (tyX0 k) := by decide +kernel
abbrev cX0_init : ByteArray := prog_2_method_1_code
def yX0_init : MethodName := ⟨RX0, "<init>", "()V"⟩
abbrev cX0_tripIn : ByteArray := prog_2_method_2_code
def yX0_tripIn : MethodName := ⟨RX0, "tripIn", "(I)I"⟩
abbrev cX0_placeOf : ByteArray := prog_2_method_3_code
def yX0_placeOf : MethodName := ⟨RX0, "placeOf", "(I)I"⟩
abbrev cX0_append : ByteArray := prog_2_method_4_code
def yX0_append : MethodName := ⟨RX0, "append", "(I)V"⟩
abbrev cX0_insert : ByteArray := prog_2_method_5_code
def yX0_insert : MethodName := ⟨RX0, "insert", "(ILDutyDesk$Timetable;)Z"⟩
abbrev cX0_copy : ByteArray := prog_2_method_6_code
def yX0_copy : MethodName := ⟨RX0, "copy", "(LDutyDesk$Duty;)V"⟩
abbrev cX0_copyWithout : ByteArray := prog_2_method_7_code
def yX0_copyWithout : MethodName := ⟨RX0, "copyWithout", "(LDutyDesk$Duty;I)V"⟩
abbrev cX0_join : ByteArray := prog_2_method_8_code
def yX0_join : MethodName := ⟨RX0, "join", "(LDutyDesk$Duty;LDutyDesk$Duty;ILDutyDesk$Timetable;)V"⟩
abbrev cX0_measure : ByteArray := prog_2_method_9_code
def yX0_measure : MethodName := ⟨RX0, "measure", "(LDutyDesk$Timetable;LDutyDesk$Rules;)V"⟩
abbrev cX0_measureSpread : ByteArray := prog_2_method_10_code
def yX0_measureSpread : MethodName := ⟨RX0, "measureSpread", "(LDutyDesk$Timetable;)V"⟩
abbrev cX0_measureStretches : ByteArray := prog_2_method_11_code
def yX0_measureStretches : MethodName := ⟨RX0, "measureStretches", "(LDutyDesk$Timetable;LDutyDesk$Rules;)V"⟩
abbrev cX0_endStretch : ByteArray := prog_2_method_12_code
def yX0_endStretch : MethodName := ⟨RX0, "endStretch", "(I)V"⟩
abbrev cX0_payFor : ByteArray := prog_2_method_13_code
def yX0_payFor : MethodName := ⟨RX0, "payFor", "(I)I"⟩
def RX1 : String := "DutyDesk$Exchange"
def TX1 : u_T := fun k => match k with
  | 0 => ("DutyDesk$Exchange", "first", "I", false)
  | 1 => ("DutyDesk$Exchange", "second", "I", false)
  | 2 => ("DutyDesk$Exchange", "time", "I", false)
  | _ => ("DutyDesk$Exchange", "change", "I", false)
def tyX1 : Nat → FieldType := fun k => match k with
  | 0 => .int
  | 1 => .int
  | 2 => .int
  | _ => .int
abbrev wsX10 : List Cond := u_ws RX1 TX1 4
theorem nmX1 : ∀ a, a < 4 → ∀ b, b < 4 → a ≠ b → (TX1 a).2.1 ≠ (TX1 b).2.1 := by decide +kernel
theorem tyX1_ok : ∀ k, k < 4 → parseFieldDescriptor (TX1 k).2.2.1 = some (tyX1 k) := by decide +kernel
abbrev cX1_init : ByteArray := prog_3_method_1_code
def yX1_init : MethodName := ⟨RX1, "<init>", "()V"⟩
abbrev cX1_clear : ByteArray := prog_3_method_2_code
def yX1_clear : MethodName := ⟨RX1, "clear", "()V"⟩
abbrev cX1_offer : ByteArray := prog_3_method_3_code
def yX1_offer : MethodName := ⟨RX1, "offer", "(IIII)V"⟩
def RX2 : String := "DutyDesk$Queue"
def TX2 : u_T := fun k => match k with
  | 0 => ("DutyDesk$Queue", "keys", "[I", true)
  | 1 => ("DutyDesk$Queue", "numbers", "[I", true)
  | _ => ("DutyDesk$Queue", "size", "I", false)
def tyX2 : Nat → FieldType := fun k => match k with
  | 0 => .array .int
  | 1 => .array .int
  | _ => .int
abbrev wsX20 : List Cond := u_ws RX2 TX2 3
theorem nmX2 : ∀ a, a < 3 → ∀ b, b < 3 → a ≠ b → (TX2 a).2.1 ≠ (TX2 b).2.1 := by decide +kernel
theorem tyX2_ok : ∀ k, k < 3 → parseFieldDescriptor (TX2 k).2.2.1 = some (tyX2 k) := by decide +kernel
abbrev cX2_init : ByteArray := prog_4_method_1_code
def yX2_init : MethodName := ⟨RX2, "<init>", "()V"⟩
abbrev cX2_clear : ByteArray := prog_4_method_2_code
def yX2_clear : MethodName := ⟨RX2, "clear", "()V"⟩
abbrev cX2_numberIn : ByteArray := prog_4_method_3_code
def yX2_numberIn : MethodName := ⟨RX2, "numberIn", "(I)I"⟩
abbrev cX2_insert : ByteArray := prog_4_method_4_code
def yX2_insert : MethodName := ⟨RX2, "insert", "(II)V"⟩
def RX3 : String := "DutyDesk$Rules"
def TX3 : u_T := fun k => match k with
  | 0 => ("DutyDesk$Rules", "drivingLimit", "I", false)
  | 1 => ("DutyDesk$Rules", "spreadLimit", "I", false)
  | 2 => ("DutyDesk$Rules", "leastBreak", "I", false)
  | _ => ("DutyDesk$Rules", "leastRest", "I", false)
def tyX3 : Nat → FieldType := fun k => match k with
  | 0 => .int
  | 1 => .int
  | 2 => .int
  | _ => .int
abbrev wsX30 : List Cond := u_ws RX3 TX3 4
theorem nmX3 : ∀ a, a < 4 → ∀ b, b < 4 → a ≠ b → (TX3 a).2.1 ≠ (TX3 b).2.1 := by decide +kernel
theorem tyX3_ok : ∀ k, k < 4 → parseFieldDescriptor (TX3 k).2.2.1 = some (tyX3 k) := by decide +kernel
abbrev cX3_init : ByteArray := prog_5_method_1_code
def yX3_init : MethodName := ⟨RX3, "<init>", "()V"⟩
def RX4 : String := "DutyDesk$Timetable"
def TX4 : u_T := fun k => match k with
  | 0 => ("DutyDesk$Timetable", "ways", "[[I", true)
  | 1 => ("DutyDesk$Timetable", "from", "[I", true)
  | 2 => ("DutyDesk$Timetable", "to", "[I", true)
  | 3 => ("DutyDesk$Timetable", "departure", "[I", true)
  | 4 => ("DutyDesk$Timetable", "arrival", "[I", true)
  | _ => ("DutyDesk$Timetable", "size", "I", false)
def tyX4 : Nat → FieldType := fun k => match k with
  | 0 => .array (.array .int)
  | 1 => .array .int
  | 2 => .array .int
  | 3 => .array .int
  | 4 => .array .int
  | _ => .int
abbrev wsX40 : List Cond := u_ws RX4 TX4 6
theorem nmX4 : ∀ a, a < 6 → ∀ b, b < 6 → a ≠ b → (TX4 a).2.1 ≠ (TX4 b).2.1 := by decide +kernel
theorem tyX4_ok : ∀ k, k < 6 → parseFieldDescriptor (TX4 k).2.2.1 = some (tyX4 k) := by decide +kernel
abbrev cX4_init : ByteArray := prog_6_method_1_code
def yX4_init : MethodName := ⟨RX4, "<init>", "()V"⟩
abbrev cX4_wayFrom : ByteArray := prog_6_method_2_code
def yX4_wayFrom : MethodName := ⟨RX4, "wayFrom", "(II)I"⟩
abbrev cX4_changeWay : ByteArray := prog_6_method_3_code
def yX4_changeWay : MethodName := ⟨RX4, "changeWay", "(III)V"⟩
abbrev cX4_append : ByteArray := prog_6_method_4_code
def yX4_append : MethodName := ⟨RX4, "append", "(IIII)I"⟩
abbrev cX4_fromOf : ByteArray := prog_6_method_5_code
def yX4_fromOf : MethodName := ⟨RX4, "fromOf", "(I)I"⟩
abbrev cX4_toOf : ByteArray := prog_6_method_6_code
def yX4_toOf : MethodName := ⟨RX4, "toOf", "(I)I"⟩
abbrev cX4_departureOf : ByteArray := prog_6_method_7_code
def yX4_departureOf : MethodName := ⟨RX4, "departureOf", "(I)I"⟩
abbrev cX4_arrivalOf : ByteArray := prog_6_method_8_code
def yX4_arrivalOf : MethodName := ⟨RX4, "arrivalOf", "(I)I"⟩
abbrev cX4_minutesOf : ByteArray := prog_6_method_9_code
def yX4_minutesOf : MethodName := ⟨RX4, "minutesOf", "(I)I"⟩
def RX5 : String := "DutyDesk"
def TX5 : u_T := fun k => match k with
  | 0 => ("DutyDesk", "table", "LDutyDesk$Timetable;", true)
  | 1 => ("DutyDesk", "rules", "LDutyDesk$Rules;", true)
  | 2 => ("DutyDesk", "duties", "[LDutyDesk$Duty;", true)
  | 3 => ("DutyDesk", "dutyOfTrip", "[I", true)
  | 4 => ("DutyDesk", "roster", "[[I", true)
  | 5 => ("DutyDesk", "dutyCount", "I", false)
  | 6 => ("DutyDesk", "driverCount", "I", false)
  | 7 => ("DutyDesk", "trial", "LDutyDesk$Duty;", true)
  | 8 => ("DutyDesk", "otherTrial", "LDutyDesk$Duty;", true)
  | 9 => ("DutyDesk", "queue", "LDutyDesk$Queue;", true)
  | 10 => ("DutyDesk", "best", "LDutyDesk$Exchange;", true)
  | _ => ("DutyDesk", "noDuty", "LDutyDesk$Duty;", true)
def tyX5 : Nat → FieldType := fun k => match k with
  | 0 => .object "DutyDesk$Timetable"
  | 1 => .object "DutyDesk$Rules"
  | 2 => .array (.object "DutyDesk$Duty")
  | 3 => .array .int
  | 4 => .array (.array .int)
  | 5 => .int
  | 6 => .int
  | 7 => .object "DutyDesk$Duty"
  | 8 => .object "DutyDesk$Duty"
  | 9 => .object "DutyDesk$Queue"
  | 10 => .object "DutyDesk$Exchange"
  | _ => .object "DutyDesk$Duty"
abbrev wsX50 : List Cond := u_ws RX5 TX5 12
theorem nmX5 : ∀ a, a < 12 → ∀ b, b < 12 → a ≠ b → (TX5 a).2.1 ≠ (TX5 b).2.1 := by decide +kernel
theorem tyX5_ok : ∀ k, k < 12 → parseFieldDescriptor (TX5 k).2.2.1 = some (tyX5 k) := by decide +kernel
abbrev cX5_init : ByteArray := prog_1_method_1_code
def yX5_init : MethodName := ⟨RX5, "<init>", "()V"⟩
abbrev cX5_setWay : ByteArray := prog_1_method_2_code
def yX5_setWay : MethodName := ⟨RX5, "setWay", "(III)I"⟩
abbrev cX5_addTrip : ByteArray := prog_1_method_3_code
def yX5_addTrip : MethodName := ⟨RX5, "addTrip", "(IIII)I"⟩
abbrev cX5_trip : ByteArray := prog_1_method_4_code
def yX5_trip : MethodName := ⟨RX5, "trip", "(II)I"⟩
abbrev cX5_setRules : ByteArray := prog_1_method_5_code
def yX5_setRules : MethodName := ⟨RX5, "setRules", "(IIII)I"⟩
abbrev cX5_count : ByteArray := prog_1_method_6_code
def yX5_count : MethodName := ⟨RX5, "count", "(I)I"⟩
abbrev cX5_addDuty : ByteArray := prog_1_method_7_code
def yX5_addDuty : MethodName := ⟨RX5, "addDuty", "()I"⟩
abbrev cX5_put : ByteArray := prog_1_method_8_code
def yX5_put : MethodName := ⟨RX5, "put", "(II)I"⟩
abbrev cX5_takeOut : ByteArray := prog_1_method_9_code
def yX5_takeOut : MethodName := ⟨RX5, "takeOut", "(I)I"⟩
abbrev cX5_duty : ByteArray := prog_1_method_10_code
def yX5_duty : MethodName := ⟨RX5, "duty", "(II)I"⟩
abbrev cX5_tripAt : ByteArray := prog_1_method_11_code
def yX5_tripAt : MethodName := ⟨RX5, "tripAt", "(II)I"⟩
abbrev cX5_bestFor : ByteArray := prog_1_method_12_code
def yX5_bestFor : MethodName := ⟨RX5, "bestFor", "(I)I"⟩
abbrev cX5_plan : ByteArray := prog_1_method_13_code
def yX5_plan : MethodName := ⟨RX5, "plan", "()I"⟩
abbrev cX5_swap : ByteArray := prog_1_method_14_code
def yX5_swap : MethodName := ⟨RX5, "swap", "(III)I"⟩
abbrev cX5_improve : ByteArray := prog_1_method_15_code
def yX5_improve : MethodName := ⟨RX5, "improve", "()I"⟩
abbrev cX5_pay : ByteArray := prog_1_method_16_code
def yX5_pay : MethodName := ⟨RX5, "pay", "()I"⟩
abbrev cX5_use : ByteArray := prog_1_method_17_code
def yX5_use : MethodName := ⟨RX5, "use", "()D"⟩
abbrev cX5_addDriver : ByteArray := prog_1_method_18_code
def yX5_addDriver : MethodName := ⟨RX5, "addDriver", "()I"⟩
abbrev cX5_reason : ByteArray := prog_1_method_19_code
def yX5_reason : MethodName := ⟨RX5, "reason", "(III)I"⟩
abbrev cX5_give : ByteArray := prog_1_method_20_code
def yX5_give : MethodName := ⟨RX5, "give", "(III)I"⟩
abbrev cX5_takeBack : ByteArray := prog_1_method_21_code
def yX5_takeBack : MethodName := ⟨RX5, "takeBack", "(II)I"⟩
abbrev cX5_given : ByteArray := prog_1_method_22_code
def yX5_given : MethodName := ⟨RX5, "given", "(II)I"⟩
abbrev cX5_fill : ByteArray := prog_1_method_23_code
def yX5_fill : MethodName := ⟨RX5, "fill", "(I)I"⟩
abbrev cX5_week : ByteArray := prog_1_method_24_code
def yX5_week : MethodName := ⟨RX5, "week", "(I)I"⟩
abbrev cX5_rest : ByteArray := prog_1_method_25_code
def yX5_rest : MethodName := ⟨RX5, "rest", "(II)I"⟩
abbrev cX5_digest : ByteArray := prog_1_method_26_code
def yX5_digest : MethodName := ⟨RX5, "digest", "()J"⟩
abbrev cX5_isPoint : ByteArray := prog_1_method_27_code
def yX5_isPoint : MethodName := ⟨RX5, "isPoint", "(I)Z"⟩
abbrev cX5_isDay : ByteArray := prog_1_method_28_code
def yX5_isDay : MethodName := ⟨RX5, "isDay", "(I)Z"⟩
abbrev cX5_areTimesOfTrip : ByteArray := prog_1_method_29_code
def yX5_areTimesOfTrip : MethodName := ⟨RX5, "areTimesOfTrip", "(II)Z"⟩
abbrev cX5_isTrip : ByteArray := prog_1_method_30_code
def yX5_isTrip : MethodName := ⟨RX5, "isTrip", "(I)Z"⟩
abbrev cX5_isDuty : ByteArray := prog_1_method_31_code
def yX5_isDuty : MethodName := ⟨RX5, "isDuty", "(I)Z"⟩
abbrev cX5_isDriver : ByteArray := prog_1_method_32_code
def yX5_isDriver : MethodName := ⟨RX5, "isDriver", "(I)Z"⟩
abbrev cX5_dutyAt : ByteArray := prog_1_method_33_code
def yX5_dutyAt : MethodName := ⟨RX5, "dutyAt", "(I)LDutyDesk$Duty;"⟩
abbrev cX5_dutyOf : ByteArray := prog_1_method_34_code
def yX5_dutyOf : MethodName := ⟨RX5, "dutyOf", "(I)I"⟩
abbrev cX5_assign : ByteArray := prog_1_method_35_code
def yX5_assign : MethodName := ⟨RX5, "assign", "(II)V"⟩
abbrev cX5_tripFact : ByteArray := prog_1_method_36_code
def yX5_tripFact : MethodName := ⟨RX5, "tripFact", "(II)I"⟩
abbrev cX5_dutyFact : ByteArray := prog_1_method_37_code
def yX5_dutyFact : MethodName := ⟨RX5, "dutyFact", "(II)I"⟩
abbrev cX5_freeTrips : ByteArray := prog_1_method_38_code
def yX5_freeTrips : MethodName := ⟨RX5, "freeTrips", "()I"⟩
abbrev cX5_wrongDuties : ByteArray := prog_1_method_39_code
def yX5_wrongDuties : MethodName := ⟨RX5, "wrongDuties", "()I"⟩
abbrev cX5_measureDuties : ByteArray := prog_1_method_40_code
def yX5_measureDuties : MethodName := ⟨RX5, "measureDuties", "()V"⟩
abbrev cX5_tryPut : ByteArray := prog_1_method_41_code
def yX5_tryPut : MethodName := ⟨RX5, "tryPut", "(II)Z"⟩
abbrev cX5_keepPut : ByteArray := prog_1_method_42_code
def yX5_keepPut : MethodName := ⟨RX5, "keepPut", "(II)V"⟩
abbrev cX5_tryWithout : ByteArray := prog_1_method_43_code
def yX5_tryWithout : MethodName := ⟨RX5, "tryWithout", "(II)Z"⟩
abbrev cX5_cheapestDuty : ByteArray := prog_1_method_44_code
def yX5_cheapestDuty : MethodName := ⟨RX5, "cheapestDuty", "(I)I"⟩
abbrev cX5_planTrip : ByteArray := prog_1_method_45_code
def yX5_planTrip : MethodName := ⟨RX5, "planTrip", "(I)V"⟩
abbrev cX5_tryExchange : ByteArray := prog_1_method_46_code
def yX5_tryExchange : MethodName := ⟨RX5, "tryExchange", "(III)Z"⟩
abbrev cX5_changeOfPay : ByteArray := prog_1_method_47_code
def yX5_changeOfPay : MethodName := ⟨RX5, "changeOfPay", "(II)I"⟩
abbrev cX5_keepExchange : ByteArray := prog_1_method_48_code
def yX5_keepExchange : MethodName := ⟨RX5, "keepExchange", "(II)V"⟩
abbrev cX5_assignTripsOf : ByteArray := prog_1_method_49_code
def yX5_assignTripsOf : MethodName := ⟨RX5, "assignTripsOf", "(I)V"⟩
abbrev cX5_weighPairsOf : ByteArray := prog_1_method_50_code
def yX5_weighPairsOf : MethodName := ⟨RX5, "weighPairsOf", "(I)V"⟩
abbrev cX5_weighTimesOf : ByteArray := prog_1_method_51_code
def yX5_weighTimesOf : MethodName := ⟨RX5, "weighTimesOf", "(III)V"⟩
abbrev cX5_dutyOn : ByteArray := prog_1_method_52_code
def yX5_dutyOn : MethodName := ⟨RX5, "dutyOn", "(II)I"⟩
abbrev cX5_enter : ByteArray := prog_1_method_53_code
def yX5_enter : MethodName := ⟨RX5, "enter", "(III)V"⟩
abbrev cX5_isHadOn : ByteArray := prog_1_method_54_code
def yX5_isHadOn : MethodName := ⟨RX5, "isHadOn", "(II)Z"⟩
abbrev cX5_isFixed : ByteArray := prog_1_method_55_code
def yX5_isFixed : MethodName := ⟨RX5, "isFixed", "(I)Z"⟩
abbrev cX5_isOpenOn : ByteArray := prog_1_method_56_code
def yX5_isOpenOn : MethodName := ⟨RX5, "isOpenOn", "(II)Z"⟩
abbrev cX5_openDuties : ByteArray := prog_1_method_57_code
def yX5_openDuties : MethodName := ⟨RX5, "openDuties", "(I)I"⟩
abbrev cX5_weekPay : ByteArray := prog_1_method_58_code
def yX5_weekPay : MethodName := ⟨RX5, "weekPay", "(I)I"⟩
abbrev cX5_reasonAgainst : ByteArray := prog_1_method_59_code
def yX5_reasonAgainst : MethodName := ⟨RX5, "reasonAgainst", "(III)I"⟩
abbrev cX5_daysInARow : ByteArray := prog_1_method_60_code
def yX5_daysInARow : MethodName := ⟨RX5, "daysInARow", "(II)I"⟩
abbrev cX5_hasRest : ByteArray := prog_1_method_61_code
def yX5_hasRest : MethodName := ⟨RX5, "hasRest", "(III)Z"⟩
abbrev cX5_restBetween : ByteArray := prog_1_method_62_code
def yX5_restBetween : MethodName := ⟨RX5, "restBetween", "(II)I"⟩
abbrev cX5_fillWith : ByteArray := prog_1_method_63_code
def yX5_fillWith : MethodName := ⟨RX5, "fillWith", "(II)V"⟩
abbrev cX5_cheapestDriver : ByteArray := prog_1_method_64_code
def yX5_cheapestDriver : MethodName := ⟨RX5, "cheapestDriver", "(II)I"⟩
def RX6 : String := "DutyDeskModel"
def TX6 : u_T := fun k => match k with
  | 0 => ("DutyDeskModel", "thrown", "I", false)
  | 1 => ("DutyDeskModel", "ways", "[I", true)
  | 2 => ("DutyDeskModel", "trips", "I", false)
  | 3 => ("DutyDeskModel", "froms", "[I", true)
  | 4 => ("DutyDeskModel", "tos", "[I", true)
  | 5 => ("DutyDeskModel", "departures", "[I", true)
  | 6 => ("DutyDeskModel", "arrivals", "[I", true)
  | 7 => ("DutyDeskModel", "dutyOf", "[I", true)
  | 8 => ("DutyDeskModel", "duties", "I", false)
  | 9 => ("DutyDeskModel", "drivers", "I", false)
  | 10 => ("DutyDeskModel", "given", "[I", true)
  | 11 => ("DutyDeskModel", "drivingLimit", "I", false)
  | 12 => ("DutyDeskModel", "spreadLimit", "I", false)
  | 13 => ("DutyDeskModel", "leastBreak", "I", false)
  | 14 => ("DutyDeskModel", "leastRest", "I", false)
  | 15 => ("DutyDeskModel", "row", "[I", true)
  | 16 => ("DutyDeskModel", "size", "I", false)
  | 17 => ("DutyDeskModel", "begin", "I", false)
  | 18 => ("DutyDeskModel", "end", "I", false)
  | 19 => ("DutyDeskModel", "work", "I", false)
  | 20 => ("DutyDeskModel", "pay", "I", false)
  | 21 => ("DutyDeskModel", "breaks", "I", false)
  | 22 => ("DutyDeskModel", "greatest", "I", false)
  | 23 => ("DutyDeskModel", "isRight", "Z", false)
  | _ => ("DutyDeskModel", "more", "I", false)
def tyX6 : Nat → FieldType := fun k => match k with
  | 0 => .int
  | 1 => .array .int
  | 2 => .int
  | 3 => .array .int
  | 4 => .array .int
  | 5 => .array .int
  | 6 => .array .int
  | 7 => .array .int
  | 8 => .int
  | 9 => .int
  | 10 => .array .int
  | 11 => .int
  | 12 => .int
  | 13 => .int
  | 14 => .int
  | 15 => .array .int
  | 16 => .int
  | 17 => .int
  | 18 => .int
  | 19 => .int
  | 20 => .int
  | 21 => .int
  | 22 => .int
  | 23 => .boolean
  | _ => .int
abbrev wsX60 : List Cond := u_ws RX6 TX6 25
theorem nmX6 : ∀ a, a < 25 → ∀ b, b < 25 → a ≠ b → (TX6 a).2.1 ≠ (TX6 b).2.1 := by decide +kernel
theorem tyX6_ok : ∀ k, k < 25 → parseFieldDescriptor (TX6 k).2.2.1 = some (tyX6 k) := by decide +kernel
abbrev cX6_init : ByteArray := prog_8_method_1_code
def yX6_init : MethodName := ⟨RX6, "<init>", "()V"⟩
abbrev cX6_thrown : ByteArray := prog_8_method_2_code
def yX6_thrown : MethodName := ⟨RX6, "thrown", "()I"⟩
abbrev cX6_no : ByteArray := prog_8_method_3_code
def yX6_no : MethodName := ⟨RX6, "no", "(I)I"⟩
abbrev cX6_isIn : ByteArray := prog_8_method_4_code
def yX6_isIn : MethodName := ⟨RX6, "isIn", "(III)Z"⟩
abbrev cX6_isTrip : ByteArray := prog_8_method_5_code
def yX6_isTrip : MethodName := ⟨RX6, "isTrip", "(I)Z"⟩
abbrev cX6_isDuty : ByteArray := prog_8_method_6_code
def yX6_isDuty : MethodName := ⟨RX6, "isDuty", "(I)Z"⟩
abbrev cX6_isPoint : ByteArray := prog_8_method_7_code
def yX6_isPoint : MethodName := ⟨RX6, "isPoint", "(I)Z"⟩
abbrev cX6_setWay : ByteArray := prog_8_method_8_code
def yX6_setWay : MethodName := ⟨RX6, "setWay", "(III)I"⟩
abbrev cX6_addTrip : ByteArray := prog_8_method_9_code
def yX6_addTrip : MethodName := ⟨RX6, "addTrip", "(IIII)I"⟩
abbrev cX6_trip : ByteArray := prog_8_method_10_code
def yX6_trip : MethodName := ⟨RX6, "trip", "(II)I"⟩
abbrev cX6_setRules : ByteArray := prog_8_method_11_code
def yX6_setRules : MethodName := ⟨RX6, "setRules", "(IIII)I"⟩
abbrev cX6_freeTrips : ByteArray := prog_8_method_12_code
def yX6_freeTrips : MethodName := ⟨RX6, "freeTrips", "()I"⟩
abbrev cX6_count : ByteArray := prog_8_method_13_code
def yX6_count : MethodName := ⟨RX6, "count", "(I)I"⟩
abbrev cX6_way : ByteArray := prog_8_method_14_code
def yX6_way : MethodName := ⟨RX6, "way", "(II)I"⟩
abbrev cX6_sort : ByteArray := prog_8_method_15_code
def yX6_sort : MethodName := ⟨RX6, "sort", "(I)V"⟩
abbrev cX6_look : ByteArray := prog_8_method_16_code
def yX6_look : MethodName := ⟨RX6, "look", "(I)Z"⟩
abbrev cX6_payOf : ByteArray := prog_8_method_17_code
def yX6_payOf : MethodName := ⟨RX6, "payOf", "(I)I"⟩
abbrev cX6_isFixed : ByteArray := prog_8_method_18_code
def yX6_isFixed : MethodName := ⟨RX6, "isFixed", "(I)Z"⟩
abbrev cX6_addDuty : ByteArray := prog_8_method_19_code
def yX6_addDuty : MethodName := ⟨RX6, "addDuty", "()I"⟩
abbrev cX6_hasDeparture : ByteArray := prog_8_method_20_code
def yX6_hasDeparture : MethodName := ⟨RX6, "hasDeparture", "(II)Z"⟩
abbrev cX6_canPut : ByteArray := prog_8_method_21_code
def yX6_canPut : MethodName := ⟨RX6, "canPut", "(II)Z"⟩
abbrev cX6_put : ByteArray := prog_8_method_22_code
def yX6_put : MethodName := ⟨RX6, "put", "(II)I"⟩
abbrev cX6_takeOut : ByteArray := prog_8_method_23_code
def yX6_takeOut : MethodName := ⟨RX6, "takeOut", "(I)I"⟩
abbrev cX6_told : ByteArray := prog_8_method_24_code
def yX6_told : MethodName := ⟨RX6, "told", "(II)I"⟩
abbrev cX6_duty : ByteArray := prog_8_method_25_code
def yX6_duty : MethodName := ⟨RX6, "duty", "(II)I"⟩
abbrev cX6_tripAt : ByteArray := prog_8_method_26_code
def yX6_tripAt : MethodName := ⟨RX6, "tripAt", "(II)I"⟩
abbrev cX6_best : ByteArray := prog_8_method_27_code
def yX6_best : MethodName := ⟨RX6, "best", "(I)I"⟩
abbrev cX6_bestFor : ByteArray := prog_8_method_28_code
def yX6_bestFor : MethodName := ⟨RX6, "bestFor", "(I)I"⟩
abbrev cX6_place : ByteArray := prog_8_method_29_code
def yX6_place : MethodName := ⟨RX6, "place", "(I)V"⟩
abbrev cX6_plan : ByteArray := prog_8_method_30_code
def yX6_plan : MethodName := ⟨RX6, "plan", "()I"⟩
abbrev cX6_exchange : ByteArray := prog_8_method_31_code
def yX6_exchange : MethodName := ⟨RX6, "exchange", "(III)V"⟩
abbrev cX6_canExchange : ByteArray := prog_8_method_32_code
def yX6_canExchange : MethodName := ⟨RX6, "canExchange", "(III)Z"⟩
abbrev cX6_swap : ByteArray := prog_8_method_33_code
def yX6_swap : MethodName := ⟨RX6, "swap", "(III)I"⟩
abbrev cX6_improve : ByteArray := prog_8_method_34_code
def yX6_improve : MethodName := ⟨RX6, "improve", "()I"⟩
abbrev cX6_allPay : ByteArray := prog_8_method_35_code
def yX6_allPay : MethodName := ⟨RX6, "allPay", "()I"⟩
abbrev cX6_pay : ByteArray := prog_8_method_36_code
def yX6_pay : MethodName := ⟨RX6, "pay", "()I"⟩
abbrev cX6_use : ByteArray := prog_8_method_37_code
def yX6_use : MethodName := ⟨RX6, "use", "()D"⟩
abbrev cX6_addDriver : ByteArray := prog_8_method_38_code
def yX6_addDriver : MethodName := ⟨RX6, "addDriver", "()I"⟩
abbrev cX6_isDriver : ByteArray := prog_8_method_39_code
def yX6_isDriver : MethodName := ⟨RX6, "isDriver", "(I)Z"⟩
abbrev cX6_isDay : ByteArray := prog_8_method_40_code
def yX6_isDay : MethodName := ⟨RX6, "isDay", "(I)Z"⟩
abbrev cX6_at : ByteArray := prog_8_method_41_code
def yX6_at : MethodName := ⟨RX6, "at", "(II)I"⟩
abbrev cX6_weekOf : ByteArray := prog_8_method_42_code
def yX6_weekOf : MethodName := ⟨RX6, "weekOf", "(I)I"⟩
abbrev cX6_isTaken : ByteArray := prog_8_method_43_code
def yX6_isTaken : MethodName := ⟨RX6, "isTaken", "(II)Z"⟩
abbrev cX6_longest : ByteArray := prog_8_method_44_code
def yX6_longest : MethodName := ⟨RX6, "longest", "(II)I"⟩
abbrev cX6_between : ByteArray := prog_8_method_45_code
def yX6_between : MethodName := ⟨RX6, "between", "(II)I"⟩
abbrev cX6_hasRest : ByteArray := prog_8_method_46_code
def yX6_hasRest : MethodName := ⟨RX6, "hasRest", "(III)Z"⟩
abbrev cX6_reasonFor : ByteArray := prog_8_method_47_code
def yX6_reasonFor : MethodName := ⟨RX6, "reasonFor", "(III)I"⟩
abbrev cX6_reason : ByteArray := prog_8_method_48_code
def yX6_reason : MethodName := ⟨RX6, "reason", "(III)I"⟩
abbrev cX6_give : ByteArray := prog_8_method_49_code
def yX6_give : MethodName := ⟨RX6, "give", "(III)I"⟩
abbrev cX6_takeBack : ByteArray := prog_8_method_50_code
def yX6_takeBack : MethodName := ⟨RX6, "takeBack", "(II)I"⟩
abbrev cX6_given : ByteArray := prog_8_method_51_code
def yX6_given : MethodName := ⟨RX6, "given", "(II)I"⟩
abbrev cX6_fill : ByteArray := prog_8_method_52_code
def yX6_fill : MethodName := ⟨RX6, "fill", "(I)I"⟩
abbrev cX6_week : ByteArray := prog_8_method_53_code
def yX6_week : MethodName := ⟨RX6, "week", "(I)I"⟩
abbrev cX6_rest : ByteArray := prog_8_method_54_code
def yX6_rest : MethodName := ⟨RX6, "rest", "(II)I"⟩
abbrev cX6_digest : ByteArray := prog_8_method_55_code
def yX6_digest : MethodName := ⟨RX6, "digest", "()J"⟩
def RJ9 : String := "java/lang/Math"
abbrev cJ9_max_7cf53 : ByteArray := prog_13_method_65_code
def yJ9_max_7cf53 : MethodName := ⟨RJ9, "max", "(II)I"⟩
def RL : String := "DutyDeskLaw"
abbrev cL_setWay : ByteArray := method_3_code
def yL_setWay : MethodName := ⟨RL, "setWay", "(LDutyDesk;III[J)I"⟩
abbrev cL_addTrip : ByteArray := method_4_code
def yL_addTrip : MethodName := ⟨RL, "addTrip", "(LDutyDesk;IIII[J)I"⟩
abbrev cL_trip : ByteArray := method_5_code
def yL_trip : MethodName := ⟨RL, "trip", "(LDutyDesk;II[J)I"⟩
abbrev cL_setRules : ByteArray := method_6_code
def yL_setRules : MethodName := ⟨RL, "setRules", "(LDutyDesk;IIII[J)I"⟩
abbrev cL_count : ByteArray := method_7_code
def yL_count : MethodName := ⟨RL, "count", "(LDutyDesk;I[J)I"⟩
abbrev cL_addDuty : ByteArray := method_8_code
def yL_addDuty : MethodName := ⟨RL, "addDuty", "(LDutyDesk;[J)I"⟩
abbrev cL_put : ByteArray := method_9_code
def yL_put : MethodName := ⟨RL, "put", "(LDutyDesk;II[J)I"⟩
abbrev cL_takeOut : ByteArray := method_10_code
def yL_takeOut : MethodName := ⟨RL, "takeOut", "(LDutyDesk;I[J)I"⟩
abbrev cL_duty : ByteArray := method_11_code
def yL_duty : MethodName := ⟨RL, "duty", "(LDutyDesk;II[J)I"⟩
abbrev cL_tripAt : ByteArray := method_12_code
def yL_tripAt : MethodName := ⟨RL, "tripAt", "(LDutyDesk;II[J)I"⟩
abbrev cL_bestFor : ByteArray := method_13_code
def yL_bestFor : MethodName := ⟨RL, "bestFor", "(LDutyDesk;I[J)I"⟩
abbrev cL_swap : ByteArray := method_14_code
def yL_swap : MethodName := ⟨RL, "swap", "(LDutyDesk;III[J)I"⟩
abbrev cL_addDriver : ByteArray := method_15_code
def yL_addDriver : MethodName := ⟨RL, "addDriver", "(LDutyDesk;[J)I"⟩
abbrev cL_reason : ByteArray := method_16_code
def yL_reason : MethodName := ⟨RL, "reason", "(LDutyDesk;III[J)I"⟩
abbrev cL_give : ByteArray := method_17_code
def yL_give : MethodName := ⟨RL, "give", "(LDutyDesk;III[J)I"⟩
abbrev cL_takeBack : ByteArray := method_18_code
def yL_takeBack : MethodName := ⟨RL, "takeBack", "(LDutyDesk;II[J)I"⟩
abbrev cL_given : ByteArray := method_19_code
def yL_given : MethodName := ⟨RL, "given", "(LDutyDesk;II[J)I"⟩
abbrev cL_fill : ByteArray := method_20_code
def yL_fill : MethodName := ⟨RL, "fill", "(LDutyDesk;I[J)I"⟩
abbrev cL_week : ByteArray := method_21_code
def yL_week : MethodName := ⟨RL, "week", "(LDutyDesk;I[J)I"⟩
abbrev cL_rest : ByteArray := method_22_code
def yL_rest : MethodName := ⟨RL, "rest", "(LDutyDesk;II[J)I"⟩
abbrev cL_law : ByteArray := code
def yL_law : MethodName := ⟨RL, "law", "([I)Z"⟩
abbrev vwCl : List vw_C := [(RX0, TX0, 9), (RX1, TX1, 4), (RX2, TX2, 3), (RX3, TX3, 4), (RX4, TX4, 6), (RX5, TX5, 12), (RX6, TX6, 25)]
end
section
theorem dX0_init_0 : decode cX0_init 0 = .ok (.aload_n 0, 1) := by decide +kernel
theorem dX0_init_1 : decode cX0_init 1 = .ok (.invokespecial 3, 3) := by decide +kernel
theorem dX0_init_4 : decode cX0_init 4 = .ok (.aload_n 0, 1) := by decide +kernel
theorem dX0_init_5 : decode cX0_init 5 = .ok (.bipush 40, 2) := by decide +kernel
theorem dX0_init_7 : decode cX0_init 7 = .ok (.newarray .int, 2) := by decide +kernel
theorem dX0_init_9 : decode cX0_init 9 = .ok (.putfield 9, 3) := by decide +kernel
theorem dX0_init_12 : decode cX0_init 12 = .ok (.aload_n 0, 1) := by decide +kernel
theorem dX0_init_13 : decode cX0_init 13 = .ok (.iconst 1, 1) := by decide +kernel
theorem dX0_init_14 : decode cX0_init 14 = .ok (.putfield 15, 3) := by decide +kernel
theorem dX0_init_17 : decode cX0_init 17 = .ok (.return_, 1) := by decide +kernel
theorem dX0_tripIn_0 : decode cX0_tripIn 0 = .ok (.iload_n 1, 1) := by decide +kernel
theorem dX0_tripIn_1 : decode cX0_tripIn 1 = .ok (.ifCond .lt 21, 3) := by decide +kernel
theorem dX0_tripIn_4 : decode cX0_tripIn 4 = .ok (.iload_n 1, 1) := by decide +kernel
theorem dX0_tripIn_5 : decode cX0_tripIn 5 = .ok (.aload_n 0, 1) := by decide +kernel
theorem dX0_tripIn_6 : decode cX0_tripIn 6 = .ok (.getfield 9, 3) := by decide +kernel
theorem dX0_tripIn_9 : decode cX0_tripIn 9 = .ok (.arraylength, 1) := by decide +kernel
theorem dX0_tripIn_10 : decode cX0_tripIn 10 = .ok (.if_icmp .ge 12, 3) := by decide +kernel
theorem dX0_tripIn_13 : decode cX0_tripIn 13 = .ok (.aload_n 0, 1) := by decide +kernel
theorem dX0_tripIn_14 : decode cX0_tripIn 14 = .ok (.getfield 9, 3) := by decide +kernel
theorem dX0_tripIn_17 : decode cX0_tripIn 17 = .ok (.iload_n 1, 1) := by decide +kernel
theorem dX0_tripIn_18 : decode cX0_tripIn 18 = .ok (.iaload, 1) := by decide +kernel
theorem dX0_tripIn_19 : decode cX0_tripIn 19 = .ok (.goto 4, 3) := by decide +kernel
theorem dX0_tripIn_22 : decode cX0_tripIn 22 = .ok (.iconst (-1), 1) := by decide +kernel
theorem dX0_tripIn_23 : decode cX0_tripIn 23 = .ok (.ireturn, 1) := by decide +kernel
theorem dX0_placeOf_0 : decode cX0_placeOf 0 = .ok (.iconst 0, 1) := by decide +kernel
theorem dX0_placeOf_1 : decode cX0_placeOf 1 = .ok (.istore_n 2, 1) := by decide +kernel
theorem dX0_placeOf_2 : decode cX0_placeOf 2 = .ok (.iload_n 2, 1) := by decide +kernel
theorem dX0_placeOf_3 : decode cX0_placeOf 3 = .ok (.aload_n 0, 1) := by decide +kernel
theorem dX0_placeOf_4 : decode cX0_placeOf 4 = .ok (.getfield 19, 3) := by decide +kernel
theorem dX0_placeOf_7 : decode cX0_placeOf 7 = .ok (.if_icmp .ge 20, 3) := by decide +kernel
theorem dX0_placeOf_10 : decode cX0_placeOf 10 = .ok (.aload_n 0, 1) := by decide +kernel
theorem dX0_placeOf_11 : decode cX0_placeOf 11 = .ok (.iload_n 2, 1) := by decide +kernel
theorem dX0_placeOf_12 : decode cX0_placeOf 12 = .ok (.invokevirtual 23, 3) := by decide +kernel
theorem dX0_placeOf_15 : decode cX0_placeOf 15 = .ok (.iload_n 1, 1) := by decide +kernel
theorem dX0_placeOf_16 : decode cX0_placeOf 16 = .ok (.if_icmp .ne 5, 3) := by decide +kernel
theorem dX0_placeOf_19 : decode cX0_placeOf 19 = .ok (.iload_n 2, 1) := by decide +kernel
theorem dX0_placeOf_20 : decode cX0_placeOf 20 = .ok (.ireturn, 1) := by decide +kernel
theorem dX0_placeOf_21 : decode cX0_placeOf 21 = .ok (.iinc 2 1, 3) := by decide +kernel
theorem dX0_placeOf_24 : decode cX0_placeOf 24 = .ok (.goto (-22), 3) := by decide +kernel
theorem dX0_placeOf_27 : decode cX0_placeOf 27 = .ok (.iconst (-1), 1) := by decide +kernel
theorem dX0_placeOf_28 : decode cX0_placeOf 28 = .ok (.ireturn, 1) := by decide +kernel
theorem dX0_append_0 : decode cX0_append 0 = .ok (.aload_n 0, 1) := by decide +kernel
theorem dX0_append_1 : decode cX0_append 1 = .ok (.getfield 19, 3) := by decide +kernel
theorem dX0_append_4 : decode cX0_append 4 = .ok (.ifCond .lt 35, 3) := by decide +kernel
theorem dX0_append_7 : decode cX0_append 7 = .ok (.aload_n 0, 1) := by decide +kernel
theorem dX0_append_8 : decode cX0_append 8 = .ok (.getfield 19, 3) := by decide +kernel
theorem dX0_append_11 : decode cX0_append 11 = .ok (.aload_n 0, 1) := by decide +kernel
theorem dX0_append_12 : decode cX0_append 12 = .ok (.getfield 9, 3) := by decide +kernel
theorem dX0_append_15 : decode cX0_append 15 = .ok (.arraylength, 1) := by decide +kernel
theorem dX0_append_16 : decode cX0_append 16 = .ok (.if_icmp .ge 23, 3) := by decide +kernel
theorem dX0_append_19 : decode cX0_append 19 = .ok (.aload_n 0, 1) := by decide +kernel
theorem dX0_append_20 : decode cX0_append 20 = .ok (.getfield 9, 3) := by decide +kernel
theorem dX0_append_23 : decode cX0_append 23 = .ok (.aload_n 0, 1) := by decide +kernel
theorem dX0_append_24 : decode cX0_append 24 = .ok (.getfield 19, 3) := by decide +kernel
theorem dX0_append_27 : decode cX0_append 27 = .ok (.iload_n 1, 1) := by decide +kernel
theorem dX0_append_28 : decode cX0_append 28 = .ok (.iastore, 1) := by decide +kernel
theorem dX0_append_29 : decode cX0_append 29 = .ok (.aload_n 0, 1) := by decide +kernel
theorem dX0_append_30 : decode cX0_append 30 = .ok (.dup, 1) := by decide +kernel
theorem dX0_append_31 : decode cX0_append 31 = .ok (.getfield 19, 3) := by decide +kernel
theorem dX0_append_34 : decode cX0_append 34 = .ok (.iconst 1, 1) := by decide +kernel
theorem dX0_append_35 : decode cX0_append 35 = .ok (.iadd, 1) := by decide +kernel
theorem dX0_append_36 : decode cX0_append 36 = .ok (.putfield 19, 3) := by decide +kernel
theorem dX0_append_39 : decode cX0_append 39 = .ok (.return_, 1) := by decide +kernel
theorem dX0_insert_0 : decode cX0_insert 0 = .ok (.aload_n 2, 1) := by decide +kernel
theorem dX0_insert_1 : decode cX0_insert 1 = .ok (.iload_n 1, 1) := by decide +kernel
theorem dX0_insert_2 : decode cX0_insert 2 = .ok (.invokevirtual 27, 3) := by decide +kernel
theorem dX0_insert_5 : decode cX0_insert 5 = .ok (.istore_n 3, 1) := by decide +kernel
theorem dX0_insert_6 : decode cX0_insert 6 = .ok (.aload_n 0, 1) := by decide +kernel
theorem dX0_insert_7 : decode cX0_insert 7 = .ok (.getfield 19, 3) := by decide +kernel
theorem dX0_insert_10 : decode cX0_insert 10 = .ok (.istore 4, 2) := by decide +kernel
theorem dX0_insert_12 : decode cX0_insert 12 = .ok (.iload 4, 2) := by decide +kernel
theorem dX0_insert_14 : decode cX0_insert 14 = .ok (.ifCond .le 25, 3) := by decide +kernel
theorem dX0_insert_17 : decode cX0_insert 17 = .ok (.aload_n 2, 1) := by decide +kernel
theorem dX0_insert_18 : decode cX0_insert 18 = .ok (.aload_n 0, 1) := by decide +kernel
theorem dX0_insert_19 : decode cX0_insert 19 = .ok (.iload 4, 2) := by decide +kernel
theorem dX0_insert_21 : decode cX0_insert 21 = .ok (.iconst 1, 1) := by decide +kernel
theorem dX0_insert_22 : decode cX0_insert 22 = .ok (.isub, 1) := by decide +kernel
theorem dX0_insert_23 : decode cX0_insert 23 = .ok (.invokevirtual 23, 3) := by decide +kernel
theorem dX0_insert_26 : decode cX0_insert 26 = .ok (.invokevirtual 27, 3) := by decide +kernel
theorem dX0_insert_29 : decode cX0_insert 29 = .ok (.iload_n 3, 1) := by decide +kernel
theorem dX0_insert_30 : decode cX0_insert 30 = .ok (.if_icmp .lt 9, 3) := by decide +kernel
theorem dX0_insert_33 : decode cX0_insert 33 = .ok (.iinc 4 (-1), 3) := by decide +kernel
theorem dX0_insert_36 : decode cX0_insert 36 = .ok (.goto (-24), 3) := by decide +kernel
theorem dX0_insert_39 : decode cX0_insert 39 = .ok (.iload 4, 2) := by decide +kernel
theorem dX0_insert_41 : decode cX0_insert 41 = .ok (.aload_n 0, 1) := by decide +kernel
theorem dX0_insert_42 : decode cX0_insert 42 = .ok (.getfield 19, 3) := by decide +kernel
theorem dX0_insert_45 : decode cX0_insert 45 = .ok (.if_icmp .ge 21, 3) := by decide +kernel
theorem dX0_insert_48 : decode cX0_insert 48 = .ok (.aload_n 2, 1) := by decide +kernel
theorem dX0_insert_49 : decode cX0_insert 49 = .ok (.aload_n 0, 1) := by decide +kernel
theorem dX0_insert_50 : decode cX0_insert 50 = .ok (.iload 4, 2) := by decide +kernel
theorem dX0_insert_52 : decode cX0_insert 52 = .ok (.invokevirtual 23, 3) := by decide +kernel
theorem dX0_insert_55 : decode cX0_insert 55 = .ok (.invokevirtual 27, 3) := by decide +kernel
theorem dX0_insert_58 : decode cX0_insert 58 = .ok (.iload_n 3, 1) := by decide +kernel
theorem dX0_insert_59 : decode cX0_insert 59 = .ok (.if_icmp .ne 7, 3) := by decide +kernel
theorem dX0_insert_62 : decode cX0_insert 62 = .ok (.iconst 1, 1) := by decide +kernel
theorem dX0_insert_63 : decode cX0_insert 63 = .ok (.goto 4, 3) := by decide +kernel
theorem dX0_insert_66 : decode cX0_insert 66 = .ok (.iconst 0, 1) := by decide +kernel
theorem dX0_insert_67 : decode cX0_insert 67 = .ok (.istore 5, 2) := by decide +kernel
theorem dX0_insert_69 : decode cX0_insert 69 = .ok (.iload 5, 2) := by decide +kernel
theorem dX0_insert_71 : decode cX0_insert 71 = .ok (.ifCond .ne 15, 3) := by decide +kernel
theorem dX0_insert_74 : decode cX0_insert 74 = .ok (.aload_n 0, 1) := by decide +kernel
theorem dX0_insert_75 : decode cX0_insert 75 = .ok (.getfield 19, 3) := by decide +kernel
theorem dX0_insert_78 : decode cX0_insert 78 = .ok (.aload_n 0, 1) := by decide +kernel
theorem dX0_insert_79 : decode cX0_insert 79 = .ok (.getfield 9, 3) := by decide +kernel
theorem dX0_insert_82 : decode cX0_insert 82 = .ok (.arraylength, 1) := by decide +kernel
theorem dX0_insert_83 : decode cX0_insert 83 = .ok (.if_icmp .lt 5, 3) := by decide +kernel
theorem dX0_insert_86 : decode cX0_insert 86 = .ok (.iconst 0, 1) := by decide +kernel
theorem dX0_insert_87 : decode cX0_insert 87 = .ok (.ireturn, 1) := by decide +kernel
theorem dX0_insert_88 : decode cX0_insert 88 = .ok (.aload_n 0, 1) := by decide +kernel
theorem dX0_insert_89 : decode cX0_insert 89 = .ok (.getfield 19, 3) := by decide +kernel
theorem dX0_insert_92 : decode cX0_insert 92 = .ok (.istore 6, 2) := by decide +kernel
theorem dX0_insert_94 : decode cX0_insert 94 = .ok (.iload 6, 2) := by decide +kernel
theorem dX0_insert_96 : decode cX0_insert 96 = .ok (.iload 4, 2) := by decide +kernel
theorem dX0_insert_98 : decode cX0_insert 98 = .ok (.if_icmp .le 25, 3) := by decide +kernel
theorem dX0_insert_101 : decode cX0_insert 101 = .ok (.aload_n 0, 1) := by decide +kernel
theorem dX0_insert_102 : decode cX0_insert 102 = .ok (.getfield 9, 3) := by decide +kernel
theorem dX0_insert_105 : decode cX0_insert 105 = .ok (.iload 6, 2) := by decide +kernel
theorem dX0_insert_107 : decode cX0_insert 107 = .ok (.aload_n 0, 1) := by decide +kernel
theorem dX0_insert_108 : decode cX0_insert 108 = .ok (.getfield 9, 3) := by decide +kernel
theorem dX0_insert_111 : decode cX0_insert 111 = .ok (.iload 6, 2) := by decide +kernel
theorem dX0_insert_113 : decode cX0_insert 113 = .ok (.iconst 1, 1) := by decide +kernel
theorem dX0_insert_114 : decode cX0_insert 114 = .ok (.isub, 1) := by decide +kernel
theorem dX0_insert_115 : decode cX0_insert 115 = .ok (.iaload, 1) := by decide +kernel
theorem dX0_insert_116 : decode cX0_insert 116 = .ok (.iastore, 1) := by decide +kernel
theorem dX0_insert_117 : decode cX0_insert 117 = .ok (.iinc 6 (-1), 3) := by decide +kernel
theorem dX0_insert_120 : decode cX0_insert 120 = .ok (.goto (-26), 3) := by decide +kernel
theorem dX0_insert_123 : decode cX0_insert 123 = .ok (.aload_n 0, 1) := by decide +kernel
theorem dX0_insert_124 : decode cX0_insert 124 = .ok (.getfield 9, 3) := by decide +kernel
theorem dX0_insert_127 : decode cX0_insert 127 = .ok (.iload 4, 2) := by decide +kernel
theorem dX0_insert_129 : decode cX0_insert 129 = .ok (.iload_n 1, 1) := by decide +kernel
theorem dX0_insert_130 : decode cX0_insert 130 = .ok (.iastore, 1) := by decide +kernel
theorem dX0_insert_131 : decode cX0_insert 131 = .ok (.aload_n 0, 1) := by decide +kernel
theorem dX0_insert_132 : decode cX0_insert 132 = .ok (.dup, 1) := by decide +kernel
theorem dX0_insert_133 : decode cX0_insert 133 = .ok (.getfield 19, 3) := by decide +kernel
theorem dX0_insert_136 : decode cX0_insert 136 = .ok (.iconst 1, 1) := by decide +kernel
theorem dX0_insert_137 : decode cX0_insert 137 = .ok (.iadd, 1) := by decide +kernel
theorem dX0_insert_138 : decode cX0_insert 138 = .ok (.putfield 19, 3) := by decide +kernel
theorem dX0_insert_141 : decode cX0_insert 141 = .ok (.iconst 1, 1) := by decide +kernel
theorem dX0_insert_142 : decode cX0_insert 142 = .ok (.ireturn, 1) := by decide +kernel
theorem dX0_copy_0 : decode cX0_copy 0 = .ok (.aload_n 0, 1) := by decide +kernel
theorem dX0_copy_1 : decode cX0_copy 1 = .ok (.iconst 0, 1) := by decide +kernel
theorem dX0_copy_2 : decode cX0_copy 2 = .ok (.putfield 19, 3) := by decide +kernel
theorem dX0_copy_5 : decode cX0_copy 5 = .ok (.iconst 0, 1) := by decide +kernel
theorem dX0_copy_6 : decode cX0_copy 6 = .ok (.istore_n 2, 1) := by decide +kernel
theorem dX0_copy_7 : decode cX0_copy 7 = .ok (.iload_n 2, 1) := by decide +kernel
theorem dX0_copy_8 : decode cX0_copy 8 = .ok (.aload_n 1, 1) := by decide +kernel
theorem dX0_copy_9 : decode cX0_copy 9 = .ok (.getfield 19, 3) := by decide +kernel
theorem dX0_copy_12 : decode cX0_copy 12 = .ok (.if_icmp .ge 18, 3) := by decide +kernel
theorem dX0_copy_15 : decode cX0_copy 15 = .ok (.aload_n 0, 1) := by decide +kernel
theorem dX0_copy_16 : decode cX0_copy 16 = .ok (.aload_n 1, 1) := by decide +kernel
theorem dX0_copy_17 : decode cX0_copy 17 = .ok (.iload_n 2, 1) := by decide +kernel
theorem dX0_copy_18 : decode cX0_copy 18 = .ok (.invokevirtual 23, 3) := by decide +kernel
theorem dX0_copy_21 : decode cX0_copy 21 = .ok (.invokevirtual 32, 3) := by decide +kernel
theorem dX0_copy_24 : decode cX0_copy 24 = .ok (.iinc 2 1, 3) := by decide +kernel
theorem dX0_copy_27 : decode cX0_copy 27 = .ok (.goto (-20), 3) := by decide +kernel
theorem dX0_copy_30 : decode cX0_copy 30 = .ok (.aload_n 0, 1) := by decide +kernel
theorem dX0_copy_31 : decode cX0_copy 31 = .ok (.aload_n 1, 1) := by decide +kernel
theorem dX0_copy_32 : decode cX0_copy 32 = .ok (.getfield 36, 3) := by decide +kernel
theorem dX0_copy_35 : decode cX0_copy 35 = .ok (.putfield 36, 3) := by decide +kernel
theorem dX0_copy_38 : decode cX0_copy 38 = .ok (.aload_n 0, 1) := by decide +kernel
theorem dX0_copy_39 : decode cX0_copy 39 = .ok (.aload_n 1, 1) := by decide +kernel
theorem dX0_copy_40 : decode cX0_copy 40 = .ok (.getfield 39, 3) := by decide +kernel
theorem dX0_copy_43 : decode cX0_copy 43 = .ok (.putfield 39, 3) := by decide +kernel
theorem dX0_copy_46 : decode cX0_copy 46 = .ok (.aload_n 0, 1) := by decide +kernel
theorem dX0_copy_47 : decode cX0_copy 47 = .ok (.aload_n 1, 1) := by decide +kernel
theorem dX0_copy_48 : decode cX0_copy 48 = .ok (.getfield 42, 3) := by decide +kernel
theorem dX0_copy_51 : decode cX0_copy 51 = .ok (.putfield 42, 3) := by decide +kernel
theorem dX0_copy_54 : decode cX0_copy 54 = .ok (.aload_n 0, 1) := by decide +kernel
theorem dX0_copy_55 : decode cX0_copy 55 = .ok (.aload_n 1, 1) := by decide +kernel
theorem dX0_copy_56 : decode cX0_copy 56 = .ok (.getfield 45, 3) := by decide +kernel
theorem dX0_copy_59 : decode cX0_copy 59 = .ok (.putfield 45, 3) := by decide +kernel
theorem dX0_copy_62 : decode cX0_copy 62 = .ok (.aload_n 0, 1) := by decide +kernel
theorem dX0_copy_63 : decode cX0_copy 63 = .ok (.aload_n 1, 1) := by decide +kernel
theorem dX0_copy_64 : decode cX0_copy 64 = .ok (.getfield 48, 3) := by decide +kernel
theorem dX0_copy_67 : decode cX0_copy 67 = .ok (.putfield 48, 3) := by decide +kernel
theorem dX0_copy_70 : decode cX0_copy 70 = .ok (.aload_n 0, 1) := by decide +kernel
theorem dX0_copy_71 : decode cX0_copy 71 = .ok (.aload_n 1, 1) := by decide +kernel
theorem dX0_copy_72 : decode cX0_copy 72 = .ok (.getfield 51, 3) := by decide +kernel
theorem dX0_copy_75 : decode cX0_copy 75 = .ok (.putfield 51, 3) := by decide +kernel
theorem dX0_copy_78 : decode cX0_copy 78 = .ok (.aload_n 0, 1) := by decide +kernel
theorem dX0_copy_79 : decode cX0_copy 79 = .ok (.aload_n 1, 1) := by decide +kernel
theorem dX0_copy_80 : decode cX0_copy 80 = .ok (.getfield 15, 3) := by decide +kernel
theorem dX0_copy_83 : decode cX0_copy 83 = .ok (.putfield 15, 3) := by decide +kernel
theorem dX0_copy_86 : decode cX0_copy 86 = .ok (.return_, 1) := by decide +kernel
theorem dX0_copyWithout_0 : decode cX0_copyWithout 0 = .ok (.aload_n 0, 1) := by decide +kernel
theorem dX0_copyWithout_1 : decode cX0_copyWithout 1 = .ok (.iconst 0, 1) := by decide +kernel
theorem dX0_copyWithout_2 : decode cX0_copyWithout 2 = .ok (.putfield 19, 3) := by decide +kernel
theorem dX0_copyWithout_5 : decode cX0_copyWithout 5 = .ok (.iconst 0, 1) := by decide +kernel
theorem dX0_copyWithout_6 : decode cX0_copyWithout 6 = .ok (.istore_n 3, 1) := by decide +kernel
theorem dX0_copyWithout_7 : decode cX0_copyWithout 7 = .ok (.iload_n 3, 1) := by decide +kernel
theorem dX0_copyWithout_8 : decode cX0_copyWithout 8 = .ok (.aload_n 1, 1) := by decide +kernel
theorem dX0_copyWithout_9 : decode cX0_copyWithout 9 = .ok (.getfield 19, 3) := by decide +kernel
theorem dX0_copyWithout_12 : decode cX0_copyWithout 12 = .ok (.if_icmp .ge 27, 3) := by decide +kernel
theorem dX0_copyWithout_15 : decode cX0_copyWithout 15 = .ok (.aload_n 1, 1) := by decide +kernel
theorem dX0_copyWithout_16 : decode cX0_copyWithout 16 = .ok (.iload_n 3, 1) := by decide +kernel
theorem dX0_copyWithout_17 : decode cX0_copyWithout 17 = .ok (.invokevirtual 23, 3) := by decide +kernel
theorem dX0_copyWithout_20 : decode cX0_copyWithout 20 = .ok (.iload_n 2, 1) := by decide +kernel
theorem dX0_copyWithout_21 : decode cX0_copyWithout 21 = .ok (.if_icmp .eq 12, 3) := by decide +kernel
theorem dX0_copyWithout_24 : decode cX0_copyWithout 24 = .ok (.aload_n 0, 1) := by decide +kernel
theorem dX0_copyWithout_25 : decode cX0_copyWithout 25 = .ok (.aload_n 1, 1) := by decide +kernel
theorem dX0_copyWithout_26 : decode cX0_copyWithout 26 = .ok (.iload_n 3, 1) := by decide +kernel
theorem dX0_copyWithout_27 : decode cX0_copyWithout 27 = .ok (.invokevirtual 23, 3) := by decide +kernel
theorem dX0_copyWithout_30 : decode cX0_copyWithout 30 = .ok (.invokevirtual 32, 3) := by decide +kernel
theorem dX0_copyWithout_33 : decode cX0_copyWithout 33 = .ok (.iinc 3 1, 3) := by decide +kernel
theorem dX0_copyWithout_36 : decode cX0_copyWithout 36 = .ok (.goto (-29), 3) := by decide +kernel
theorem dX0_copyWithout_39 : decode cX0_copyWithout 39 = .ok (.return_, 1) := by decide +kernel
theorem dX0_join_0 : decode cX0_join 0 = .ok (.aload_n 0, 1) := by decide +kernel
theorem dX0_join_1 : decode cX0_join 1 = .ok (.iconst 0, 1) := by decide +kernel
theorem dX0_join_2 : decode cX0_join 2 = .ok (.putfield 19, 3) := by decide +kernel
theorem dX0_join_5 : decode cX0_join 5 = .ok (.iconst 0, 1) := by decide +kernel
theorem dX0_join_6 : decode cX0_join 6 = .ok (.istore 5, 2) := by decide +kernel
theorem dX0_join_8 : decode cX0_join 8 = .ok (.iload 5, 2) := by decide +kernel
theorem dX0_join_10 : decode cX0_join 10 = .ok (.aload_n 1, 1) := by decide +kernel
theorem dX0_join_11 : decode cX0_join 11 = .ok (.getfield 19, 3) := by decide +kernel
theorem dX0_join_14 : decode cX0_join 14 = .ok (.if_icmp .ge 34, 3) := by decide +kernel
theorem dX0_join_17 : decode cX0_join 17 = .ok (.aload 4, 2) := by decide +kernel
theorem dX0_join_19 : decode cX0_join 19 = .ok (.aload_n 1, 1) := by decide +kernel
theorem dX0_join_20 : decode cX0_join 20 = .ok (.iload 5, 2) := by decide +kernel
theorem dX0_join_22 : decode cX0_join 22 = .ok (.invokevirtual 23, 3) := by decide +kernel
theorem dX0_join_25 : decode cX0_join 25 = .ok (.invokevirtual 27, 3) := by decide +kernel
theorem dX0_join_28 : decode cX0_join 28 = .ok (.iload_n 3, 1) := by decide +kernel
theorem dX0_join_29 : decode cX0_join 29 = .ok (.if_icmp .ge 13, 3) := by decide +kernel
theorem dX0_join_32 : decode cX0_join 32 = .ok (.aload_n 0, 1) := by decide +kernel
theorem dX0_join_33 : decode cX0_join 33 = .ok (.aload_n 1, 1) := by decide +kernel
theorem dX0_join_34 : decode cX0_join 34 = .ok (.iload 5, 2) := by decide +kernel
theorem dX0_join_36 : decode cX0_join 36 = .ok (.invokevirtual 23, 3) := by decide +kernel
theorem dX0_join_39 : decode cX0_join 39 = .ok (.invokevirtual 32, 3) := by decide +kernel
theorem dX0_join_42 : decode cX0_join 42 = .ok (.iinc 5 1, 3) := by decide +kernel
theorem dX0_join_45 : decode cX0_join 45 = .ok (.goto (-37), 3) := by decide +kernel
theorem dX0_join_48 : decode cX0_join 48 = .ok (.iconst 0, 1) := by decide +kernel
theorem dX0_join_49 : decode cX0_join 49 = .ok (.istore 5, 2) := by decide +kernel
theorem dX0_join_51 : decode cX0_join 51 = .ok (.iload 5, 2) := by decide +kernel
theorem dX0_join_53 : decode cX0_join 53 = .ok (.aload_n 2, 1) := by decide +kernel
theorem dX0_join_54 : decode cX0_join 54 = .ok (.getfield 19, 3) := by decide +kernel
theorem dX0_join_57 : decode cX0_join 57 = .ok (.if_icmp .ge 34, 3) := by decide +kernel
theorem dX0_join_60 : decode cX0_join 60 = .ok (.aload 4, 2) := by decide +kernel
theorem dX0_join_62 : decode cX0_join 62 = .ok (.aload_n 2, 1) := by decide +kernel
theorem dX0_join_63 : decode cX0_join 63 = .ok (.iload 5, 2) := by decide +kernel
theorem dX0_join_65 : decode cX0_join 65 = .ok (.invokevirtual 23, 3) := by decide +kernel
theorem dX0_join_68 : decode cX0_join 68 = .ok (.invokevirtual 27, 3) := by decide +kernel
theorem dX0_join_71 : decode cX0_join 71 = .ok (.iload_n 3, 1) := by decide +kernel
theorem dX0_join_72 : decode cX0_join 72 = .ok (.if_icmp .lt 13, 3) := by decide +kernel
theorem dX0_join_75 : decode cX0_join 75 = .ok (.aload_n 0, 1) := by decide +kernel
theorem dX0_join_76 : decode cX0_join 76 = .ok (.aload_n 2, 1) := by decide +kernel
theorem dX0_join_77 : decode cX0_join 77 = .ok (.iload 5, 2) := by decide +kernel
theorem dX0_join_79 : decode cX0_join 79 = .ok (.invokevirtual 23, 3) := by decide +kernel
theorem dX0_join_82 : decode cX0_join 82 = .ok (.invokevirtual 32, 3) := by decide +kernel
theorem dX0_join_85 : decode cX0_join 85 = .ok (.iinc 5 1, 3) := by decide +kernel
theorem dX0_join_88 : decode cX0_join 88 = .ok (.goto (-37), 3) := by decide +kernel
theorem dX0_join_91 : decode cX0_join 91 = .ok (.return_, 1) := by decide +kernel
theorem dX0_measure_0 : decode cX0_measure 0 = .ok (.aload_n 0, 1) := by decide +kernel
theorem dX0_measure_1 : decode cX0_measure 1 = .ok (.iconst 0, 1) := by decide +kernel
theorem dX0_measure_2 : decode cX0_measure 2 = .ok (.putfield 36, 3) := by decide +kernel
theorem dX0_measure_5 : decode cX0_measure 5 = .ok (.aload_n 0, 1) := by decide +kernel
theorem dX0_measure_6 : decode cX0_measure 6 = .ok (.iconst 0, 1) := by decide +kernel
theorem dX0_measure_7 : decode cX0_measure 7 = .ok (.putfield 39, 3) := by decide +kernel
theorem dX0_measure_10 : decode cX0_measure 10 = .ok (.aload_n 0, 1) := by decide +kernel
theorem dX0_measure_11 : decode cX0_measure 11 = .ok (.iconst 0, 1) := by decide +kernel
theorem dX0_measure_12 : decode cX0_measure 12 = .ok (.putfield 42, 3) := by decide +kernel
theorem dX0_measure_15 : decode cX0_measure 15 = .ok (.aload_n 0, 1) := by decide +kernel
theorem dX0_measure_16 : decode cX0_measure 16 = .ok (.iconst 0, 1) := by decide +kernel
theorem dX0_measure_17 : decode cX0_measure 17 = .ok (.putfield 45, 3) := by decide +kernel
theorem dX0_measure_20 : decode cX0_measure 20 = .ok (.aload_n 0, 1) := by decide +kernel
theorem dX0_measure_21 : decode cX0_measure 21 = .ok (.iconst 0, 1) := by decide +kernel
theorem dX0_measure_22 : decode cX0_measure 22 = .ok (.putfield 48, 3) := by decide +kernel
theorem dX0_measure_25 : decode cX0_measure 25 = .ok (.aload_n 0, 1) := by decide +kernel
theorem dX0_measure_26 : decode cX0_measure 26 = .ok (.iconst 0, 1) := by decide +kernel
theorem dX0_measure_27 : decode cX0_measure 27 = .ok (.putfield 51, 3) := by decide +kernel
theorem dX0_measure_30 : decode cX0_measure 30 = .ok (.aload_n 0, 1) := by decide +kernel
theorem dX0_measure_31 : decode cX0_measure 31 = .ok (.iconst 1, 1) := by decide +kernel
theorem dX0_measure_32 : decode cX0_measure 32 = .ok (.putfield 15, 3) := by decide +kernel
theorem dX0_measure_35 : decode cX0_measure 35 = .ok (.aload_n 0, 1) := by decide +kernel
theorem dX0_measure_36 : decode cX0_measure 36 = .ok (.getfield 19, 3) := by decide +kernel
theorem dX0_measure_39 : decode cX0_measure 39 = .ok (.ifCond .le 57, 3) := by decide +kernel
theorem dX0_measure_42 : decode cX0_measure 42 = .ok (.aload_n 0, 1) := by decide +kernel
theorem dX0_measure_43 : decode cX0_measure 43 = .ok (.aload_n 1, 1) := by decide +kernel
theorem dX0_measure_44 : decode cX0_measure 44 = .ok (.invokevirtual 54, 3) := by decide +kernel
theorem dX0_measure_47 : decode cX0_measure 47 = .ok (.aload_n 0, 1) := by decide +kernel
theorem dX0_measure_48 : decode cX0_measure 48 = .ok (.aload_n 1, 1) := by decide +kernel
theorem dX0_measure_49 : decode cX0_measure 49 = .ok (.aload_n 2, 1) := by decide +kernel
theorem dX0_measure_50 : decode cX0_measure 50 = .ok (.invokevirtual 58, 3) := by decide +kernel
theorem dX0_measure_53 : decode cX0_measure 53 = .ok (.aload_n 0, 1) := by decide +kernel
theorem dX0_measure_54 : decode cX0_measure 54 = .ok (.aload_n 0, 1) := by decide +kernel
theorem dX0_measure_55 : decode cX0_measure 55 = .ok (.getfield 42, 3) := by decide +kernel
theorem dX0_measure_58 : decode cX0_measure 58 = .ok (.invokestatic 62, 3) := by decide +kernel
theorem dX0_measure_61 : decode cX0_measure 61 = .ok (.putfield 45, 3) := by decide +kernel
theorem dX0_measure_64 : decode cX0_measure 64 = .ok (.aload_n 0, 1) := by decide +kernel
theorem dX0_measure_65 : decode cX0_measure 65 = .ok (.getfield 51, 3) := by decide +kernel
theorem dX0_measure_68 : decode cX0_measure 68 = .ok (.aload_n 2, 1) := by decide +kernel
theorem dX0_measure_69 : decode cX0_measure 69 = .ok (.getfield 65, 3) := by decide +kernel
theorem dX0_measure_72 : decode cX0_measure 72 = .ok (.if_icmp .gt 19, 3) := by decide +kernel
theorem dX0_measure_75 : decode cX0_measure 75 = .ok (.aload_n 0, 1) := by decide +kernel
theorem dX0_measure_76 : decode cX0_measure 76 = .ok (.getfield 39, 3) := by decide +kernel
theorem dX0_measure_79 : decode cX0_measure 79 = .ok (.aload_n 0, 1) := by decide +kernel
theorem dX0_measure_80 : decode cX0_measure 80 = .ok (.getfield 36, 3) := by decide +kernel
theorem dX0_measure_83 : decode cX0_measure 83 = .ok (.isub, 1) := by decide +kernel
theorem dX0_measure_84 : decode cX0_measure 84 = .ok (.aload_n 2, 1) := by decide +kernel
theorem dX0_measure_85 : decode cX0_measure 85 = .ok (.getfield 70, 3) := by decide +kernel
theorem dX0_measure_88 : decode cX0_measure 88 = .ok (.if_icmp .le 8, 3) := by decide +kernel
theorem dX0_measure_91 : decode cX0_measure 91 = .ok (.aload_n 0, 1) := by decide +kernel
theorem dX0_measure_92 : decode cX0_measure 92 = .ok (.iconst 0, 1) := by decide +kernel
theorem dX0_measure_93 : decode cX0_measure 93 = .ok (.putfield 15, 3) := by decide +kernel
theorem dX0_measure_96 : decode cX0_measure 96 = .ok (.return_, 1) := by decide +kernel
theorem dX0_measureSpread_0 : decode cX0_measureSpread 0 = .ok (.aload_n 0, 1) := by decide +kernel
theorem dX0_measureSpread_1 : decode cX0_measureSpread 1 = .ok (.iconst 0, 1) := by decide +kernel
theorem dX0_measureSpread_2 : decode cX0_measureSpread 2 = .ok (.invokevirtual 23, 3) := by decide +kernel
theorem dX0_measureSpread_5 : decode cX0_measureSpread 5 = .ok (.istore_n 2, 1) := by decide +kernel
theorem dX0_measureSpread_6 : decode cX0_measureSpread 6 = .ok (.aload_n 0, 1) := by decide +kernel
theorem dX0_measureSpread_7 : decode cX0_measureSpread 7 = .ok (.aload_n 0, 1) := by decide +kernel
theorem dX0_measureSpread_8 : decode cX0_measureSpread 8 = .ok (.getfield 19, 3) := by decide +kernel
theorem dX0_measureSpread_11 : decode cX0_measureSpread 11 = .ok (.iconst 1, 1) := by decide +kernel
theorem dX0_measureSpread_12 : decode cX0_measureSpread 12 = .ok (.isub, 1) := by decide +kernel
theorem dX0_measureSpread_13 : decode cX0_measureSpread 13 = .ok (.invokevirtual 23, 3) := by decide +kernel
theorem dX0_measureSpread_16 : decode cX0_measureSpread 16 = .ok (.istore_n 3, 1) := by decide +kernel
theorem dX0_measureSpread_17 : decode cX0_measureSpread 17 = .ok (.aload_n 1, 1) := by decide +kernel
theorem dX0_measureSpread_18 : decode cX0_measureSpread 18 = .ok (.iconst 0, 1) := by decide +kernel
theorem dX0_measureSpread_19 : decode cX0_measureSpread 19 = .ok (.aload_n 1, 1) := by decide +kernel
theorem dX0_measureSpread_20 : decode cX0_measureSpread 20 = .ok (.iload_n 2, 1) := by decide +kernel
theorem dX0_measureSpread_21 : decode cX0_measureSpread 21 = .ok (.invokevirtual 73, 3) := by decide +kernel
theorem dX0_measureSpread_24 : decode cX0_measureSpread 24 = .ok (.invokevirtual 76, 3) := by decide +kernel
theorem dX0_measureSpread_27 : decode cX0_measureSpread 27 = .ok (.istore 4, 2) := by decide +kernel
theorem dX0_measureSpread_29 : decode cX0_measureSpread 29 = .ok (.aload_n 1, 1) := by decide +kernel
theorem dX0_measureSpread_30 : decode cX0_measureSpread 30 = .ok (.aload_n 1, 1) := by decide +kernel
theorem dX0_measureSpread_31 : decode cX0_measureSpread 31 = .ok (.iload_n 3, 1) := by decide +kernel
theorem dX0_measureSpread_32 : decode cX0_measureSpread 32 = .ok (.invokevirtual 80, 3) := by decide +kernel
theorem dX0_measureSpread_35 : decode cX0_measureSpread 35 = .ok (.iconst 0, 1) := by decide +kernel
theorem dX0_measureSpread_36 : decode cX0_measureSpread 36 = .ok (.invokevirtual 76, 3) := by decide +kernel
theorem dX0_measureSpread_39 : decode cX0_measureSpread 39 = .ok (.istore 5, 2) := by decide +kernel
theorem dX0_measureSpread_41 : decode cX0_measureSpread 41 = .ok (.aload_n 0, 1) := by decide +kernel
theorem dX0_measureSpread_42 : decode cX0_measureSpread 42 = .ok (.aload_n 1, 1) := by decide +kernel
theorem dX0_measureSpread_43 : decode cX0_measureSpread 43 = .ok (.iload_n 2, 1) := by decide +kernel
theorem dX0_measureSpread_44 : decode cX0_measureSpread 44 = .ok (.invokevirtual 27, 3) := by decide +kernel
theorem dX0_measureSpread_47 : decode cX0_measureSpread 47 = .ok (.iload 4, 2) := by decide +kernel
theorem dX0_measureSpread_49 : decode cX0_measureSpread 49 = .ok (.isub, 1) := by decide +kernel
theorem dX0_measureSpread_50 : decode cX0_measureSpread 50 = .ok (.bipush 10, 2) := by decide +kernel
theorem dX0_measureSpread_52 : decode cX0_measureSpread 52 = .ok (.isub, 1) := by decide +kernel
theorem dX0_measureSpread_53 : decode cX0_measureSpread 53 = .ok (.putfield 36, 3) := by decide +kernel
theorem dX0_measureSpread_56 : decode cX0_measureSpread 56 = .ok (.aload_n 0, 1) := by decide +kernel
theorem dX0_measureSpread_57 : decode cX0_measureSpread 57 = .ok (.aload_n 1, 1) := by decide +kernel
theorem dX0_measureSpread_58 : decode cX0_measureSpread 58 = .ok (.iload_n 3, 1) := by decide +kernel
theorem dX0_measureSpread_59 : decode cX0_measureSpread 59 = .ok (.invokevirtual 83, 3) := by decide +kernel
theorem dX0_measureSpread_62 : decode cX0_measureSpread 62 = .ok (.iload 5, 2) := by decide +kernel
theorem dX0_measureSpread_64 : decode cX0_measureSpread 64 = .ok (.iadd, 1) := by decide +kernel
theorem dX0_measureSpread_65 : decode cX0_measureSpread 65 = .ok (.iconst 5, 1) := by decide +kernel
theorem dX0_measureSpread_66 : decode cX0_measureSpread 66 = .ok (.iadd, 1) := by decide +kernel
theorem dX0_measureSpread_67 : decode cX0_measureSpread 67 = .ok (.putfield 39, 3) := by decide +kernel
theorem dX0_measureSpread_70 : decode cX0_measureSpread 70 = .ok (.aload_n 0, 1) := by decide +kernel
theorem dX0_measureSpread_71 : decode cX0_measureSpread 71 = .ok (.aload_n 0, 1) := by decide +kernel
theorem dX0_measureSpread_72 : decode cX0_measureSpread 72 = .ok (.getfield 39, 3) := by decide +kernel
theorem dX0_measureSpread_75 : decode cX0_measureSpread 75 = .ok (.aload_n 0, 1) := by decide +kernel
theorem dX0_measureSpread_76 : decode cX0_measureSpread 76 = .ok (.getfield 36, 3) := by decide +kernel
theorem dX0_measureSpread_79 : decode cX0_measureSpread 79 = .ok (.isub, 1) := by decide +kernel
theorem dX0_measureSpread_80 : decode cX0_measureSpread 80 = .ok (.putfield 42, 3) := by decide +kernel
theorem dX0_measureSpread_83 : decode cX0_measureSpread 83 = .ok (.return_, 1) := by decide +kernel
theorem dX0_measureStretches_0 : decode cX0_measureStretches 0 = .ok (.aload_n 0, 1) := by decide +kernel
theorem dX0_measureStretches_1 : decode cX0_measureStretches 1 = .ok (.iconst 0, 1) := by decide +kernel
theorem dX0_measureStretches_2 : decode cX0_measureStretches 2 = .ok (.invokevirtual 23, 3) := by decide +kernel
theorem dX0_measureStretches_5 : decode cX0_measureStretches 5 = .ok (.istore_n 3, 1) := by decide +kernel
theorem dX0_measureStretches_6 : decode cX0_measureStretches 6 = .ok (.aload_n 1, 1) := by decide +kernel
theorem dX0_measureStretches_7 : decode cX0_measureStretches 7 = .ok (.iconst 0, 1) := by decide +kernel
theorem dX0_measureStretches_8 : decode cX0_measureStretches 8 = .ok (.aload_n 1, 1) := by decide +kernel
theorem dX0_measureStretches_9 : decode cX0_measureStretches 9 = .ok (.iload_n 3, 1) := by decide +kernel
theorem dX0_measureStretches_10 : decode cX0_measureStretches 10 = .ok (.invokevirtual 73, 3) := by decide +kernel
theorem dX0_measureStretches_13 : decode cX0_measureStretches 13 = .ok (.invokevirtual 76, 3) := by decide +kernel
theorem dX0_measureStretches_16 : decode cX0_measureStretches 16 = .ok (.aload_n 1, 1) := by decide +kernel
theorem dX0_measureStretches_17 : decode cX0_measureStretches 17 = .ok (.iload_n 3, 1) := by decide +kernel
theorem dX0_measureStretches_18 : decode cX0_measureStretches 18 = .ok (.invokevirtual 86, 3) := by decide +kernel
theorem dX0_measureStretches_21 : decode cX0_measureStretches 21 = .ok (.iadd, 1) := by decide +kernel
theorem dX0_measureStretches_22 : decode cX0_measureStretches 22 = .ok (.istore 4, 2) := by decide +kernel
theorem dX0_measureStretches_24 : decode cX0_measureStretches 24 = .ok (.iconst 1, 1) := by decide +kernel
theorem dX0_measureStretches_25 : decode cX0_measureStretches 25 = .ok (.istore 5, 2) := by decide +kernel
theorem dX0_measureStretches_27 : decode cX0_measureStretches 27 = .ok (.iload 5, 2) := by decide +kernel
theorem dX0_measureStretches_29 : decode cX0_measureStretches 29 = .ok (.aload_n 0, 1) := by decide +kernel
theorem dX0_measureStretches_30 : decode cX0_measureStretches 30 = .ok (.getfield 19, 3) := by decide +kernel
theorem dX0_measureStretches_33 : decode cX0_measureStretches 33 = .ok (.if_icmp .ge 117, 3) := by decide +kernel
theorem dX0_measureStretches_36 : decode cX0_measureStretches 36 = .ok (.aload_n 0, 1) := by decide +kernel
theorem dX0_measureStretches_37 : decode cX0_measureStretches 37 = .ok (.iload 5, 2) := by decide +kernel
theorem dX0_measureStretches_39 : decode cX0_measureStretches 39 = .ok (.invokevirtual 23, 3) := by decide +kernel
theorem dX0_measureStretches_42 : decode cX0_measureStretches 42 = .ok (.istore 6, 2) := by decide +kernel
theorem dX0_measureStretches_44 : decode cX0_measureStretches 44 = .ok (.aload_n 1, 1) := by decide +kernel
theorem dX0_measureStretches_45 : decode cX0_measureStretches 45 = .ok (.aload_n 1, 1) := by decide +kernel
theorem dX0_measureStretches_46 : decode cX0_measureStretches 46 = .ok (.iload_n 3, 1) := by decide +kernel
theorem dX0_measureStretches_47 : decode cX0_measureStretches 47 = .ok (.invokevirtual 80, 3) := by decide +kernel
theorem dX0_measureStretches_50 : decode cX0_measureStretches 50 = .ok (.aload_n 1, 1) := by decide +kernel
theorem dX0_measureStretches_51 : decode cX0_measureStretches 51 = .ok (.iload 6, 2) := by decide +kernel
theorem dX0_measureStretches_53 : decode cX0_measureStretches 53 = .ok (.invokevirtual 73, 3) := by decide +kernel
theorem dX0_measureStretches_56 : decode cX0_measureStretches 56 = .ok (.invokevirtual 76, 3) := by decide +kernel
theorem dX0_measureStretches_59 : decode cX0_measureStretches 59 = .ok (.istore 7, 2) := by decide +kernel
theorem dX0_measureStretches_61 : decode cX0_measureStretches 61 = .ok (.aload_n 1, 1) := by decide +kernel
theorem dX0_measureStretches_62 : decode cX0_measureStretches 62 = .ok (.iload 6, 2) := by decide +kernel
theorem dX0_measureStretches_64 : decode cX0_measureStretches 64 = .ok (.invokevirtual 27, 3) := by decide +kernel
theorem dX0_measureStretches_67 : decode cX0_measureStretches 67 = .ok (.aload_n 1, 1) := by decide +kernel
theorem dX0_measureStretches_68 : decode cX0_measureStretches 68 = .ok (.iload_n 3, 1) := by decide +kernel
theorem dX0_measureStretches_69 : decode cX0_measureStretches 69 = .ok (.invokevirtual 83, 3) := by decide +kernel
theorem dX0_measureStretches_72 : decode cX0_measureStretches 72 = .ok (.isub, 1) := by decide +kernel
theorem dX0_measureStretches_73 : decode cX0_measureStretches 73 = .ok (.iload 7, 2) := by decide +kernel
theorem dX0_measureStretches_75 : decode cX0_measureStretches 75 = .ok (.isub, 1) := by decide +kernel
theorem dX0_measureStretches_76 : decode cX0_measureStretches 76 = .ok (.istore 8, 2) := by decide +kernel
theorem dX0_measureStretches_78 : decode cX0_measureStretches 78 = .ok (.iload 8, 2) := by decide +kernel
theorem dX0_measureStretches_80 : decode cX0_measureStretches 80 = .ok (.ifCond .ge 8, 3) := by decide +kernel
theorem dX0_measureStretches_83 : decode cX0_measureStretches 83 = .ok (.aload_n 0, 1) := by decide +kernel
theorem dX0_measureStretches_84 : decode cX0_measureStretches 84 = .ok (.iconst 0, 1) := by decide +kernel
theorem dX0_measureStretches_85 : decode cX0_measureStretches 85 = .ok (.putfield 15, 3) := by decide +kernel
theorem dX0_measureStretches_88 : decode cX0_measureStretches 88 = .ok (.iload 8, 2) := by decide +kernel
theorem dX0_measureStretches_90 : decode cX0_measureStretches 90 = .ok (.aload_n 2, 1) := by decide +kernel
theorem dX0_measureStretches_91 : decode cX0_measureStretches 91 = .ok (.getfield 89, 3) := by decide +kernel
theorem dX0_measureStretches_94 : decode cX0_measureStretches 94 = .ok (.if_icmp .lt 33, 3) := by decide +kernel
theorem dX0_measureStretches_97 : decode cX0_measureStretches 97 = .ok (.aload_n 0, 1) := by decide +kernel
theorem dX0_measureStretches_98 : decode cX0_measureStretches 98 = .ok (.dup, 1) := by decide +kernel
theorem dX0_measureStretches_99 : decode cX0_measureStretches 99 = .ok (.getfield 48, 3) := by decide +kernel
theorem dX0_measureStretches_102 : decode cX0_measureStretches 102 = .ok (.iconst 1, 1) := by decide +kernel
theorem dX0_measureStretches_103 : decode cX0_measureStretches 103 = .ok (.iadd, 1) := by decide +kernel
theorem dX0_measureStretches_104 : decode cX0_measureStretches 104 = .ok (.putfield 48, 3) := by decide +kernel
theorem dX0_measureStretches_107 : decode cX0_measureStretches 107 = .ok (.aload_n 0, 1) := by decide +kernel
theorem dX0_measureStretches_108 : decode cX0_measureStretches 108 = .ok (.dup, 1) := by decide +kernel
theorem dX0_measureStretches_109 : decode cX0_measureStretches 109 = .ok (.getfield 42, 3) := by decide +kernel
theorem dX0_measureStretches_112 : decode cX0_measureStretches 112 = .ok (.iload 8, 2) := by decide +kernel
theorem dX0_measureStretches_114 : decode cX0_measureStretches 114 = .ok (.isub, 1) := by decide +kernel
theorem dX0_measureStretches_115 : decode cX0_measureStretches 115 = .ok (.putfield 42, 3) := by decide +kernel
theorem dX0_measureStretches_118 : decode cX0_measureStretches 118 = .ok (.aload_n 0, 1) := by decide +kernel
theorem dX0_measureStretches_119 : decode cX0_measureStretches 119 = .ok (.iload 4, 2) := by decide +kernel
theorem dX0_measureStretches_121 : decode cX0_measureStretches 121 = .ok (.invokevirtual 92, 3) := by decide +kernel
theorem dX0_measureStretches_124 : decode cX0_measureStretches 124 = .ok (.iconst 0, 1) := by decide +kernel
theorem dX0_measureStretches_125 : decode cX0_measureStretches 125 = .ok (.istore 4, 2) := by decide +kernel
theorem dX0_measureStretches_127 : decode cX0_measureStretches 127 = .ok (.iload 4, 2) := by decide +kernel
theorem dX0_measureStretches_129 : decode cX0_measureStretches 129 = .ok (.iload 7, 2) := by decide +kernel
theorem dX0_measureStretches_131 : decode cX0_measureStretches 131 = .ok (.aload_n 1, 1) := by decide +kernel
theorem dX0_measureStretches_132 : decode cX0_measureStretches 132 = .ok (.iload 6, 2) := by decide +kernel
theorem dX0_measureStretches_134 : decode cX0_measureStretches 134 = .ok (.invokevirtual 86, 3) := by decide +kernel
theorem dX0_measureStretches_137 : decode cX0_measureStretches 137 = .ok (.iadd, 1) := by decide +kernel
theorem dX0_measureStretches_138 : decode cX0_measureStretches 138 = .ok (.iadd, 1) := by decide +kernel
theorem dX0_measureStretches_139 : decode cX0_measureStretches 139 = .ok (.istore 4, 2) := by decide +kernel
theorem dX0_measureStretches_141 : decode cX0_measureStretches 141 = .ok (.iload 6, 2) := by decide +kernel
theorem dX0_measureStretches_143 : decode cX0_measureStretches 143 = .ok (.istore_n 3, 1) := by decide +kernel
theorem dX0_measureStretches_144 : decode cX0_measureStretches 144 = .ok (.iinc 5 1, 3) := by decide +kernel
theorem dX0_measureStretches_147 : decode cX0_measureStretches 147 = .ok (.goto (-120), 3) := by decide +kernel
theorem dX0_measureStretches_150 : decode cX0_measureStretches 150 = .ok (.aload_n 0, 1) := by decide +kernel
theorem dX0_measureStretches_151 : decode cX0_measureStretches 151 = .ok (.iload 4, 2) := by decide +kernel
theorem dX0_measureStretches_153 : decode cX0_measureStretches 153 = .ok (.aload_n 1, 1) := by decide +kernel
theorem dX0_measureStretches_154 : decode cX0_measureStretches 154 = .ok (.aload_n 1, 1) := by decide +kernel
theorem dX0_measureStretches_155 : decode cX0_measureStretches 155 = .ok (.iload_n 3, 1) := by decide +kernel
theorem dX0_measureStretches_156 : decode cX0_measureStretches 156 = .ok (.invokevirtual 80, 3) := by decide +kernel
theorem dX0_measureStretches_159 : decode cX0_measureStretches 159 = .ok (.iconst 0, 1) := by decide +kernel
theorem dX0_measureStretches_160 : decode cX0_measureStretches 160 = .ok (.invokevirtual 76, 3) := by decide +kernel
theorem dX0_measureStretches_163 : decode cX0_measureStretches 163 = .ok (.iadd, 1) := by decide +kernel
theorem dX0_measureStretches_164 : decode cX0_measureStretches 164 = .ok (.invokevirtual 92, 3) := by decide +kernel
theorem dX0_measureStretches_167 : decode cX0_measureStretches 167 = .ok (.return_, 1) := by decide +kernel
theorem dX0_endStretch_0 : decode cX0_endStretch 0 = .ok (.iload_n 1, 1) := by decide +kernel
theorem dX0_endStretch_1 : decode cX0_endStretch 1 = .ok (.aload_n 0, 1) := by decide +kernel
theorem dX0_endStretch_2 : decode cX0_endStretch 2 = .ok (.getfield 51, 3) := by decide +kernel
theorem dX0_endStretch_5 : decode cX0_endStretch 5 = .ok (.if_icmp .le 8, 3) := by decide +kernel
theorem dX0_endStretch_8 : decode cX0_endStretch 8 = .ok (.aload_n 0, 1) := by decide +kernel
theorem dX0_endStretch_9 : decode cX0_endStretch 9 = .ok (.iload_n 1, 1) := by decide +kernel
theorem dX0_endStretch_10 : decode cX0_endStretch 10 = .ok (.putfield 51, 3) := by decide +kernel
theorem dX0_endStretch_13 : decode cX0_endStretch 13 = .ok (.return_, 1) := by decide +kernel
theorem dX0_payFor_0 : decode cX0_payFor 0 = .ok (.iload_n 0, 1) := by decide +kernel
theorem dX0_payFor_1 : decode cX0_payFor 1 = .ok (.sipush 360, 3) := by decide +kernel
theorem dX0_payFor_4 : decode cX0_payFor 4 = .ok (.if_icmp .ge 9, 3) := by decide +kernel
theorem dX0_payFor_7 : decode cX0_payFor 7 = .ok (.sipush 360, 3) := by decide +kernel
theorem dX0_payFor_10 : decode cX0_payFor 10 = .ok (.goto 4, 3) := by decide +kernel
theorem dX0_payFor_13 : decode cX0_payFor 13 = .ok (.iload_n 0, 1) := by decide +kernel
theorem dX0_payFor_14 : decode cX0_payFor 14 = .ok (.istore_n 1, 1) := by decide +kernel
theorem dX0_payFor_15 : decode cX0_payFor 15 = .ok (.iload_n 0, 1) := by decide +kernel
theorem dX0_payFor_16 : decode cX0_payFor 16 = .ok (.sipush 480, 3) := by decide +kernel
theorem dX0_payFor_19 : decode cX0_payFor 19 = .ok (.if_icmp .le 15, 3) := by decide +kernel
theorem dX0_payFor_22 : decode cX0_payFor 22 = .ok (.iload_n 1, 1) := by decide +kernel
theorem dX0_payFor_23 : decode cX0_payFor 23 = .ok (.iload_n 0, 1) := by decide +kernel
theorem dX0_payFor_24 : decode cX0_payFor 24 = .ok (.sipush 480, 3) := by decide +kernel
theorem dX0_payFor_27 : decode cX0_payFor 27 = .ok (.isub, 1) := by decide +kernel
theorem dX0_payFor_28 : decode cX0_payFor 28 = .ok (.iconst 2, 1) := by decide +kernel
theorem dX0_payFor_29 : decode cX0_payFor 29 = .ok (.idiv, 1) := by decide +kernel
theorem dX0_payFor_30 : decode cX0_payFor 30 = .ok (.iadd, 1) := by decide +kernel
theorem dX0_payFor_31 : decode cX0_payFor 31 = .ok (.goto 4, 3) := by decide +kernel
theorem dX0_payFor_34 : decode cX0_payFor 34 = .ok (.iload_n 1, 1) := by decide +kernel
theorem dX0_payFor_35 : decode cX0_payFor 35 = .ok (.ireturn, 1) := by decide +kernel
theorem dX1_init_0 : decode cX1_init 0 = .ok (.aload_n 0, 1) := by decide +kernel
theorem dX1_init_1 : decode cX1_init 1 = .ok (.invokespecial 3, 3) := by decide +kernel
theorem dX1_init_4 : decode cX1_init 4 = .ok (.return_, 1) := by decide +kernel
theorem dX1_clear_0 : decode cX1_clear 0 = .ok (.aload_n 0, 1) := by decide +kernel
theorem dX1_clear_1 : decode cX1_clear 1 = .ok (.iconst (-1), 1) := by decide +kernel
theorem dX1_clear_2 : decode cX1_clear 2 = .ok (.putfield 9, 3) := by decide +kernel
theorem dX1_clear_5 : decode cX1_clear 5 = .ok (.aload_n 0, 1) := by decide +kernel
theorem dX1_clear_6 : decode cX1_clear 6 = .ok (.iconst (-1), 1) := by decide +kernel
theorem dX1_clear_7 : decode cX1_clear 7 = .ok (.putfield 15, 3) := by decide +kernel
theorem dX1_clear_10 : decode cX1_clear 10 = .ok (.aload_n 0, 1) := by decide +kernel
theorem dX1_clear_11 : decode cX1_clear 11 = .ok (.iconst 0, 1) := by decide +kernel
theorem dX1_clear_12 : decode cX1_clear 12 = .ok (.putfield 18, 3) := by decide +kernel
theorem dX1_clear_15 : decode cX1_clear 15 = .ok (.aload_n 0, 1) := by decide +kernel
theorem dX1_clear_16 : decode cX1_clear 16 = .ok (.iconst 0, 1) := by decide +kernel
theorem dX1_clear_17 : decode cX1_clear 17 = .ok (.putfield 21, 3) := by decide +kernel
theorem dX1_clear_20 : decode cX1_clear 20 = .ok (.return_, 1) := by decide +kernel
theorem dX1_offer_0 : decode cX1_offer 0 = .ok (.iload 4, 2) := by decide +kernel
theorem dX1_offer_2 : decode cX1_offer 2 = .ok (.aload_n 0, 1) := by decide +kernel
theorem dX1_offer_3 : decode cX1_offer 3 = .ok (.getfield 21, 3) := by decide +kernel
theorem dX1_offer_6 : decode cX1_offer 6 = .ok (.if_icmp .ne 31, 3) := by decide +kernel
theorem dX1_offer_9 : decode cX1_offer 9 = .ok (.iload_n 1, 1) := by decide +kernel
theorem dX1_offer_10 : decode cX1_offer 10 = .ok (.aload_n 0, 1) := by decide +kernel
theorem dX1_offer_11 : decode cX1_offer 11 = .ok (.getfield 9, 3) := by decide +kernel
theorem dX1_offer_14 : decode cX1_offer 14 = .ok (.if_icmp .ne 23, 3) := by decide +kernel
theorem dX1_offer_17 : decode cX1_offer 17 = .ok (.iload_n 2, 1) := by decide +kernel
theorem dX1_offer_18 : decode cX1_offer 18 = .ok (.aload_n 0, 1) := by decide +kernel
theorem dX1_offer_19 : decode cX1_offer 19 = .ok (.getfield 15, 3) := by decide +kernel
theorem dX1_offer_22 : decode cX1_offer 22 = .ok (.if_icmp .ne 15, 3) := by decide +kernel
theorem dX1_offer_25 : decode cX1_offer 25 = .ok (.iload_n 3, 1) := by decide +kernel
theorem dX1_offer_26 : decode cX1_offer 26 = .ok (.aload_n 0, 1) := by decide +kernel
theorem dX1_offer_27 : decode cX1_offer 27 = .ok (.getfield 18, 3) := by decide +kernel
theorem dX1_offer_30 : decode cX1_offer 30 = .ok (.if_icmp .ge 7, 3) := by decide +kernel
theorem dX1_offer_33 : decode cX1_offer 33 = .ok (.iconst 1, 1) := by decide +kernel
theorem dX1_offer_34 : decode cX1_offer 34 = .ok (.goto 4, 3) := by decide +kernel
theorem dX1_offer_37 : decode cX1_offer 37 = .ok (.iconst 0, 1) := by decide +kernel
theorem dX1_offer_38 : decode cX1_offer 38 = .ok (.istore 5, 2) := by decide +kernel
theorem dX1_offer_40 : decode cX1_offer 40 = .ok (.iload 4, 2) := by decide +kernel
theorem dX1_offer_42 : decode cX1_offer 42 = .ok (.aload_n 0, 1) := by decide +kernel
theorem dX1_offer_43 : decode cX1_offer 43 = .ok (.getfield 21, 3) := by decide +kernel
theorem dX1_offer_46 : decode cX1_offer 46 = .ok (.if_icmp .lt 8, 3) := by decide +kernel
theorem dX1_offer_49 : decode cX1_offer 49 = .ok (.iload 5, 2) := by decide +kernel
theorem dX1_offer_51 : decode cX1_offer 51 = .ok (.ifCond .eq 24, 3) := by decide +kernel
theorem dX1_offer_54 : decode cX1_offer 54 = .ok (.aload_n 0, 1) := by decide +kernel
theorem dX1_offer_55 : decode cX1_offer 55 = .ok (.iload_n 1, 1) := by decide +kernel
theorem dX1_offer_56 : decode cX1_offer 56 = .ok (.putfield 9, 3) := by decide +kernel
theorem dX1_offer_59 : decode cX1_offer 59 = .ok (.aload_n 0, 1) := by decide +kernel
theorem dX1_offer_60 : decode cX1_offer 60 = .ok (.iload_n 2, 1) := by decide +kernel
theorem dX1_offer_61 : decode cX1_offer 61 = .ok (.putfield 15, 3) := by decide +kernel
theorem dX1_offer_64 : decode cX1_offer 64 = .ok (.aload_n 0, 1) := by decide +kernel
theorem dX1_offer_65 : decode cX1_offer 65 = .ok (.iload_n 3, 1) := by decide +kernel
theorem dX1_offer_66 : decode cX1_offer 66 = .ok (.putfield 18, 3) := by decide +kernel
theorem dX1_offer_69 : decode cX1_offer 69 = .ok (.aload_n 0, 1) := by decide +kernel
theorem dX1_offer_70 : decode cX1_offer 70 = .ok (.iload 4, 2) := by decide +kernel
theorem dX1_offer_72 : decode cX1_offer 72 = .ok (.putfield 21, 3) := by decide +kernel
theorem dX1_offer_75 : decode cX1_offer 75 = .ok (.return_, 1) := by decide +kernel
theorem dX2_init_0 : decode cX2_init 0 = .ok (.aload_n 0, 1) := by decide +kernel
theorem dX2_init_1 : decode cX2_init 1 = .ok (.invokespecial 3, 3) := by decide +kernel
theorem dX2_init_4 : decode cX2_init 4 = .ok (.aload_n 0, 1) := by decide +kernel
theorem dX2_init_5 : decode cX2_init 5 = .ok (.bipush 40, 2) := by decide +kernel
theorem dX2_init_7 : decode cX2_init 7 = .ok (.newarray .int, 2) := by decide +kernel
theorem dX2_init_9 : decode cX2_init 9 = .ok (.putfield 9, 3) := by decide +kernel
theorem dX2_init_12 : decode cX2_init 12 = .ok (.aload_n 0, 1) := by decide +kernel
theorem dX2_init_13 : decode cX2_init 13 = .ok (.bipush 40, 2) := by decide +kernel
theorem dX2_init_15 : decode cX2_init 15 = .ok (.newarray .int, 2) := by decide +kernel
theorem dX2_init_17 : decode cX2_init 17 = .ok (.putfield 15, 3) := by decide +kernel
theorem dX2_init_20 : decode cX2_init 20 = .ok (.return_, 1) := by decide +kernel
theorem dX2_clear_0 : decode cX2_clear 0 = .ok (.aload_n 0, 1) := by decide +kernel
theorem dX2_clear_1 : decode cX2_clear 1 = .ok (.iconst 0, 1) := by decide +kernel
theorem dX2_clear_2 : decode cX2_clear 2 = .ok (.putfield 18, 3) := by decide +kernel
theorem dX2_clear_5 : decode cX2_clear 5 = .ok (.return_, 1) := by decide +kernel
theorem dX2_numberIn_0 : decode cX2_numberIn 0 = .ok (.iload_n 1, 1) := by decide +kernel
theorem dX2_numberIn_1 : decode cX2_numberIn 1 = .ok (.ifCond .lt 21, 3) := by decide +kernel
theorem dX2_numberIn_4 : decode cX2_numberIn 4 = .ok (.iload_n 1, 1) := by decide +kernel
theorem dX2_numberIn_5 : decode cX2_numberIn 5 = .ok (.aload_n 0, 1) := by decide +kernel
theorem dX2_numberIn_6 : decode cX2_numberIn 6 = .ok (.getfield 15, 3) := by decide +kernel
theorem dX2_numberIn_9 : decode cX2_numberIn 9 = .ok (.arraylength, 1) := by decide +kernel
theorem dX2_numberIn_10 : decode cX2_numberIn 10 = .ok (.if_icmp .ge 12, 3) := by decide +kernel
theorem dX2_numberIn_13 : decode cX2_numberIn 13 = .ok (.aload_n 0, 1) := by decide +kernel
theorem dX2_numberIn_14 : decode cX2_numberIn 14 = .ok (.getfield 15, 3) := by decide +kernel
theorem dX2_numberIn_17 : decode cX2_numberIn 17 = .ok (.iload_n 1, 1) := by decide +kernel
theorem dX2_numberIn_18 : decode cX2_numberIn 18 = .ok (.iaload, 1) := by decide +kernel
theorem dX2_numberIn_19 : decode cX2_numberIn 19 = .ok (.goto 4, 3) := by decide +kernel
theorem dX2_numberIn_22 : decode cX2_numberIn 22 = .ok (.iconst (-1), 1) := by decide +kernel
theorem dX2_numberIn_23 : decode cX2_numberIn 23 = .ok (.ireturn, 1) := by decide +kernel
theorem dX2_insert_0 : decode cX2_insert 0 = .ok (.aload_n 0, 1) := by decide +kernel
theorem dX2_insert_1 : decode cX2_insert 1 = .ok (.getfield 18, 3) := by decide +kernel
theorem dX2_insert_4 : decode cX2_insert 4 = .ok (.aload_n 0, 1) := by decide +kernel
theorem dX2_insert_5 : decode cX2_insert 5 = .ok (.getfield 9, 3) := by decide +kernel
theorem dX2_insert_8 : decode cX2_insert 8 = .ok (.arraylength, 1) := by decide +kernel
theorem dX2_insert_9 : decode cX2_insert 9 = .ok (.if_icmp .lt 4, 3) := by decide +kernel
theorem dX2_insert_12 : decode cX2_insert 12 = .ok (.return_, 1) := by decide +kernel
theorem dX2_insert_13 : decode cX2_insert 13 = .ok (.aload_n 0, 1) := by decide +kernel
theorem dX2_insert_14 : decode cX2_insert 14 = .ok (.getfield 18, 3) := by decide +kernel
theorem dX2_insert_17 : decode cX2_insert 17 = .ok (.istore_n 3, 1) := by decide +kernel
theorem dX2_insert_18 : decode cX2_insert 18 = .ok (.iload_n 3, 1) := by decide +kernel
theorem dX2_insert_19 : decode cX2_insert 19 = .ok (.ifCond .le 49, 3) := by decide +kernel
theorem dX2_insert_22 : decode cX2_insert 22 = .ok (.aload_n 0, 1) := by decide +kernel
theorem dX2_insert_23 : decode cX2_insert 23 = .ok (.getfield 9, 3) := by decide +kernel
theorem dX2_insert_26 : decode cX2_insert 26 = .ok (.iload_n 3, 1) := by decide +kernel
theorem dX2_insert_27 : decode cX2_insert 27 = .ok (.iconst 1, 1) := by decide +kernel
theorem dX2_insert_28 : decode cX2_insert 28 = .ok (.isub, 1) := by decide +kernel
theorem dX2_insert_29 : decode cX2_insert 29 = .ok (.iaload, 1) := by decide +kernel
theorem dX2_insert_30 : decode cX2_insert 30 = .ok (.iload_n 1, 1) := by decide +kernel
theorem dX2_insert_31 : decode cX2_insert 31 = .ok (.if_icmp .le 37, 3) := by decide +kernel
theorem dX2_insert_34 : decode cX2_insert 34 = .ok (.aload_n 0, 1) := by decide +kernel
theorem dX2_insert_35 : decode cX2_insert 35 = .ok (.getfield 9, 3) := by decide +kernel
theorem dX2_insert_38 : decode cX2_insert 38 = .ok (.iload_n 3, 1) := by decide +kernel
theorem dX2_insert_39 : decode cX2_insert 39 = .ok (.aload_n 0, 1) := by decide +kernel
theorem dX2_insert_40 : decode cX2_insert 40 = .ok (.getfield 9, 3) := by decide +kernel
theorem dX2_insert_43 : decode cX2_insert 43 = .ok (.iload_n 3, 1) := by decide +kernel
theorem dX2_insert_44 : decode cX2_insert 44 = .ok (.iconst 1, 1) := by decide +kernel
theorem dX2_insert_45 : decode cX2_insert 45 = .ok (.isub, 1) := by decide +kernel
theorem dX2_insert_46 : decode cX2_insert 46 = .ok (.iaload, 1) := by decide +kernel
theorem dX2_insert_47 : decode cX2_insert 47 = .ok (.iastore, 1) := by decide +kernel
theorem dX2_insert_48 : decode cX2_insert 48 = .ok (.aload_n 0, 1) := by decide +kernel
theorem dX2_insert_49 : decode cX2_insert 49 = .ok (.getfield 15, 3) := by decide +kernel
theorem dX2_insert_52 : decode cX2_insert 52 = .ok (.iload_n 3, 1) := by decide +kernel
theorem dX2_insert_53 : decode cX2_insert 53 = .ok (.aload_n 0, 1) := by decide +kernel
theorem dX2_insert_54 : decode cX2_insert 54 = .ok (.getfield 15, 3) := by decide +kernel
theorem dX2_insert_57 : decode cX2_insert 57 = .ok (.iload_n 3, 1) := by decide +kernel
theorem dX2_insert_58 : decode cX2_insert 58 = .ok (.iconst 1, 1) := by decide +kernel
theorem dX2_insert_59 : decode cX2_insert 59 = .ok (.isub, 1) := by decide +kernel
theorem dX2_insert_60 : decode cX2_insert 60 = .ok (.iaload, 1) := by decide +kernel
theorem dX2_insert_61 : decode cX2_insert 61 = .ok (.iastore, 1) := by decide +kernel
theorem dX2_insert_62 : decode cX2_insert 62 = .ok (.iinc 3 (-1), 3) := by decide +kernel
theorem dX2_insert_65 : decode cX2_insert 65 = .ok (.goto (-47), 3) := by decide +kernel
theorem dX2_insert_68 : decode cX2_insert 68 = .ok (.aload_n 0, 1) := by decide +kernel
theorem dX2_insert_69 : decode cX2_insert 69 = .ok (.getfield 9, 3) := by decide +kernel
theorem dX2_insert_72 : decode cX2_insert 72 = .ok (.iload_n 3, 1) := by decide +kernel
theorem dX2_insert_73 : decode cX2_insert 73 = .ok (.iload_n 1, 1) := by decide +kernel
theorem dX2_insert_74 : decode cX2_insert 74 = .ok (.iastore, 1) := by decide +kernel
theorem dX2_insert_75 : decode cX2_insert 75 = .ok (.aload_n 0, 1) := by decide +kernel
theorem dX2_insert_76 : decode cX2_insert 76 = .ok (.getfield 15, 3) := by decide +kernel
theorem dX2_insert_79 : decode cX2_insert 79 = .ok (.iload_n 3, 1) := by decide +kernel
theorem dX2_insert_80 : decode cX2_insert 80 = .ok (.iload_n 2, 1) := by decide +kernel
theorem dX2_insert_81 : decode cX2_insert 81 = .ok (.iastore, 1) := by decide +kernel
theorem dX2_insert_82 : decode cX2_insert 82 = .ok (.aload_n 0, 1) := by decide +kernel
theorem dX2_insert_83 : decode cX2_insert 83 = .ok (.dup, 1) := by decide +kernel
theorem dX2_insert_84 : decode cX2_insert 84 = .ok (.getfield 18, 3) := by decide +kernel
theorem dX2_insert_87 : decode cX2_insert 87 = .ok (.iconst 1, 1) := by decide +kernel
theorem dX2_insert_88 : decode cX2_insert 88 = .ok (.iadd, 1) := by decide +kernel
theorem dX2_insert_89 : decode cX2_insert 89 = .ok (.putfield 18, 3) := by decide +kernel
theorem dX2_insert_92 : decode cX2_insert 92 = .ok (.return_, 1) := by decide +kernel
theorem dX3_init_0 : decode cX3_init 0 = .ok (.aload_n 0, 1) := by decide +kernel
theorem dX3_init_1 : decode cX3_init 1 = .ok (.invokespecial 1, 3) := by decide +kernel
theorem dX3_init_4 : decode cX3_init 4 = .ok (.aload_n 0, 1) := by decide +kernel
theorem dX3_init_5 : decode cX3_init 5 = .ok (.sipush 270, 3) := by decide +kernel
theorem dX3_init_8 : decode cX3_init 8 = .ok (.putfield 7, 3) := by decide +kernel
theorem dX3_init_11 : decode cX3_init 11 = .ok (.aload_n 0, 1) := by decide +kernel
theorem dX3_init_12 : decode cX3_init 12 = .ok (.sipush 720, 3) := by decide +kernel
theorem dX3_init_15 : decode cX3_init 15 = .ok (.putfield 13, 3) := by decide +kernel
theorem dX3_init_18 : decode cX3_init 18 = .ok (.aload_n 0, 1) := by decide +kernel
theorem dX3_init_19 : decode cX3_init 19 = .ok (.bipush 30, 2) := by decide +kernel
theorem dX3_init_21 : decode cX3_init 21 = .ok (.putfield 16, 3) := by decide +kernel
theorem dX3_init_24 : decode cX3_init 24 = .ok (.aload_n 0, 1) := by decide +kernel
theorem dX3_init_25 : decode cX3_init 25 = .ok (.sipush 660, 3) := by decide +kernel
theorem dX3_init_28 : decode cX3_init 28 = .ok (.putfield 19, 3) := by decide +kernel
theorem dX3_init_31 : decode cX3_init 31 = .ok (.return_, 1) := by decide +kernel
theorem dX4_init_0 : decode cX4_init 0 = .ok (.aload_n 0, 1) := by decide +kernel
theorem dX4_init_1 : decode cX4_init 1 = .ok (.invokespecial 3, 3) := by decide +kernel
theorem dX4_init_4 : decode cX4_init 4 = .ok (.aload_n 0, 1) := by decide +kernel
theorem dX4_init_5 : decode cX4_init 5 = .ok (.bipush 6, 2) := by decide +kernel
theorem dX4_init_7 : decode cX4_init 7 = .ok (.bipush 6, 2) := by decide +kernel
theorem dX4_init_9 : decode cX4_init 9 = .ok (.multianewarray 9 2, 4) := by decide +kernel
theorem dX4_init_13 : decode cX4_init 13 = .ok (.putfield 11, 3) := by decide +kernel
theorem dX4_init_16 : decode cX4_init 16 = .ok (.aload_n 0, 1) := by decide +kernel
theorem dX4_init_17 : decode cX4_init 17 = .ok (.bipush 40, 2) := by decide +kernel
theorem dX4_init_19 : decode cX4_init 19 = .ok (.newarray .int, 2) := by decide +kernel
theorem dX4_init_21 : decode cX4_init 21 = .ok (.putfield 16, 3) := by decide +kernel
theorem dX4_init_24 : decode cX4_init 24 = .ok (.aload_n 0, 1) := by decide +kernel
theorem dX4_init_25 : decode cX4_init 25 = .ok (.bipush 40, 2) := by decide +kernel
theorem dX4_init_27 : decode cX4_init 27 = .ok (.newarray .int, 2) := by decide +kernel
theorem dX4_init_29 : decode cX4_init 29 = .ok (.putfield 20, 3) := by decide +kernel
theorem dX4_init_32 : decode cX4_init 32 = .ok (.aload_n 0, 1) := by decide +kernel
theorem dX4_init_33 : decode cX4_init 33 = .ok (.bipush 40, 2) := by decide +kernel
theorem dX4_init_35 : decode cX4_init 35 = .ok (.newarray .int, 2) := by decide +kernel
theorem dX4_init_37 : decode cX4_init 37 = .ok (.putfield 23, 3) := by decide +kernel
theorem dX4_init_40 : decode cX4_init 40 = .ok (.aload_n 0, 1) := by decide +kernel
theorem dX4_init_41 : decode cX4_init 41 = .ok (.bipush 40, 2) := by decide +kernel
theorem dX4_init_43 : decode cX4_init 43 = .ok (.newarray .int, 2) := by decide +kernel
theorem dX4_init_45 : decode cX4_init 45 = .ok (.putfield 26, 3) := by decide +kernel
theorem dX4_init_48 : decode cX4_init 48 = .ok (.iconst 0, 1) := by decide +kernel
theorem dX4_init_49 : decode cX4_init 49 = .ok (.istore_n 1, 1) := by decide +kernel
theorem dX4_init_50 : decode cX4_init 50 = .ok (.iload_n 1, 1) := by decide +kernel
theorem dX4_init_51 : decode cX4_init 51 = .ok (.bipush 6, 2) := by decide +kernel
theorem dX4_init_53 : decode cX4_init 53 = .ok (.if_icmp .ge 42, 3) := by decide +kernel
theorem dX4_init_56 : decode cX4_init 56 = .ok (.iconst 0, 1) := by decide +kernel
theorem dX4_init_57 : decode cX4_init 57 = .ok (.istore_n 2, 1) := by decide +kernel
theorem dX4_init_58 : decode cX4_init 58 = .ok (.iload_n 2, 1) := by decide +kernel
theorem dX4_init_59 : decode cX4_init 59 = .ok (.bipush 6, 2) := by decide +kernel
theorem dX4_init_61 : decode cX4_init 61 = .ok (.if_icmp .ge 28, 3) := by decide +kernel
theorem dX4_init_64 : decode cX4_init 64 = .ok (.aload_n 0, 1) := by decide +kernel
theorem dX4_init_65 : decode cX4_init 65 = .ok (.getfield 11, 3) := by decide +kernel
theorem dX4_init_68 : decode cX4_init 68 = .ok (.iload_n 1, 1) := by decide +kernel
theorem dX4_init_69 : decode cX4_init 69 = .ok (.aaload, 1) := by decide +kernel
theorem dX4_init_70 : decode cX4_init 70 = .ok (.iload_n 2, 1) := by decide +kernel
theorem dX4_init_71 : decode cX4_init 71 = .ok (.iload_n 1, 1) := by decide +kernel
theorem dX4_init_72 : decode cX4_init 72 = .ok (.iload_n 2, 1) := by decide +kernel
theorem dX4_init_73 : decode cX4_init 73 = .ok (.if_icmp .ne 7, 3) := by decide +kernel
theorem dX4_init_76 : decode cX4_init 76 = .ok (.iconst 0, 1) := by decide +kernel
theorem dX4_init_77 : decode cX4_init 77 = .ok (.goto 5, 3) := by decide +kernel
theorem dX4_init_80 : decode cX4_init 80 = .ok (.bipush 15, 2) := by decide +kernel
theorem dX4_init_82 : decode cX4_init 82 = .ok (.iastore, 1) := by decide +kernel
theorem dX4_init_83 : decode cX4_init 83 = .ok (.iinc 2 1, 3) := by decide +kernel
theorem dX4_init_86 : decode cX4_init 86 = .ok (.goto (-28), 3) := by decide +kernel
theorem dX4_init_89 : decode cX4_init 89 = .ok (.iinc 1 1, 3) := by decide +kernel
theorem dX4_init_92 : decode cX4_init 92 = .ok (.goto (-42), 3) := by decide +kernel
theorem dX4_init_95 : decode cX4_init 95 = .ok (.return_, 1) := by decide +kernel
theorem dX4_wayFrom_0 : decode cX4_wayFrom 0 = .ok (.iload_n 1, 1) := by decide +kernel
theorem dX4_wayFrom_1 : decode cX4_wayFrom 1 = .ok (.ifCond .lt 30, 3) := by decide +kernel
theorem dX4_wayFrom_4 : decode cX4_wayFrom 4 = .ok (.iload_n 1, 1) := by decide +kernel
theorem dX4_wayFrom_5 : decode cX4_wayFrom 5 = .ok (.bipush 6, 2) := by decide +kernel
theorem dX4_wayFrom_7 : decode cX4_wayFrom 7 = .ok (.if_icmp .ge 24, 3) := by decide +kernel
theorem dX4_wayFrom_10 : decode cX4_wayFrom 10 = .ok (.iload_n 2, 1) := by decide +kernel
theorem dX4_wayFrom_11 : decode cX4_wayFrom 11 = .ok (.ifCond .lt 20, 3) := by decide +kernel
theorem dX4_wayFrom_14 : decode cX4_wayFrom 14 = .ok (.iload_n 2, 1) := by decide +kernel
theorem dX4_wayFrom_15 : decode cX4_wayFrom 15 = .ok (.bipush 6, 2) := by decide +kernel
theorem dX4_wayFrom_17 : decode cX4_wayFrom 17 = .ok (.if_icmp .ge 14, 3) := by decide +kernel
theorem dX4_wayFrom_20 : decode cX4_wayFrom 20 = .ok (.aload_n 0, 1) := by decide +kernel
theorem dX4_wayFrom_21 : decode cX4_wayFrom 21 = .ok (.getfield 11, 3) := by decide +kernel
theorem dX4_wayFrom_24 : decode cX4_wayFrom 24 = .ok (.iload_n 1, 1) := by decide +kernel
theorem dX4_wayFrom_25 : decode cX4_wayFrom 25 = .ok (.aaload, 1) := by decide +kernel
theorem dX4_wayFrom_26 : decode cX4_wayFrom 26 = .ok (.iload_n 2, 1) := by decide +kernel
theorem dX4_wayFrom_27 : decode cX4_wayFrom 27 = .ok (.iaload, 1) := by decide +kernel
theorem dX4_wayFrom_28 : decode cX4_wayFrom 28 = .ok (.goto 4, 3) := by decide +kernel
theorem dX4_wayFrom_31 : decode cX4_wayFrom 31 = .ok (.iconst 0, 1) := by decide +kernel
theorem dX4_wayFrom_32 : decode cX4_wayFrom 32 = .ok (.ireturn, 1) := by decide +kernel
theorem dX4_changeWay_0 : decode cX4_changeWay 0 = .ok (.iload_n 1, 1) := by decide +kernel
theorem dX4_changeWay_1 : decode cX4_changeWay 1 = .ok (.ifCond .lt 37, 3) := by decide +kernel
theorem dX4_changeWay_4 : decode cX4_changeWay 4 = .ok (.iload_n 1, 1) := by decide +kernel
theorem dX4_changeWay_5 : decode cX4_changeWay 5 = .ok (.bipush 6, 2) := by decide +kernel
theorem dX4_changeWay_7 : decode cX4_changeWay 7 = .ok (.if_icmp .ge 31, 3) := by decide +kernel
theorem dX4_changeWay_10 : decode cX4_changeWay 10 = .ok (.iload_n 2, 1) := by decide +kernel
theorem dX4_changeWay_11 : decode cX4_changeWay 11 = .ok (.ifCond .lt 27, 3) := by decide +kernel
theorem dX4_changeWay_14 : decode cX4_changeWay 14 = .ok (.iload_n 2, 1) := by decide +kernel
theorem dX4_changeWay_15 : decode cX4_changeWay 15 = .ok (.bipush 6, 2) := by decide +kernel
theorem dX4_changeWay_17 : decode cX4_changeWay 17 = .ok (.if_icmp .ge 21, 3) := by decide +kernel
theorem dX4_changeWay_20 : decode cX4_changeWay 20 = .ok (.aload_n 0, 1) := by decide +kernel
theorem dX4_changeWay_21 : decode cX4_changeWay 21 = .ok (.getfield 11, 3) := by decide +kernel
theorem dX4_changeWay_24 : decode cX4_changeWay 24 = .ok (.iload_n 1, 1) := by decide +kernel
theorem dX4_changeWay_25 : decode cX4_changeWay 25 = .ok (.aaload, 1) := by decide +kernel
theorem dX4_changeWay_26 : decode cX4_changeWay 26 = .ok (.iload_n 2, 1) := by decide +kernel
theorem dX4_changeWay_27 : decode cX4_changeWay 27 = .ok (.iload_n 3, 1) := by decide +kernel
theorem dX4_changeWay_28 : decode cX4_changeWay 28 = .ok (.iastore, 1) := by decide +kernel
theorem dX4_changeWay_29 : decode cX4_changeWay 29 = .ok (.aload_n 0, 1) := by decide +kernel
theorem dX4_changeWay_30 : decode cX4_changeWay 30 = .ok (.getfield 11, 3) := by decide +kernel
theorem dX4_changeWay_33 : decode cX4_changeWay 33 = .ok (.iload_n 2, 1) := by decide +kernel
theorem dX4_changeWay_34 : decode cX4_changeWay 34 = .ok (.aaload, 1) := by decide +kernel
theorem dX4_changeWay_35 : decode cX4_changeWay 35 = .ok (.iload_n 1, 1) := by decide +kernel
theorem dX4_changeWay_36 : decode cX4_changeWay 36 = .ok (.iload_n 3, 1) := by decide +kernel
theorem dX4_changeWay_37 : decode cX4_changeWay 37 = .ok (.iastore, 1) := by decide +kernel
theorem dX4_changeWay_38 : decode cX4_changeWay 38 = .ok (.return_, 1) := by decide +kernel
theorem dX4_append_0 : decode cX4_append 0 = .ok (.aload_n 0, 1) := by decide +kernel
theorem dX4_append_1 : decode cX4_append 1 = .ok (.getfield 29, 3) := by decide +kernel
theorem dX4_append_4 : decode cX4_append 4 = .ok (.bipush 40, 2) := by decide +kernel
theorem dX4_append_6 : decode cX4_append 6 = .ok (.if_icmp .lt 5, 3) := by decide +kernel
theorem dX4_append_9 : decode cX4_append 9 = .ok (.iconst (-1), 1) := by decide +kernel
theorem dX4_append_10 : decode cX4_append 10 = .ok (.ireturn, 1) := by decide +kernel
theorem dX4_append_11 : decode cX4_append 11 = .ok (.aload_n 0, 1) := by decide +kernel
theorem dX4_append_12 : decode cX4_append 12 = .ok (.getfield 16, 3) := by decide +kernel
theorem dX4_append_15 : decode cX4_append 15 = .ok (.aload_n 0, 1) := by decide +kernel
theorem dX4_append_16 : decode cX4_append 16 = .ok (.getfield 29, 3) := by decide +kernel
theorem dX4_append_19 : decode cX4_append 19 = .ok (.iload_n 1, 1) := by decide +kernel
theorem dX4_append_20 : decode cX4_append 20 = .ok (.iastore, 1) := by decide +kernel
theorem dX4_append_21 : decode cX4_append 21 = .ok (.aload_n 0, 1) := by decide +kernel
theorem dX4_append_22 : decode cX4_append 22 = .ok (.getfield 20, 3) := by decide +kernel
theorem dX4_append_25 : decode cX4_append 25 = .ok (.aload_n 0, 1) := by decide +kernel
theorem dX4_append_26 : decode cX4_append 26 = .ok (.getfield 29, 3) := by decide +kernel
theorem dX4_append_29 : decode cX4_append 29 = .ok (.iload_n 2, 1) := by decide +kernel
theorem dX4_append_30 : decode cX4_append 30 = .ok (.iastore, 1) := by decide +kernel
theorem dX4_append_31 : decode cX4_append 31 = .ok (.aload_n 0, 1) := by decide +kernel
theorem dX4_append_32 : decode cX4_append 32 = .ok (.getfield 23, 3) := by decide +kernel
theorem dX4_append_35 : decode cX4_append 35 = .ok (.aload_n 0, 1) := by decide +kernel
theorem dX4_append_36 : decode cX4_append 36 = .ok (.getfield 29, 3) := by decide +kernel
theorem dX4_append_39 : decode cX4_append 39 = .ok (.iload_n 3, 1) := by decide +kernel
theorem dX4_append_40 : decode cX4_append 40 = .ok (.iastore, 1) := by decide +kernel
theorem dX4_append_41 : decode cX4_append 41 = .ok (.aload_n 0, 1) := by decide +kernel
theorem dX4_append_42 : decode cX4_append 42 = .ok (.getfield 26, 3) := by decide +kernel
theorem dX4_append_45 : decode cX4_append 45 = .ok (.aload_n 0, 1) := by decide +kernel
theorem dX4_append_46 : decode cX4_append 46 = .ok (.getfield 29, 3) := by decide +kernel
theorem dX4_append_49 : decode cX4_append 49 = .ok (.iload 4, 2) := by decide +kernel
theorem dX4_append_51 : decode cX4_append 51 = .ok (.iastore, 1) := by decide +kernel
theorem dX4_append_52 : decode cX4_append 52 = .ok (.aload_n 0, 1) := by decide +kernel
theorem dX4_append_53 : decode cX4_append 53 = .ok (.dup, 1) := by decide +kernel
theorem dX4_append_54 : decode cX4_append 54 = .ok (.getfield 29, 3) := by decide +kernel
theorem dX4_append_57 : decode cX4_append 57 = .ok (.dup_x1, 1) := by decide +kernel
theorem dX4_append_58 : decode cX4_append 58 = .ok (.iconst 1, 1) := by decide +kernel
theorem dX4_append_59 : decode cX4_append 59 = .ok (.iadd, 1) := by decide +kernel
theorem dX4_append_60 : decode cX4_append 60 = .ok (.putfield 29, 3) := by decide +kernel
theorem dX4_append_63 : decode cX4_append 63 = .ok (.ireturn, 1) := by decide +kernel
theorem dX4_fromOf_0 : decode cX4_fromOf 0 = .ok (.iload_n 1, 1) := by decide +kernel
theorem dX4_fromOf_1 : decode cX4_fromOf 1 = .ok (.ifCond .lt 21, 3) := by decide +kernel
theorem dX4_fromOf_4 : decode cX4_fromOf 4 = .ok (.iload_n 1, 1) := by decide +kernel
theorem dX4_fromOf_5 : decode cX4_fromOf 5 = .ok (.aload_n 0, 1) := by decide +kernel
theorem dX4_fromOf_6 : decode cX4_fromOf 6 = .ok (.getfield 16, 3) := by decide +kernel
theorem dX4_fromOf_9 : decode cX4_fromOf 9 = .ok (.arraylength, 1) := by decide +kernel
theorem dX4_fromOf_10 : decode cX4_fromOf 10 = .ok (.if_icmp .ge 12, 3) := by decide +kernel
theorem dX4_fromOf_13 : decode cX4_fromOf 13 = .ok (.aload_n 0, 1) := by decide +kernel
theorem dX4_fromOf_14 : decode cX4_fromOf 14 = .ok (.getfield 16, 3) := by decide +kernel
theorem dX4_fromOf_17 : decode cX4_fromOf 17 = .ok (.iload_n 1, 1) := by decide +kernel
theorem dX4_fromOf_18 : decode cX4_fromOf 18 = .ok (.iaload, 1) := by decide +kernel
theorem dX4_fromOf_19 : decode cX4_fromOf 19 = .ok (.goto 4, 3) := by decide +kernel
theorem dX4_fromOf_22 : decode cX4_fromOf 22 = .ok (.iconst 0, 1) := by decide +kernel
theorem dX4_fromOf_23 : decode cX4_fromOf 23 = .ok (.ireturn, 1) := by decide +kernel
theorem dX4_toOf_0 : decode cX4_toOf 0 = .ok (.iload_n 1, 1) := by decide +kernel
theorem dX4_toOf_1 : decode cX4_toOf 1 = .ok (.ifCond .lt 21, 3) := by decide +kernel
theorem dX4_toOf_4 : decode cX4_toOf 4 = .ok (.iload_n 1, 1) := by decide +kernel
theorem dX4_toOf_5 : decode cX4_toOf 5 = .ok (.aload_n 0, 1) := by decide +kernel
theorem dX4_toOf_6 : decode cX4_toOf 6 = .ok (.getfield 20, 3) := by decide +kernel
theorem dX4_toOf_9 : decode cX4_toOf 9 = .ok (.arraylength, 1) := by decide +kernel
theorem dX4_toOf_10 : decode cX4_toOf 10 = .ok (.if_icmp .ge 12, 3) := by decide +kernel
theorem dX4_toOf_13 : decode cX4_toOf 13 = .ok (.aload_n 0, 1) := by decide +kernel
theorem dX4_toOf_14 : decode cX4_toOf 14 = .ok (.getfield 20, 3) := by decide +kernel
theorem dX4_toOf_17 : decode cX4_toOf 17 = .ok (.iload_n 1, 1) := by decide +kernel
theorem dX4_toOf_18 : decode cX4_toOf 18 = .ok (.iaload, 1) := by decide +kernel
theorem dX4_toOf_19 : decode cX4_toOf 19 = .ok (.goto 4, 3) := by decide +kernel
theorem dX4_toOf_22 : decode cX4_toOf 22 = .ok (.iconst 0, 1) := by decide +kernel
theorem dX4_toOf_23 : decode cX4_toOf 23 = .ok (.ireturn, 1) := by decide +kernel
theorem dX4_departureOf_0 : decode cX4_departureOf 0 = .ok (.iload_n 1, 1) := by decide +kernel
theorem dX4_departureOf_1 : decode cX4_departureOf 1 = .ok (.ifCond .lt 21, 3) := by decide +kernel
theorem dX4_departureOf_4 : decode cX4_departureOf 4 = .ok (.iload_n 1, 1) := by decide +kernel
theorem dX4_departureOf_5 : decode cX4_departureOf 5 = .ok (.aload_n 0, 1) := by decide +kernel
theorem dX4_departureOf_6 : decode cX4_departureOf 6 = .ok (.getfield 23, 3) := by decide +kernel
theorem dX4_departureOf_9 : decode cX4_departureOf 9 = .ok (.arraylength, 1) := by decide +kernel
theorem dX4_departureOf_10 : decode cX4_departureOf 10 = .ok (.if_icmp .ge 12, 3) := by decide +kernel
theorem dX4_departureOf_13 : decode cX4_departureOf 13 = .ok (.aload_n 0, 1) := by decide +kernel
theorem dX4_departureOf_14 : decode cX4_departureOf 14 = .ok (.getfield 23, 3) := by decide +kernel
theorem dX4_departureOf_17 : decode cX4_departureOf 17 = .ok (.iload_n 1, 1) := by decide +kernel
theorem dX4_departureOf_18 : decode cX4_departureOf 18 = .ok (.iaload, 1) := by decide +kernel
theorem dX4_departureOf_19 : decode cX4_departureOf 19 = .ok (.goto 4, 3) := by decide +kernel
theorem dX4_departureOf_22 : decode cX4_departureOf 22 = .ok (.iconst 0, 1) := by decide +kernel
theorem dX4_departureOf_23 : decode cX4_departureOf 23 = .ok (.ireturn, 1) := by decide +kernel
theorem dX4_arrivalOf_0 : decode cX4_arrivalOf 0 = .ok (.iload_n 1, 1) := by decide +kernel
theorem dX4_arrivalOf_1 : decode cX4_arrivalOf 1 = .ok (.ifCond .lt 21, 3) := by decide +kernel
theorem dX4_arrivalOf_4 : decode cX4_arrivalOf 4 = .ok (.iload_n 1, 1) := by decide +kernel
theorem dX4_arrivalOf_5 : decode cX4_arrivalOf 5 = .ok (.aload_n 0, 1) := by decide +kernel
theorem dX4_arrivalOf_6 : decode cX4_arrivalOf 6 = .ok (.getfield 26, 3) := by decide +kernel
theorem dX4_arrivalOf_9 : decode cX4_arrivalOf 9 = .ok (.arraylength, 1) := by decide +kernel
theorem dX4_arrivalOf_10 : decode cX4_arrivalOf 10 = .ok (.if_icmp .ge 12, 3) := by decide +kernel
theorem dX4_arrivalOf_13 : decode cX4_arrivalOf 13 = .ok (.aload_n 0, 1) := by decide +kernel
theorem dX4_arrivalOf_14 : decode cX4_arrivalOf 14 = .ok (.getfield 26, 3) := by decide +kernel
theorem dX4_arrivalOf_17 : decode cX4_arrivalOf 17 = .ok (.iload_n 1, 1) := by decide +kernel
theorem dX4_arrivalOf_18 : decode cX4_arrivalOf 18 = .ok (.iaload, 1) := by decide +kernel
theorem dX4_arrivalOf_19 : decode cX4_arrivalOf 19 = .ok (.goto 4, 3) := by decide +kernel
theorem dX4_arrivalOf_22 : decode cX4_arrivalOf 22 = .ok (.iconst 0, 1) := by decide +kernel
theorem dX4_arrivalOf_23 : decode cX4_arrivalOf 23 = .ok (.ireturn, 1) := by decide +kernel
theorem dX4_minutesOf_0 : decode cX4_minutesOf 0 = .ok (.aload_n 0, 1) := by decide +kernel
theorem dX4_minutesOf_1 : decode cX4_minutesOf 1 = .ok (.iload_n 1, 1) := by decide +kernel
theorem dX4_minutesOf_2 : decode cX4_minutesOf 2 = .ok (.invokevirtual 33, 3) := by decide +kernel
theorem dX4_minutesOf_5 : decode cX4_minutesOf 5 = .ok (.aload_n 0, 1) := by decide +kernel
theorem dX4_minutesOf_6 : decode cX4_minutesOf 6 = .ok (.iload_n 1, 1) := by decide +kernel
theorem dX4_minutesOf_7 : decode cX4_minutesOf 7 = .ok (.invokevirtual 37, 3) := by decide +kernel
theorem dX4_minutesOf_10 : decode cX4_minutesOf 10 = .ok (.isub, 1) := by decide +kernel
theorem dX4_minutesOf_11 : decode cX4_minutesOf 11 = .ok (.ireturn, 1) := by decide +kernel
theorem dJ9_max_7cf53_0 : decode cJ9_max_7cf53 0 = .ok (.iload_n 0, 1) := by decide +kernel
theorem dJ9_max_7cf53_1 : decode cJ9_max_7cf53 1 = .ok (.iload_n 1, 1) := by decide +kernel
theorem dJ9_max_7cf53_2 : decode cJ9_max_7cf53 2 = .ok (.if_icmp .lt 7, 3) := by decide +kernel
theorem dJ9_max_7cf53_5 : decode cJ9_max_7cf53 5 = .ok (.iload_n 0, 1) := by decide +kernel
theorem dJ9_max_7cf53_6 : decode cJ9_max_7cf53 6 = .ok (.goto 4, 3) := by decide +kernel
theorem dJ9_max_7cf53_9 : decode cJ9_max_7cf53 9 = .ok (.iload_n 1, 1) := by decide +kernel
theorem dJ9_max_7cf53_10 : decode cJ9_max_7cf53 10 = .ok (.ireturn, 1) := by decide +kernel
theorem dL_setWay_0 : decode cL_setWay 0 = .ok (.aload 4, 2) := by decide +kernel
theorem dL_setWay_2 : decode cL_setWay 2 = .ok (.iconst 0, 1) := by decide +kernel
theorem dL_setWay_3 : decode cL_setWay 3 = .ok (.aload_n 0, 1) := by decide +kernel
theorem dL_setWay_4 : decode cL_setWay 4 = .ok (.iload_n 1, 1) := by decide +kernel
theorem dL_setWay_5 : decode cL_setWay 5 = .ok (.iload_n 2, 1) := by decide +kernel
theorem dL_setWay_6 : decode cL_setWay 6 = .ok (.iload_n 3, 1) := by decide +kernel
theorem dL_setWay_7 : decode cL_setWay 7 = .ok (.invokevirtual 7, 3) := by decide +kernel
theorem dL_setWay_10 : decode cL_setWay 10 = .ok (.i2l, 1) := by decide +kernel
theorem dL_setWay_11 : decode cL_setWay 11 = .ok (.lastore, 1) := by decide +kernel
theorem dL_setWay_12 : decode cL_setWay 12 = .ok (.goto 11, 3) := by decide +kernel
theorem dL_setWay_15 : decode cL_setWay 15 = .ok (.astore 5, 2) := by decide +kernel
theorem dL_setWay_17 : decode cL_setWay 17 = .ok (.iconst 1, 1) := by decide +kernel
theorem dL_setWay_18 : decode cL_setWay 18 = .ok (.ireturn, 1) := by decide +kernel
theorem dL_setWay_19 : decode cL_setWay 19 = .ok (.astore 5, 2) := by decide +kernel
theorem dL_setWay_21 : decode cL_setWay 21 = .ok (.iconst 2, 1) := by decide +kernel
theorem dL_setWay_22 : decode cL_setWay 22 = .ok (.ireturn, 1) := by decide +kernel
theorem dL_setWay_23 : decode cL_setWay 23 = .ok (.iconst 0, 1) := by decide +kernel
theorem dL_setWay_24 : decode cL_setWay 24 = .ok (.ireturn, 1) := by decide +kernel
theorem dL_addTrip_0 : decode cL_addTrip 0 = .ok (.aload 5, 2) := by decide +kernel
theorem dL_addTrip_2 : decode cL_addTrip 2 = .ok (.iconst 0, 1) := by decide +kernel
theorem dL_addTrip_3 : decode cL_addTrip 3 = .ok (.aload_n 0, 1) := by decide +kernel
theorem dL_addTrip_4 : decode cL_addTrip 4 = .ok (.iload_n 1, 1) := by decide +kernel
theorem dL_addTrip_5 : decode cL_addTrip 5 = .ok (.iload_n 2, 1) := by decide +kernel
theorem dL_addTrip_6 : decode cL_addTrip 6 = .ok (.iload_n 3, 1) := by decide +kernel
theorem dL_addTrip_7 : decode cL_addTrip 7 = .ok (.iload 4, 2) := by decide +kernel
theorem dL_addTrip_9 : decode cL_addTrip 9 = .ok (.invokevirtual 17, 3) := by decide +kernel
theorem dL_addTrip_12 : decode cL_addTrip 12 = .ok (.i2l, 1) := by decide +kernel
theorem dL_addTrip_13 : decode cL_addTrip 13 = .ok (.lastore, 1) := by decide +kernel
theorem dL_addTrip_14 : decode cL_addTrip 14 = .ok (.goto 15, 3) := by decide +kernel
theorem dL_addTrip_17 : decode cL_addTrip 17 = .ok (.astore 6, 2) := by decide +kernel
theorem dL_addTrip_19 : decode cL_addTrip 19 = .ok (.iconst 1, 1) := by decide +kernel
theorem dL_addTrip_20 : decode cL_addTrip 20 = .ok (.ireturn, 1) := by decide +kernel
theorem dL_addTrip_21 : decode cL_addTrip 21 = .ok (.astore 6, 2) := by decide +kernel
theorem dL_addTrip_23 : decode cL_addTrip 23 = .ok (.iconst 2, 1) := by decide +kernel
theorem dL_addTrip_24 : decode cL_addTrip 24 = .ok (.ireturn, 1) := by decide +kernel
theorem dL_addTrip_25 : decode cL_addTrip 25 = .ok (.astore 6, 2) := by decide +kernel
theorem dL_addTrip_27 : decode cL_addTrip 27 = .ok (.iconst 3, 1) := by decide +kernel
theorem dL_addTrip_28 : decode cL_addTrip 28 = .ok (.ireturn, 1) := by decide +kernel
theorem dL_addTrip_29 : decode cL_addTrip 29 = .ok (.iconst 0, 1) := by decide +kernel
theorem dL_addTrip_30 : decode cL_addTrip 30 = .ok (.ireturn, 1) := by decide +kernel
theorem dL_trip_0 : decode cL_trip 0 = .ok (.aload_n 3, 1) := by decide +kernel
theorem dL_trip_1 : decode cL_trip 1 = .ok (.iconst 0, 1) := by decide +kernel
theorem dL_trip_2 : decode cL_trip 2 = .ok (.aload_n 0, 1) := by decide +kernel
theorem dL_trip_3 : decode cL_trip 3 = .ok (.iload_n 1, 1) := by decide +kernel
theorem dL_trip_4 : decode cL_trip 4 = .ok (.iload_n 2, 1) := by decide +kernel
theorem dL_trip_5 : decode cL_trip 5 = .ok (.invokevirtual 23, 3) := by decide +kernel
theorem dL_trip_8 : decode cL_trip 8 = .ok (.i2l, 1) := by decide +kernel
theorem dL_trip_9 : decode cL_trip 9 = .ok (.lastore, 1) := by decide +kernel
theorem dL_trip_10 : decode cL_trip 10 = .ok (.goto 7, 3) := by decide +kernel
theorem dL_trip_13 : decode cL_trip 13 = .ok (.astore 4, 2) := by decide +kernel
theorem dL_trip_15 : decode cL_trip 15 = .ok (.iconst 1, 1) := by decide +kernel
theorem dL_trip_16 : decode cL_trip 16 = .ok (.ireturn, 1) := by decide +kernel
theorem dL_trip_17 : decode cL_trip 17 = .ok (.iconst 0, 1) := by decide +kernel
theorem dL_trip_18 : decode cL_trip 18 = .ok (.ireturn, 1) := by decide +kernel
theorem dL_setRules_0 : decode cL_setRules 0 = .ok (.aload 5, 2) := by decide +kernel
theorem dL_setRules_2 : decode cL_setRules 2 = .ok (.iconst 0, 1) := by decide +kernel
theorem dL_setRules_3 : decode cL_setRules 3 = .ok (.aload_n 0, 1) := by decide +kernel
theorem dL_setRules_4 : decode cL_setRules 4 = .ok (.iload_n 1, 1) := by decide +kernel
theorem dL_setRules_5 : decode cL_setRules 5 = .ok (.iload_n 2, 1) := by decide +kernel
theorem dL_setRules_6 : decode cL_setRules 6 = .ok (.iload_n 3, 1) := by decide +kernel
theorem dL_setRules_7 : decode cL_setRules 7 = .ok (.iload 4, 2) := by decide +kernel
theorem dL_setRules_9 : decode cL_setRules 9 = .ok (.invokevirtual 27, 3) := by decide +kernel
theorem dL_setRules_12 : decode cL_setRules 12 = .ok (.i2l, 1) := by decide +kernel
theorem dL_setRules_13 : decode cL_setRules 13 = .ok (.lastore, 1) := by decide +kernel
theorem dL_setRules_14 : decode cL_setRules 14 = .ok (.goto 7, 3) := by decide +kernel
theorem dL_setRules_17 : decode cL_setRules 17 = .ok (.astore 6, 2) := by decide +kernel
theorem dL_setRules_19 : decode cL_setRules 19 = .ok (.iconst 1, 1) := by decide +kernel
theorem dL_setRules_20 : decode cL_setRules 20 = .ok (.ireturn, 1) := by decide +kernel
theorem dL_setRules_21 : decode cL_setRules 21 = .ok (.iconst 0, 1) := by decide +kernel
theorem dL_setRules_22 : decode cL_setRules 22 = .ok (.ireturn, 1) := by decide +kernel
theorem dL_count_0 : decode cL_count 0 = .ok (.aload_n 2, 1) := by decide +kernel
theorem dL_count_1 : decode cL_count 1 = .ok (.iconst 0, 1) := by decide +kernel
theorem dL_count_2 : decode cL_count 2 = .ok (.aload_n 0, 1) := by decide +kernel
theorem dL_count_3 : decode cL_count 3 = .ok (.iload_n 1, 1) := by decide +kernel
theorem dL_count_4 : decode cL_count 4 = .ok (.invokevirtual 30, 3) := by decide +kernel
theorem dL_count_7 : decode cL_count 7 = .ok (.i2l, 1) := by decide +kernel
theorem dL_count_8 : decode cL_count 8 = .ok (.lastore, 1) := by decide +kernel
theorem dL_count_9 : decode cL_count 9 = .ok (.goto 6, 3) := by decide +kernel
theorem dL_count_12 : decode cL_count 12 = .ok (.astore_n 3, 1) := by decide +kernel
theorem dL_count_13 : decode cL_count 13 = .ok (.iconst 1, 1) := by decide +kernel
theorem dL_count_14 : decode cL_count 14 = .ok (.ireturn, 1) := by decide +kernel
theorem dL_count_15 : decode cL_count 15 = .ok (.iconst 0, 1) := by decide +kernel
theorem dL_count_16 : decode cL_count 16 = .ok (.ireturn, 1) := by decide +kernel
theorem dL_addDuty_0 : decode cL_addDuty 0 = .ok (.aload_n 1, 1) := by decide +kernel
theorem dL_addDuty_1 : decode cL_addDuty 1 = .ok (.iconst 0, 1) := by decide +kernel
theorem dL_addDuty_2 : decode cL_addDuty 2 = .ok (.aload_n 0, 1) := by decide +kernel
theorem dL_addDuty_3 : decode cL_addDuty 3 = .ok (.invokevirtual 34, 3) := by decide +kernel
theorem dL_addDuty_6 : decode cL_addDuty 6 = .ok (.i2l, 1) := by decide +kernel
theorem dL_addDuty_7 : decode cL_addDuty 7 = .ok (.lastore, 1) := by decide +kernel
theorem dL_addDuty_8 : decode cL_addDuty 8 = .ok (.goto 6, 3) := by decide +kernel
theorem dL_addDuty_11 : decode cL_addDuty 11 = .ok (.astore_n 2, 1) := by decide +kernel
theorem dL_addDuty_12 : decode cL_addDuty 12 = .ok (.iconst 1, 1) := by decide +kernel
theorem dL_addDuty_13 : decode cL_addDuty 13 = .ok (.ireturn, 1) := by decide +kernel
theorem dL_addDuty_14 : decode cL_addDuty 14 = .ok (.iconst 0, 1) := by decide +kernel
theorem dL_addDuty_15 : decode cL_addDuty 15 = .ok (.ireturn, 1) := by decide +kernel
theorem dL_put_0 : decode cL_put 0 = .ok (.aload_n 3, 1) := by decide +kernel
theorem dL_put_1 : decode cL_put 1 = .ok (.iconst 0, 1) := by decide +kernel
theorem dL_put_2 : decode cL_put 2 = .ok (.aload_n 0, 1) := by decide +kernel
theorem dL_put_3 : decode cL_put 3 = .ok (.iload_n 1, 1) := by decide +kernel
theorem dL_put_4 : decode cL_put 4 = .ok (.iload_n 2, 1) := by decide +kernel
theorem dL_put_5 : decode cL_put 5 = .ok (.invokevirtual 38, 3) := by decide +kernel
theorem dL_put_8 : decode cL_put 8 = .ok (.i2l, 1) := by decide +kernel
theorem dL_put_9 : decode cL_put 9 = .ok (.lastore, 1) := by decide +kernel
theorem dL_put_10 : decode cL_put 10 = .ok (.goto 11, 3) := by decide +kernel
theorem dL_put_13 : decode cL_put 13 = .ok (.astore 4, 2) := by decide +kernel
theorem dL_put_15 : decode cL_put 15 = .ok (.iconst 1, 1) := by decide +kernel
theorem dL_put_16 : decode cL_put 16 = .ok (.ireturn, 1) := by decide +kernel
theorem dL_put_17 : decode cL_put 17 = .ok (.astore 4, 2) := by decide +kernel
theorem dL_put_19 : decode cL_put 19 = .ok (.iconst 2, 1) := by decide +kernel
theorem dL_put_20 : decode cL_put 20 = .ok (.ireturn, 1) := by decide +kernel
theorem dL_put_21 : decode cL_put 21 = .ok (.iconst 0, 1) := by decide +kernel
theorem dL_put_22 : decode cL_put 22 = .ok (.ireturn, 1) := by decide +kernel
theorem dL_takeOut_0 : decode cL_takeOut 0 = .ok (.aload_n 2, 1) := by decide +kernel
theorem dL_takeOut_1 : decode cL_takeOut 1 = .ok (.iconst 0, 1) := by decide +kernel
theorem dL_takeOut_2 : decode cL_takeOut 2 = .ok (.aload_n 0, 1) := by decide +kernel
theorem dL_takeOut_3 : decode cL_takeOut 3 = .ok (.iload_n 1, 1) := by decide +kernel
theorem dL_takeOut_4 : decode cL_takeOut 4 = .ok (.invokevirtual 41, 3) := by decide +kernel
theorem dL_takeOut_7 : decode cL_takeOut 7 = .ok (.i2l, 1) := by decide +kernel
theorem dL_takeOut_8 : decode cL_takeOut 8 = .ok (.lastore, 1) := by decide +kernel
theorem dL_takeOut_9 : decode cL_takeOut 9 = .ok (.goto 9, 3) := by decide +kernel
theorem dL_takeOut_12 : decode cL_takeOut 12 = .ok (.astore_n 3, 1) := by decide +kernel
theorem dL_takeOut_13 : decode cL_takeOut 13 = .ok (.iconst 1, 1) := by decide +kernel
theorem dL_takeOut_14 : decode cL_takeOut 14 = .ok (.ireturn, 1) := by decide +kernel
theorem dL_takeOut_15 : decode cL_takeOut 15 = .ok (.astore_n 3, 1) := by decide +kernel
theorem dL_takeOut_16 : decode cL_takeOut 16 = .ok (.iconst 2, 1) := by decide +kernel
theorem dL_takeOut_17 : decode cL_takeOut 17 = .ok (.ireturn, 1) := by decide +kernel
theorem dL_takeOut_18 : decode cL_takeOut 18 = .ok (.iconst 0, 1) := by decide +kernel
theorem dL_takeOut_19 : decode cL_takeOut 19 = .ok (.ireturn, 1) := by decide +kernel
theorem dL_duty_0 : decode cL_duty 0 = .ok (.aload_n 3, 1) := by decide +kernel
theorem dL_duty_1 : decode cL_duty 1 = .ok (.iconst 0, 1) := by decide +kernel
theorem dL_duty_2 : decode cL_duty 2 = .ok (.aload_n 0, 1) := by decide +kernel
theorem dL_duty_3 : decode cL_duty 3 = .ok (.iload_n 1, 1) := by decide +kernel
theorem dL_duty_4 : decode cL_duty 4 = .ok (.iload_n 2, 1) := by decide +kernel
theorem dL_duty_5 : decode cL_duty 5 = .ok (.invokevirtual 44, 3) := by decide +kernel
theorem dL_duty_8 : decode cL_duty 8 = .ok (.i2l, 1) := by decide +kernel
theorem dL_duty_9 : decode cL_duty 9 = .ok (.lastore, 1) := by decide +kernel
theorem dL_duty_10 : decode cL_duty 10 = .ok (.goto 7, 3) := by decide +kernel
theorem dL_duty_13 : decode cL_duty 13 = .ok (.astore 4, 2) := by decide +kernel
theorem dL_duty_15 : decode cL_duty 15 = .ok (.iconst 1, 1) := by decide +kernel
theorem dL_duty_16 : decode cL_duty 16 = .ok (.ireturn, 1) := by decide +kernel
theorem dL_duty_17 : decode cL_duty 17 = .ok (.iconst 0, 1) := by decide +kernel
theorem dL_duty_18 : decode cL_duty 18 = .ok (.ireturn, 1) := by decide +kernel
theorem dL_tripAt_0 : decode cL_tripAt 0 = .ok (.aload_n 3, 1) := by decide +kernel
theorem dL_tripAt_1 : decode cL_tripAt 1 = .ok (.iconst 0, 1) := by decide +kernel
theorem dL_tripAt_2 : decode cL_tripAt 2 = .ok (.aload_n 0, 1) := by decide +kernel
theorem dL_tripAt_3 : decode cL_tripAt 3 = .ok (.iload_n 1, 1) := by decide +kernel
theorem dL_tripAt_4 : decode cL_tripAt 4 = .ok (.iload_n 2, 1) := by decide +kernel
theorem dL_tripAt_5 : decode cL_tripAt 5 = .ok (.invokevirtual 47, 3) := by decide +kernel
theorem dL_tripAt_8 : decode cL_tripAt 8 = .ok (.i2l, 1) := by decide +kernel
theorem dL_tripAt_9 : decode cL_tripAt 9 = .ok (.lastore, 1) := by decide +kernel
theorem dL_tripAt_10 : decode cL_tripAt 10 = .ok (.goto 7, 3) := by decide +kernel
theorem dL_tripAt_13 : decode cL_tripAt 13 = .ok (.astore 4, 2) := by decide +kernel
theorem dL_tripAt_15 : decode cL_tripAt 15 = .ok (.iconst 1, 1) := by decide +kernel
theorem dL_tripAt_16 : decode cL_tripAt 16 = .ok (.ireturn, 1) := by decide +kernel
theorem dL_tripAt_17 : decode cL_tripAt 17 = .ok (.iconst 0, 1) := by decide +kernel
theorem dL_tripAt_18 : decode cL_tripAt 18 = .ok (.ireturn, 1) := by decide +kernel
theorem dL_bestFor_0 : decode cL_bestFor 0 = .ok (.aload_n 2, 1) := by decide +kernel
theorem dL_bestFor_1 : decode cL_bestFor 1 = .ok (.iconst 0, 1) := by decide +kernel
theorem dL_bestFor_2 : decode cL_bestFor 2 = .ok (.aload_n 0, 1) := by decide +kernel
theorem dL_bestFor_3 : decode cL_bestFor 3 = .ok (.iload_n 1, 1) := by decide +kernel
theorem dL_bestFor_4 : decode cL_bestFor 4 = .ok (.invokevirtual 50, 3) := by decide +kernel
theorem dL_bestFor_7 : decode cL_bestFor 7 = .ok (.i2l, 1) := by decide +kernel
theorem dL_bestFor_8 : decode cL_bestFor 8 = .ok (.lastore, 1) := by decide +kernel
theorem dL_bestFor_9 : decode cL_bestFor 9 = .ok (.goto 6, 3) := by decide +kernel
theorem dL_bestFor_12 : decode cL_bestFor 12 = .ok (.astore_n 3, 1) := by decide +kernel
theorem dL_bestFor_13 : decode cL_bestFor 13 = .ok (.iconst 1, 1) := by decide +kernel
theorem dL_bestFor_14 : decode cL_bestFor 14 = .ok (.ireturn, 1) := by decide +kernel
theorem dL_bestFor_15 : decode cL_bestFor 15 = .ok (.iconst 0, 1) := by decide +kernel
theorem dL_bestFor_16 : decode cL_bestFor 16 = .ok (.ireturn, 1) := by decide +kernel
theorem dL_swap_0 : decode cL_swap 0 = .ok (.aload 4, 2) := by decide +kernel
theorem dL_swap_2 : decode cL_swap 2 = .ok (.iconst 0, 1) := by decide +kernel
theorem dL_swap_3 : decode cL_swap 3 = .ok (.aload_n 0, 1) := by decide +kernel
theorem dL_swap_4 : decode cL_swap 4 = .ok (.iload_n 1, 1) := by decide +kernel
theorem dL_swap_5 : decode cL_swap 5 = .ok (.iload_n 2, 1) := by decide +kernel
theorem dL_swap_6 : decode cL_swap 6 = .ok (.iload_n 3, 1) := by decide +kernel
theorem dL_swap_7 : decode cL_swap 7 = .ok (.invokevirtual 53, 3) := by decide +kernel
theorem dL_swap_10 : decode cL_swap 10 = .ok (.i2l, 1) := by decide +kernel
theorem dL_swap_11 : decode cL_swap 11 = .ok (.lastore, 1) := by decide +kernel
theorem dL_swap_12 : decode cL_swap 12 = .ok (.goto 15, 3) := by decide +kernel
theorem dL_swap_15 : decode cL_swap 15 = .ok (.astore 5, 2) := by decide +kernel
theorem dL_swap_17 : decode cL_swap 17 = .ok (.iconst 1, 1) := by decide +kernel
theorem dL_swap_18 : decode cL_swap 18 = .ok (.ireturn, 1) := by decide +kernel
theorem dL_swap_19 : decode cL_swap 19 = .ok (.astore 5, 2) := by decide +kernel
theorem dL_swap_21 : decode cL_swap 21 = .ok (.iconst 2, 1) := by decide +kernel
theorem dL_swap_22 : decode cL_swap 22 = .ok (.ireturn, 1) := by decide +kernel
theorem dL_swap_23 : decode cL_swap 23 = .ok (.astore 5, 2) := by decide +kernel
theorem dL_swap_25 : decode cL_swap 25 = .ok (.iconst 3, 1) := by decide +kernel
theorem dL_swap_26 : decode cL_swap 26 = .ok (.ireturn, 1) := by decide +kernel
theorem dL_swap_27 : decode cL_swap 27 = .ok (.iconst 0, 1) := by decide +kernel
theorem dL_swap_28 : decode cL_swap 28 = .ok (.ireturn, 1) := by decide +kernel
theorem dL_addDriver_0 : decode cL_addDriver 0 = .ok (.aload_n 1, 1) := by decide +kernel
theorem dL_addDriver_1 : decode cL_addDriver 1 = .ok (.iconst 0, 1) := by decide +kernel
theorem dL_addDriver_2 : decode cL_addDriver 2 = .ok (.aload_n 0, 1) := by decide +kernel
theorem dL_addDriver_3 : decode cL_addDriver 3 = .ok (.invokevirtual 56, 3) := by decide +kernel
theorem dL_addDriver_6 : decode cL_addDriver 6 = .ok (.i2l, 1) := by decide +kernel
theorem dL_addDriver_7 : decode cL_addDriver 7 = .ok (.lastore, 1) := by decide +kernel
theorem dL_addDriver_8 : decode cL_addDriver 8 = .ok (.goto 6, 3) := by decide +kernel
theorem dL_addDriver_11 : decode cL_addDriver 11 = .ok (.astore_n 2, 1) := by decide +kernel
theorem dL_addDriver_12 : decode cL_addDriver 12 = .ok (.iconst 1, 1) := by decide +kernel
theorem dL_addDriver_13 : decode cL_addDriver 13 = .ok (.ireturn, 1) := by decide +kernel
theorem dL_addDriver_14 : decode cL_addDriver 14 = .ok (.iconst 0, 1) := by decide +kernel
theorem dL_addDriver_15 : decode cL_addDriver 15 = .ok (.ireturn, 1) := by decide +kernel
theorem dL_reason_0 : decode cL_reason 0 = .ok (.aload 4, 2) := by decide +kernel
theorem dL_reason_2 : decode cL_reason 2 = .ok (.iconst 0, 1) := by decide +kernel
theorem dL_reason_3 : decode cL_reason 3 = .ok (.aload_n 0, 1) := by decide +kernel
theorem dL_reason_4 : decode cL_reason 4 = .ok (.iload_n 1, 1) := by decide +kernel
theorem dL_reason_5 : decode cL_reason 5 = .ok (.iload_n 2, 1) := by decide +kernel
theorem dL_reason_6 : decode cL_reason 6 = .ok (.iload_n 3, 1) := by decide +kernel
theorem dL_reason_7 : decode cL_reason 7 = .ok (.invokevirtual 59, 3) := by decide +kernel
theorem dL_reason_10 : decode cL_reason 10 = .ok (.i2l, 1) := by decide +kernel
theorem dL_reason_11 : decode cL_reason 11 = .ok (.lastore, 1) := by decide +kernel
theorem dL_reason_12 : decode cL_reason 12 = .ok (.goto 7, 3) := by decide +kernel
theorem dL_reason_15 : decode cL_reason 15 = .ok (.astore 5, 2) := by decide +kernel
theorem dL_reason_17 : decode cL_reason 17 = .ok (.iconst 1, 1) := by decide +kernel
theorem dL_reason_18 : decode cL_reason 18 = .ok (.ireturn, 1) := by decide +kernel
theorem dL_reason_19 : decode cL_reason 19 = .ok (.iconst 0, 1) := by decide +kernel
theorem dL_reason_20 : decode cL_reason 20 = .ok (.ireturn, 1) := by decide +kernel
theorem dL_give_0 : decode cL_give 0 = .ok (.aload 4, 2) := by decide +kernel
theorem dL_give_2 : decode cL_give 2 = .ok (.iconst 0, 1) := by decide +kernel
theorem dL_give_3 : decode cL_give 3 = .ok (.aload_n 0, 1) := by decide +kernel
theorem dL_give_4 : decode cL_give 4 = .ok (.iload_n 1, 1) := by decide +kernel
theorem dL_give_5 : decode cL_give 5 = .ok (.iload_n 2, 1) := by decide +kernel
theorem dL_give_6 : decode cL_give 6 = .ok (.iload_n 3, 1) := by decide +kernel
theorem dL_give_7 : decode cL_give 7 = .ok (.invokevirtual 62, 3) := by decide +kernel
theorem dL_give_10 : decode cL_give 10 = .ok (.i2l, 1) := by decide +kernel
theorem dL_give_11 : decode cL_give 11 = .ok (.lastore, 1) := by decide +kernel
theorem dL_give_12 : decode cL_give 12 = .ok (.goto 11, 3) := by decide +kernel
theorem dL_give_15 : decode cL_give 15 = .ok (.astore 5, 2) := by decide +kernel
theorem dL_give_17 : decode cL_give 17 = .ok (.iconst 1, 1) := by decide +kernel
theorem dL_give_18 : decode cL_give 18 = .ok (.ireturn, 1) := by decide +kernel
theorem dL_give_19 : decode cL_give 19 = .ok (.astore 5, 2) := by decide +kernel
theorem dL_give_21 : decode cL_give 21 = .ok (.iconst 2, 1) := by decide +kernel
theorem dL_give_22 : decode cL_give 22 = .ok (.ireturn, 1) := by decide +kernel
theorem dL_give_23 : decode cL_give 23 = .ok (.iconst 0, 1) := by decide +kernel
theorem dL_give_24 : decode cL_give 24 = .ok (.ireturn, 1) := by decide +kernel
theorem dL_takeBack_0 : decode cL_takeBack 0 = .ok (.aload_n 3, 1) := by decide +kernel
theorem dL_takeBack_1 : decode cL_takeBack 1 = .ok (.iconst 0, 1) := by decide +kernel
theorem dL_takeBack_2 : decode cL_takeBack 2 = .ok (.aload_n 0, 1) := by decide +kernel
theorem dL_takeBack_3 : decode cL_takeBack 3 = .ok (.iload_n 1, 1) := by decide +kernel
theorem dL_takeBack_4 : decode cL_takeBack 4 = .ok (.iload_n 2, 1) := by decide +kernel
theorem dL_takeBack_5 : decode cL_takeBack 5 = .ok (.invokevirtual 65, 3) := by decide +kernel
theorem dL_takeBack_8 : decode cL_takeBack 8 = .ok (.i2l, 1) := by decide +kernel
theorem dL_takeBack_9 : decode cL_takeBack 9 = .ok (.lastore, 1) := by decide +kernel
theorem dL_takeBack_10 : decode cL_takeBack 10 = .ok (.goto 11, 3) := by decide +kernel
theorem dL_takeBack_13 : decode cL_takeBack 13 = .ok (.astore 4, 2) := by decide +kernel
theorem dL_takeBack_15 : decode cL_takeBack 15 = .ok (.iconst 1, 1) := by decide +kernel
theorem dL_takeBack_16 : decode cL_takeBack 16 = .ok (.ireturn, 1) := by decide +kernel
theorem dL_takeBack_17 : decode cL_takeBack 17 = .ok (.astore 4, 2) := by decide +kernel
theorem dL_takeBack_19 : decode cL_takeBack 19 = .ok (.iconst 2, 1) := by decide +kernel
theorem dL_takeBack_20 : decode cL_takeBack 20 = .ok (.ireturn, 1) := by decide +kernel
theorem dL_takeBack_21 : decode cL_takeBack 21 = .ok (.iconst 0, 1) := by decide +kernel
theorem dL_takeBack_22 : decode cL_takeBack 22 = .ok (.ireturn, 1) := by decide +kernel
theorem dL_given_0 : decode cL_given 0 = .ok (.aload_n 3, 1) := by decide +kernel
theorem dL_given_1 : decode cL_given 1 = .ok (.iconst 0, 1) := by decide +kernel
theorem dL_given_2 : decode cL_given 2 = .ok (.aload_n 0, 1) := by decide +kernel
theorem dL_given_3 : decode cL_given 3 = .ok (.iload_n 1, 1) := by decide +kernel
theorem dL_given_4 : decode cL_given 4 = .ok (.iload_n 2, 1) := by decide +kernel
theorem dL_given_5 : decode cL_given 5 = .ok (.invokevirtual 68, 3) := by decide +kernel
theorem dL_given_8 : decode cL_given 8 = .ok (.i2l, 1) := by decide +kernel
theorem dL_given_9 : decode cL_given 9 = .ok (.lastore, 1) := by decide +kernel
theorem dL_given_10 : decode cL_given 10 = .ok (.goto 7, 3) := by decide +kernel
theorem dL_given_13 : decode cL_given 13 = .ok (.astore 4, 2) := by decide +kernel
theorem dL_given_15 : decode cL_given 15 = .ok (.iconst 1, 1) := by decide +kernel
theorem dL_given_16 : decode cL_given 16 = .ok (.ireturn, 1) := by decide +kernel
theorem dL_given_17 : decode cL_given 17 = .ok (.iconst 0, 1) := by decide +kernel
theorem dL_given_18 : decode cL_given 18 = .ok (.ireturn, 1) := by decide +kernel
theorem dL_fill_0 : decode cL_fill 0 = .ok (.aload_n 2, 1) := by decide +kernel
theorem dL_fill_1 : decode cL_fill 1 = .ok (.iconst 0, 1) := by decide +kernel
theorem dL_fill_2 : decode cL_fill 2 = .ok (.aload_n 0, 1) := by decide +kernel
theorem dL_fill_3 : decode cL_fill 3 = .ok (.iload_n 1, 1) := by decide +kernel
theorem dL_fill_4 : decode cL_fill 4 = .ok (.invokevirtual 71, 3) := by decide +kernel
theorem dL_fill_7 : decode cL_fill 7 = .ok (.i2l, 1) := by decide +kernel
theorem dL_fill_8 : decode cL_fill 8 = .ok (.lastore, 1) := by decide +kernel
theorem dL_fill_9 : decode cL_fill 9 = .ok (.goto 6, 3) := by decide +kernel
theorem dL_fill_12 : decode cL_fill 12 = .ok (.astore_n 3, 1) := by decide +kernel
theorem dL_fill_13 : decode cL_fill 13 = .ok (.iconst 1, 1) := by decide +kernel
theorem dL_fill_14 : decode cL_fill 14 = .ok (.ireturn, 1) := by decide +kernel
theorem dL_fill_15 : decode cL_fill 15 = .ok (.iconst 0, 1) := by decide +kernel
theorem dL_fill_16 : decode cL_fill 16 = .ok (.ireturn, 1) := by decide +kernel
theorem dL_week_0 : decode cL_week 0 = .ok (.aload_n 2, 1) := by decide +kernel
theorem dL_week_1 : decode cL_week 1 = .ok (.iconst 0, 1) := by decide +kernel
theorem dL_week_2 : decode cL_week 2 = .ok (.aload_n 0, 1) := by decide +kernel
theorem dL_week_3 : decode cL_week 3 = .ok (.iload_n 1, 1) := by decide +kernel
theorem dL_week_4 : decode cL_week 4 = .ok (.invokevirtual 74, 3) := by decide +kernel
theorem dL_week_7 : decode cL_week 7 = .ok (.i2l, 1) := by decide +kernel
theorem dL_week_8 : decode cL_week 8 = .ok (.lastore, 1) := by decide +kernel
theorem dL_week_9 : decode cL_week 9 = .ok (.goto 6, 3) := by decide +kernel
theorem dL_week_12 : decode cL_week 12 = .ok (.astore_n 3, 1) := by decide +kernel
theorem dL_week_13 : decode cL_week 13 = .ok (.iconst 1, 1) := by decide +kernel
theorem dL_week_14 : decode cL_week 14 = .ok (.ireturn, 1) := by decide +kernel
theorem dL_week_15 : decode cL_week 15 = .ok (.iconst 0, 1) := by decide +kernel
theorem dL_week_16 : decode cL_week 16 = .ok (.ireturn, 1) := by decide +kernel
theorem dL_rest_0 : decode cL_rest 0 = .ok (.aload_n 3, 1) := by decide +kernel
theorem dL_rest_1 : decode cL_rest 1 = .ok (.iconst 0, 1) := by decide +kernel
theorem dL_rest_2 : decode cL_rest 2 = .ok (.aload_n 0, 1) := by decide +kernel
theorem dL_rest_3 : decode cL_rest 3 = .ok (.iload_n 1, 1) := by decide +kernel
theorem dL_rest_4 : decode cL_rest 4 = .ok (.iload_n 2, 1) := by decide +kernel
theorem dL_rest_5 : decode cL_rest 5 = .ok (.invokevirtual 77, 3) := by decide +kernel
theorem dL_rest_8 : decode cL_rest 8 = .ok (.i2l, 1) := by decide +kernel
theorem dL_rest_9 : decode cL_rest 9 = .ok (.lastore, 1) := by decide +kernel
theorem dL_rest_10 : decode cL_rest 10 = .ok (.goto 7, 3) := by decide +kernel
theorem dL_rest_13 : decode cL_rest 13 = .ok (.astore 4, 2) := by decide +kernel
theorem dL_rest_15 : decode cL_rest 15 = .ok (.iconst 1, 1) := by decide +kernel
theorem dL_rest_16 : decode cL_rest 16 = .ok (.ireturn, 1) := by decide +kernel
theorem dL_rest_17 : decode cL_rest 17 = .ok (.iconst 0, 1) := by decide +kernel
theorem dL_rest_18 : decode cL_rest 18 = .ok (.ireturn, 1) := by decide +kernel
end
section
theorem dX5_init_0 : decode cX5_init 0 = .ok (.aload_n 0, 1) := by decide +kernel
theorem dX5_init_1 : decode cX5_init 1 = .ok (.invokespecial 1, 3) := by decide +kernel
theorem dX5_init_4 : decode cX5_init 4 = .ok (.aload_n 0, 1) := by decide +kernel
theorem dX5_init_5 : decode cX5_init 5 = .ok (.new 7, 3) := by decide +kernel
theorem dX5_init_8 : decode cX5_init 8 = .ok (.dup, 1) := by decide +kernel
theorem dX5_init_9 : decode cX5_init 9 = .ok (.invokespecial 9, 3) := by decide +kernel
theorem dX5_init_12 : decode cX5_init 12 = .ok (.putfield 10, 3) := by decide +kernel
theorem dX5_init_15 : decode cX5_init 15 = .ok (.aload_n 0, 1) := by decide +kernel
theorem dX5_init_16 : decode cX5_init 16 = .ok (.new 16, 3) := by decide +kernel
theorem dX5_init_19 : decode cX5_init 19 = .ok (.dup, 1) := by decide +kernel
theorem dX5_init_20 : decode cX5_init 20 = .ok (.invokespecial 18, 3) := by decide +kernel
theorem dX5_init_23 : decode cX5_init 23 = .ok (.putfield 19, 3) := by decide +kernel
theorem dX5_init_26 : decode cX5_init 26 = .ok (.aload_n 0, 1) := by decide +kernel
theorem dX5_init_27 : decode cX5_init 27 = .ok (.bipush 12, 2) := by decide +kernel
theorem dX5_init_29 : decode cX5_init 29 = .ok (.anewarray 23, 3) := by decide +kernel
theorem dX5_init_32 : decode cX5_init 32 = .ok (.putfield 25, 3) := by decide +kernel
theorem dX5_init_35 : decode cX5_init 35 = .ok (.aload_n 0, 1) := by decide +kernel
theorem dX5_init_36 : decode cX5_init 36 = .ok (.bipush 40, 2) := by decide +kernel
theorem dX5_init_38 : decode cX5_init 38 = .ok (.newarray .int, 2) := by decide +kernel
theorem dX5_init_40 : decode cX5_init 40 = .ok (.putfield 29, 3) := by decide +kernel
theorem dX5_init_43 : decode cX5_init 43 = .ok (.aload_n 0, 1) := by decide +kernel
theorem dX5_init_44 : decode cX5_init 44 = .ok (.bipush 8, 2) := by decide +kernel
theorem dX5_init_46 : decode cX5_init 46 = .ok (.bipush 7, 2) := by decide +kernel
theorem dX5_init_48 : decode cX5_init 48 = .ok (.multianewarray 33 2, 4) := by decide +kernel
theorem dX5_init_52 : decode cX5_init 52 = .ok (.putfield 35, 3) := by decide +kernel
theorem dX5_init_55 : decode cX5_init 55 = .ok (.aload_n 0, 1) := by decide +kernel
theorem dX5_init_56 : decode cX5_init 56 = .ok (.new 23, 3) := by decide +kernel
theorem dX5_init_59 : decode cX5_init 59 = .ok (.dup, 1) := by decide +kernel
theorem dX5_init_60 : decode cX5_init 60 = .ok (.invokespecial 38, 3) := by decide +kernel
theorem dX5_init_63 : decode cX5_init 63 = .ok (.putfield 39, 3) := by decide +kernel
theorem dX5_init_66 : decode cX5_init 66 = .ok (.aload_n 0, 1) := by decide +kernel
theorem dX5_init_67 : decode cX5_init 67 = .ok (.new 23, 3) := by decide +kernel
theorem dX5_init_70 : decode cX5_init 70 = .ok (.dup, 1) := by decide +kernel
theorem dX5_init_71 : decode cX5_init 71 = .ok (.invokespecial 38, 3) := by decide +kernel
theorem dX5_init_74 : decode cX5_init 74 = .ok (.putfield 43, 3) := by decide +kernel
theorem dX5_init_77 : decode cX5_init 77 = .ok (.aload_n 0, 1) := by decide +kernel
theorem dX5_init_78 : decode cX5_init 78 = .ok (.new 46, 3) := by decide +kernel
theorem dX5_init_81 : decode cX5_init 81 = .ok (.dup, 1) := by decide +kernel
theorem dX5_init_82 : decode cX5_init 82 = .ok (.invokespecial 48, 3) := by decide +kernel
theorem dX5_init_85 : decode cX5_init 85 = .ok (.putfield 49, 3) := by decide +kernel
theorem dX5_init_88 : decode cX5_init 88 = .ok (.aload_n 0, 1) := by decide +kernel
theorem dX5_init_89 : decode cX5_init 89 = .ok (.new 53, 3) := by decide +kernel
theorem dX5_init_92 : decode cX5_init 92 = .ok (.dup, 1) := by decide +kernel
theorem dX5_init_93 : decode cX5_init 93 = .ok (.invokespecial 55, 3) := by decide +kernel
theorem dX5_init_96 : decode cX5_init 96 = .ok (.putfield 56, 3) := by decide +kernel
theorem dX5_init_99 : decode cX5_init 99 = .ok (.aload_n 0, 1) := by decide +kernel
theorem dX5_init_100 : decode cX5_init 100 = .ok (.new 23, 3) := by decide +kernel
theorem dX5_init_103 : decode cX5_init 103 = .ok (.dup, 1) := by decide +kernel
theorem dX5_init_104 : decode cX5_init 104 = .ok (.invokespecial 38, 3) := by decide +kernel
theorem dX5_init_107 : decode cX5_init 107 = .ok (.putfield 60, 3) := by decide +kernel
theorem dX5_init_110 : decode cX5_init 110 = .ok (.iconst 0, 1) := by decide +kernel
theorem dX5_init_111 : decode cX5_init 111 = .ok (.istore_n 1, 1) := by decide +kernel
theorem dX5_init_112 : decode cX5_init 112 = .ok (.iload_n 1, 1) := by decide +kernel
theorem dX5_init_113 : decode cX5_init 113 = .ok (.aload_n 0, 1) := by decide +kernel
theorem dX5_init_114 : decode cX5_init 114 = .ok (.getfield 25, 3) := by decide +kernel
theorem dX5_init_117 : decode cX5_init 117 = .ok (.arraylength, 1) := by decide +kernel
theorem dX5_init_118 : decode cX5_init 118 = .ok (.if_icmp .ge 22, 3) := by decide +kernel
theorem dX5_init_121 : decode cX5_init 121 = .ok (.aload_n 0, 1) := by decide +kernel
theorem dX5_init_122 : decode cX5_init 122 = .ok (.getfield 25, 3) := by decide +kernel
theorem dX5_init_125 : decode cX5_init 125 = .ok (.iload_n 1, 1) := by decide +kernel
theorem dX5_init_126 : decode cX5_init 126 = .ok (.new 23, 3) := by decide +kernel
theorem dX5_init_129 : decode cX5_init 129 = .ok (.dup, 1) := by decide +kernel
theorem dX5_init_130 : decode cX5_init 130 = .ok (.invokespecial 38, 3) := by decide +kernel
theorem dX5_init_133 : decode cX5_init 133 = .ok (.aastore, 1) := by decide +kernel
theorem dX5_init_134 : decode cX5_init 134 = .ok (.iinc 1 1, 3) := by decide +kernel
theorem dX5_init_137 : decode cX5_init 137 = .ok (.goto (-25), 3) := by decide +kernel
theorem dX5_init_140 : decode cX5_init 140 = .ok (.iconst 0, 1) := by decide +kernel
theorem dX5_init_141 : decode cX5_init 141 = .ok (.istore_n 1, 1) := by decide +kernel
theorem dX5_init_142 : decode cX5_init 142 = .ok (.iload_n 1, 1) := by decide +kernel
theorem dX5_init_143 : decode cX5_init 143 = .ok (.aload_n 0, 1) := by decide +kernel
theorem dX5_init_144 : decode cX5_init 144 = .ok (.getfield 29, 3) := by decide +kernel
theorem dX5_init_147 : decode cX5_init 147 = .ok (.arraylength, 1) := by decide +kernel
theorem dX5_init_148 : decode cX5_init 148 = .ok (.if_icmp .ge 16, 3) := by decide +kernel
theorem dX5_init_151 : decode cX5_init 151 = .ok (.aload_n 0, 1) := by decide +kernel
theorem dX5_init_152 : decode cX5_init 152 = .ok (.getfield 29, 3) := by decide +kernel
theorem dX5_init_155 : decode cX5_init 155 = .ok (.iload_n 1, 1) := by decide +kernel
theorem dX5_init_156 : decode cX5_init 156 = .ok (.iconst (-1), 1) := by decide +kernel
theorem dX5_init_157 : decode cX5_init 157 = .ok (.iastore, 1) := by decide +kernel
theorem dX5_init_158 : decode cX5_init 158 = .ok (.iinc 1 1, 3) := by decide +kernel
theorem dX5_init_161 : decode cX5_init 161 = .ok (.goto (-19), 3) := by decide +kernel
theorem dX5_init_164 : decode cX5_init 164 = .ok (.iconst 0, 1) := by decide +kernel
theorem dX5_init_165 : decode cX5_init 165 = .ok (.istore_n 1, 1) := by decide +kernel
theorem dX5_init_166 : decode cX5_init 166 = .ok (.iload_n 1, 1) := by decide +kernel
theorem dX5_init_167 : decode cX5_init 167 = .ok (.bipush 8, 2) := by decide +kernel
theorem dX5_init_169 : decode cX5_init 169 = .ok (.if_icmp .ge 32, 3) := by decide +kernel
theorem dX5_init_172 : decode cX5_init 172 = .ok (.iconst 0, 1) := by decide +kernel
theorem dX5_init_173 : decode cX5_init 173 = .ok (.istore_n 2, 1) := by decide +kernel
theorem dX5_init_174 : decode cX5_init 174 = .ok (.iload_n 2, 1) := by decide +kernel
theorem dX5_init_175 : decode cX5_init 175 = .ok (.bipush 7, 2) := by decide +kernel
theorem dX5_init_177 : decode cX5_init 177 = .ok (.if_icmp .ge 18, 3) := by decide +kernel
theorem dX5_init_180 : decode cX5_init 180 = .ok (.aload_n 0, 1) := by decide +kernel
theorem dX5_init_181 : decode cX5_init 181 = .ok (.getfield 35, 3) := by decide +kernel
theorem dX5_init_184 : decode cX5_init 184 = .ok (.iload_n 1, 1) := by decide +kernel
theorem dX5_init_185 : decode cX5_init 185 = .ok (.aaload, 1) := by decide +kernel
theorem dX5_init_186 : decode cX5_init 186 = .ok (.iload_n 2, 1) := by decide +kernel
theorem dX5_init_187 : decode cX5_init 187 = .ok (.iconst (-1), 1) := by decide +kernel
theorem dX5_init_188 : decode cX5_init 188 = .ok (.iastore, 1) := by decide +kernel
theorem dX5_init_189 : decode cX5_init 189 = .ok (.iinc 2 1, 3) := by decide +kernel
theorem dX5_init_192 : decode cX5_init 192 = .ok (.goto (-18), 3) := by decide +kernel
theorem dX5_init_195 : decode cX5_init 195 = .ok (.iinc 1 1, 3) := by decide +kernel
theorem dX5_init_198 : decode cX5_init 198 = .ok (.goto (-32), 3) := by decide +kernel
theorem dX5_init_201 : decode cX5_init 201 = .ok (.return_, 1) := by decide +kernel
theorem dX5_setWay_0 : decode cX5_setWay 0 = .ok (.iload_n 1, 1) := by decide +kernel
theorem dX5_setWay_1 : decode cX5_setWay 1 = .ok (.invokestatic 63, 3) := by decide +kernel
theorem dX5_setWay_4 : decode cX5_setWay 4 = .ok (.ifCond .eq 10, 3) := by decide +kernel
theorem dX5_setWay_7 : decode cX5_setWay 7 = .ok (.iload_n 2, 1) := by decide +kernel
theorem dX5_setWay_8 : decode cX5_setWay 8 = .ok (.invokestatic 63, 3) := by decide +kernel
theorem dX5_setWay_11 : decode cX5_setWay 11 = .ok (.ifCond .ne 13, 3) := by decide +kernel
theorem dX5_setWay_14 : decode cX5_setWay 14 = .ok (.new 67, 3) := by decide +kernel
theorem dX5_setWay_17 : decode cX5_setWay 17 = .ok (.dup, 1) := by decide +kernel
theorem dX5_setWay_18 : decode cX5_setWay 18 = .ok (.ldc 69, 2) := by decide +kernel
theorem dX5_setWay_20 : decode cX5_setWay 20 = .ok (.invokespecial 71, 3) := by decide +kernel
theorem dX5_setWay_23 : decode cX5_setWay 23 = .ok (.athrow, 1) := by decide +kernel
theorem dX5_setWay_24 : decode cX5_setWay 24 = .ok (.iload_n 1, 1) := by decide +kernel
theorem dX5_setWay_25 : decode cX5_setWay 25 = .ok (.iload_n 2, 1) := by decide +kernel
theorem dX5_setWay_26 : decode cX5_setWay 26 = .ok (.if_icmp .eq 14, 3) := by decide +kernel
theorem dX5_setWay_29 : decode cX5_setWay 29 = .ok (.iload_n 3, 1) := by decide +kernel
theorem dX5_setWay_30 : decode cX5_setWay 30 = .ok (.iconst 1, 1) := by decide +kernel
theorem dX5_setWay_31 : decode cX5_setWay 31 = .ok (.if_icmp .lt 9, 3) := by decide +kernel
theorem dX5_setWay_34 : decode cX5_setWay 34 = .ok (.iload_n 3, 1) := by decide +kernel
theorem dX5_setWay_35 : decode cX5_setWay 35 = .ok (.bipush 90, 2) := by decide +kernel
theorem dX5_setWay_37 : decode cX5_setWay 37 = .ok (.if_icmp .le 13, 3) := by decide +kernel
theorem dX5_setWay_40 : decode cX5_setWay 40 = .ok (.new 74, 3) := by decide +kernel
theorem dX5_setWay_43 : decode cX5_setWay 43 = .ok (.dup, 1) := by decide +kernel
theorem dX5_setWay_44 : decode cX5_setWay 44 = .ok (.ldc 76, 2) := by decide +kernel
theorem dX5_setWay_46 : decode cX5_setWay 46 = .ok (.invokespecial 78, 3) := by decide +kernel
theorem dX5_setWay_49 : decode cX5_setWay 49 = .ok (.athrow, 1) := by decide +kernel
theorem dX5_setWay_50 : decode cX5_setWay 50 = .ok (.aload_n 0, 1) := by decide +kernel
theorem dX5_setWay_51 : decode cX5_setWay 51 = .ok (.getfield 10, 3) := by decide +kernel
theorem dX5_setWay_54 : decode cX5_setWay 54 = .ok (.iload_n 1, 1) := by decide +kernel
theorem dX5_setWay_55 : decode cX5_setWay 55 = .ok (.iload_n 2, 1) := by decide +kernel
theorem dX5_setWay_56 : decode cX5_setWay 56 = .ok (.invokevirtual 79, 3) := by decide +kernel
theorem dX5_setWay_59 : decode cX5_setWay 59 = .ok (.istore 4, 2) := by decide +kernel
theorem dX5_setWay_61 : decode cX5_setWay 61 = .ok (.aload_n 0, 1) := by decide +kernel
theorem dX5_setWay_62 : decode cX5_setWay 62 = .ok (.getfield 10, 3) := by decide +kernel
theorem dX5_setWay_65 : decode cX5_setWay 65 = .ok (.iload_n 1, 1) := by decide +kernel
theorem dX5_setWay_66 : decode cX5_setWay 66 = .ok (.iload_n 2, 1) := by decide +kernel
theorem dX5_setWay_67 : decode cX5_setWay 67 = .ok (.iload_n 3, 1) := by decide +kernel
theorem dX5_setWay_68 : decode cX5_setWay 68 = .ok (.invokevirtual 83, 3) := by decide +kernel
theorem dX5_setWay_71 : decode cX5_setWay 71 = .ok (.aload_n 0, 1) := by decide +kernel
theorem dX5_setWay_72 : decode cX5_setWay 72 = .ok (.invokevirtual 87, 3) := by decide +kernel
theorem dX5_setWay_75 : decode cX5_setWay 75 = .ok (.iload 4, 2) := by decide +kernel
theorem dX5_setWay_77 : decode cX5_setWay 77 = .ok (.ireturn, 1) := by decide +kernel
theorem dX5_addTrip_0 : decode cX5_addTrip 0 = .ok (.iload_n 1, 1) := by decide +kernel
theorem dX5_addTrip_1 : decode cX5_addTrip 1 = .ok (.invokestatic 63, 3) := by decide +kernel
theorem dX5_addTrip_4 : decode cX5_addTrip 4 = .ok (.ifCond .eq 10, 3) := by decide +kernel
theorem dX5_addTrip_7 : decode cX5_addTrip 7 = .ok (.iload_n 2, 1) := by decide +kernel
theorem dX5_addTrip_8 : decode cX5_addTrip 8 = .ok (.invokestatic 63, 3) := by decide +kernel
theorem dX5_addTrip_11 : decode cX5_addTrip 11 = .ok (.ifCond .ne 13, 3) := by decide +kernel
theorem dX5_addTrip_14 : decode cX5_addTrip 14 = .ok (.new 67, 3) := by decide +kernel
theorem dX5_addTrip_17 : decode cX5_addTrip 17 = .ok (.dup, 1) := by decide +kernel
theorem dX5_addTrip_18 : decode cX5_addTrip 18 = .ok (.ldc 69, 2) := by decide +kernel
theorem dX5_addTrip_20 : decode cX5_addTrip 20 = .ok (.invokespecial 71, 3) := by decide +kernel
theorem dX5_addTrip_23 : decode cX5_addTrip 23 = .ok (.athrow, 1) := by decide +kernel
theorem dX5_addTrip_24 : decode cX5_addTrip 24 = .ok (.iload_n 3, 1) := by decide +kernel
theorem dX5_addTrip_25 : decode cX5_addTrip 25 = .ok (.iload 4, 2) := by decide +kernel
theorem dX5_addTrip_27 : decode cX5_addTrip 27 = .ok (.invokestatic 90, 3) := by decide +kernel
theorem dX5_addTrip_30 : decode cX5_addTrip 30 = .ok (.ifCond .ne 13, 3) := by decide +kernel
theorem dX5_addTrip_33 : decode cX5_addTrip 33 = .ok (.new 74, 3) := by decide +kernel
theorem dX5_addTrip_36 : decode cX5_addTrip 36 = .ok (.dup, 1) := by decide +kernel
theorem dX5_addTrip_37 : decode cX5_addTrip 37 = .ok (.ldc 94, 2) := by decide +kernel
theorem dX5_addTrip_39 : decode cX5_addTrip 39 = .ok (.invokespecial 78, 3) := by decide +kernel
theorem dX5_addTrip_42 : decode cX5_addTrip 42 = .ok (.athrow, 1) := by decide +kernel
theorem dX5_addTrip_43 : decode cX5_addTrip 43 = .ok (.aload_n 0, 1) := by decide +kernel
theorem dX5_addTrip_44 : decode cX5_addTrip 44 = .ok (.getfield 10, 3) := by decide +kernel
theorem dX5_addTrip_47 : decode cX5_addTrip 47 = .ok (.getfield 96, 3) := by decide +kernel
theorem dX5_addTrip_50 : decode cX5_addTrip 50 = .ok (.bipush 40, 2) := by decide +kernel
theorem dX5_addTrip_52 : decode cX5_addTrip 52 = .ok (.if_icmp .lt 13, 3) := by decide +kernel
theorem dX5_addTrip_55 : decode cX5_addTrip 55 = .ok (.new 100, 3) := by decide +kernel
theorem dX5_addTrip_58 : decode cX5_addTrip 58 = .ok (.dup, 1) := by decide +kernel
theorem dX5_addTrip_59 : decode cX5_addTrip 59 = .ok (.ldc 102, 2) := by decide +kernel
theorem dX5_addTrip_61 : decode cX5_addTrip 61 = .ok (.invokespecial 104, 3) := by decide +kernel
theorem dX5_addTrip_64 : decode cX5_addTrip 64 = .ok (.athrow, 1) := by decide +kernel
theorem dX5_addTrip_65 : decode cX5_addTrip 65 = .ok (.aload_n 0, 1) := by decide +kernel
theorem dX5_addTrip_66 : decode cX5_addTrip 66 = .ok (.getfield 10, 3) := by decide +kernel
theorem dX5_addTrip_69 : decode cX5_addTrip 69 = .ok (.iload_n 1, 1) := by decide +kernel
theorem dX5_addTrip_70 : decode cX5_addTrip 70 = .ok (.iload_n 2, 1) := by decide +kernel
theorem dX5_addTrip_71 : decode cX5_addTrip 71 = .ok (.iload_n 3, 1) := by decide +kernel
theorem dX5_addTrip_72 : decode cX5_addTrip 72 = .ok (.iload 4, 2) := by decide +kernel
theorem dX5_addTrip_74 : decode cX5_addTrip 74 = .ok (.invokevirtual 105, 3) := by decide +kernel
theorem dX5_addTrip_77 : decode cX5_addTrip 77 = .ok (.ireturn, 1) := by decide +kernel
theorem dX5_trip_0 : decode cX5_trip 0 = .ok (.aload_n 0, 1) := by decide +kernel
theorem dX5_trip_1 : decode cX5_trip 1 = .ok (.iload_n 1, 1) := by decide +kernel
theorem dX5_trip_2 : decode cX5_trip 2 = .ok (.invokevirtual 109, 3) := by decide +kernel
theorem dX5_trip_5 : decode cX5_trip 5 = .ok (.ifCond .eq 12, 3) := by decide +kernel
theorem dX5_trip_8 : decode cX5_trip 8 = .ok (.iload_n 2, 1) := by decide +kernel
theorem dX5_trip_9 : decode cX5_trip 9 = .ok (.ifCond .lt 8, 3) := by decide +kernel
theorem dX5_trip_12 : decode cX5_trip 12 = .ok (.iload_n 2, 1) := by decide +kernel
theorem dX5_trip_13 : decode cX5_trip 13 = .ok (.iconst 5, 1) := by decide +kernel
theorem dX5_trip_14 : decode cX5_trip 14 = .ok (.if_icmp .lt 13, 3) := by decide +kernel
theorem dX5_trip_17 : decode cX5_trip 17 = .ok (.new 67, 3) := by decide +kernel
theorem dX5_trip_20 : decode cX5_trip 20 = .ok (.dup, 1) := by decide +kernel
theorem dX5_trip_21 : decode cX5_trip 21 = .ok (.ldc 112, 2) := by decide +kernel
theorem dX5_trip_23 : decode cX5_trip 23 = .ok (.invokespecial 71, 3) := by decide +kernel
theorem dX5_trip_26 : decode cX5_trip 26 = .ok (.athrow, 1) := by decide +kernel
theorem dX5_trip_27 : decode cX5_trip 27 = .ok (.aload_n 0, 1) := by decide +kernel
theorem dX5_trip_28 : decode cX5_trip 28 = .ok (.iload_n 1, 1) := by decide +kernel
theorem dX5_trip_29 : decode cX5_trip 29 = .ok (.iload_n 2, 1) := by decide +kernel
theorem dX5_trip_30 : decode cX5_trip 30 = .ok (.invokevirtual 114, 3) := by decide +kernel
theorem dX5_trip_33 : decode cX5_trip 33 = .ok (.ireturn, 1) := by decide +kernel
theorem dX5_setRules_0 : decode cX5_setRules 0 = .ok (.iload_n 1, 1) := by decide +kernel
theorem dX5_setRules_1 : decode cX5_setRules 1 = .ok (.bipush 60, 2) := by decide +kernel
theorem dX5_setRules_3 : decode cX5_setRules 3 = .ok (.if_icmp .lt 24, 3) := by decide +kernel
theorem dX5_setRules_6 : decode cX5_setRules 6 = .ok (.iload_n 1, 1) := by decide +kernel
theorem dX5_setRules_7 : decode cX5_setRules 7 = .ok (.sipush 600, 3) := by decide +kernel
theorem dX5_setRules_10 : decode cX5_setRules 10 = .ok (.if_icmp .gt 17, 3) := by decide +kernel
theorem dX5_setRules_13 : decode cX5_setRules 13 = .ok (.iload_n 2, 1) := by decide +kernel
theorem dX5_setRules_14 : decode cX5_setRules 14 = .ok (.sipush 240, 3) := by decide +kernel
theorem dX5_setRules_17 : decode cX5_setRules 17 = .ok (.if_icmp .lt 10, 3) := by decide +kernel
theorem dX5_setRules_20 : decode cX5_setRules 20 = .ok (.iload_n 2, 1) := by decide +kernel
theorem dX5_setRules_21 : decode cX5_setRules 21 = .ok (.sipush 1000, 3) := by decide +kernel
theorem dX5_setRules_24 : decode cX5_setRules 24 = .ok (.if_icmp .le 13, 3) := by decide +kernel
theorem dX5_setRules_27 : decode cX5_setRules 27 = .ok (.new 74, 3) := by decide +kernel
theorem dX5_setRules_30 : decode cX5_setRules 30 = .ok (.dup, 1) := by decide +kernel
theorem dX5_setRules_31 : decode cX5_setRules 31 = .ok (.ldc 117, 2) := by decide +kernel
theorem dX5_setRules_33 : decode cX5_setRules 33 = .ok (.invokespecial 78, 3) := by decide +kernel
theorem dX5_setRules_36 : decode cX5_setRules 36 = .ok (.athrow, 1) := by decide +kernel
theorem dX5_setRules_37 : decode cX5_setRules 37 = .ok (.iload_n 3, 1) := by decide +kernel
theorem dX5_setRules_38 : decode cX5_setRules 38 = .ok (.bipush 10, 2) := by decide +kernel
theorem dX5_setRules_40 : decode cX5_setRules 40 = .ok (.if_icmp .lt 22, 3) := by decide +kernel
theorem dX5_setRules_43 : decode cX5_setRules 43 = .ok (.iload_n 3, 1) := by decide +kernel
theorem dX5_setRules_44 : decode cX5_setRules 44 = .ok (.bipush 90, 2) := by decide +kernel
theorem dX5_setRules_46 : decode cX5_setRules 46 = .ok (.if_icmp .gt 16, 3) := by decide +kernel
theorem dX5_setRules_49 : decode cX5_setRules 49 = .ok (.iload 4, 2) := by decide +kernel
theorem dX5_setRules_51 : decode cX5_setRules 51 = .ok (.ifCond .lt 11, 3) := by decide +kernel
theorem dX5_setRules_54 : decode cX5_setRules 54 = .ok (.iload 4, 2) := by decide +kernel
theorem dX5_setRules_56 : decode cX5_setRules 56 = .ok (.sipush 900, 3) := by decide +kernel
theorem dX5_setRules_59 : decode cX5_setRules 59 = .ok (.if_icmp .le 13, 3) := by decide +kernel
theorem dX5_setRules_62 : decode cX5_setRules 62 = .ok (.new 74, 3) := by decide +kernel
theorem dX5_setRules_65 : decode cX5_setRules 65 = .ok (.dup, 1) := by decide +kernel
theorem dX5_setRules_66 : decode cX5_setRules 66 = .ok (.ldc 119, 2) := by decide +kernel
theorem dX5_setRules_68 : decode cX5_setRules 68 = .ok (.invokespecial 78, 3) := by decide +kernel
theorem dX5_setRules_71 : decode cX5_setRules 71 = .ok (.athrow, 1) := by decide +kernel
theorem dX5_setRules_72 : decode cX5_setRules 72 = .ok (.aload_n 0, 1) := by decide +kernel
theorem dX5_setRules_73 : decode cX5_setRules 73 = .ok (.getfield 19, 3) := by decide +kernel
theorem dX5_setRules_76 : decode cX5_setRules 76 = .ok (.iload_n 1, 1) := by decide +kernel
theorem dX5_setRules_77 : decode cX5_setRules 77 = .ok (.putfield 121, 3) := by decide +kernel
theorem dX5_setRules_80 : decode cX5_setRules 80 = .ok (.aload_n 0, 1) := by decide +kernel
theorem dX5_setRules_81 : decode cX5_setRules 81 = .ok (.getfield 19, 3) := by decide +kernel
theorem dX5_setRules_84 : decode cX5_setRules 84 = .ok (.iload_n 2, 1) := by decide +kernel
theorem dX5_setRules_85 : decode cX5_setRules 85 = .ok (.putfield 124, 3) := by decide +kernel
theorem dX5_setRules_88 : decode cX5_setRules 88 = .ok (.aload_n 0, 1) := by decide +kernel
theorem dX5_setRules_89 : decode cX5_setRules 89 = .ok (.getfield 19, 3) := by decide +kernel
theorem dX5_setRules_92 : decode cX5_setRules 92 = .ok (.iload_n 3, 1) := by decide +kernel
theorem dX5_setRules_93 : decode cX5_setRules 93 = .ok (.putfield 127, 3) := by decide +kernel
theorem dX5_setRules_96 : decode cX5_setRules 96 = .ok (.aload_n 0, 1) := by decide +kernel
theorem dX5_setRules_97 : decode cX5_setRules 97 = .ok (.getfield 19, 3) := by decide +kernel
theorem dX5_setRules_100 : decode cX5_setRules 100 = .ok (.iload 4, 2) := by decide +kernel
theorem dX5_setRules_102 : decode cX5_setRules 102 = .ok (.putfield 130, 3) := by decide +kernel
theorem dX5_setRules_105 : decode cX5_setRules 105 = .ok (.aload_n 0, 1) := by decide +kernel
theorem dX5_setRules_106 : decode cX5_setRules 106 = .ok (.invokevirtual 87, 3) := by decide +kernel
theorem dX5_setRules_109 : decode cX5_setRules 109 = .ok (.aload_n 0, 1) := by decide +kernel
theorem dX5_setRules_110 : decode cX5_setRules 110 = .ok (.invokevirtual 133, 3) := by decide +kernel
theorem dX5_setRules_113 : decode cX5_setRules 113 = .ok (.ireturn, 1) := by decide +kernel
theorem dX5_count_0 : decode cX5_count 0 = .ok (.iload_n 1, 1) := by decide +kernel
theorem dX5_count_1 : decode cX5_count 1 = .ok (.tableswitch 54 0 3 #[31, 39, 44, 49], 31) := by decide +kernel
theorem dX5_count_32 : decode cX5_count 32 = .ok (.aload_n 0, 1) := by decide +kernel
theorem dX5_count_33 : decode cX5_count 33 = .ok (.getfield 10, 3) := by decide +kernel
theorem dX5_count_36 : decode cX5_count 36 = .ok (.getfield 96, 3) := by decide +kernel
theorem dX5_count_39 : decode cX5_count 39 = .ok (.ireturn, 1) := by decide +kernel
theorem dX5_count_40 : decode cX5_count 40 = .ok (.aload_n 0, 1) := by decide +kernel
theorem dX5_count_41 : decode cX5_count 41 = .ok (.getfield 137, 3) := by decide +kernel
theorem dX5_count_44 : decode cX5_count 44 = .ok (.ireturn, 1) := by decide +kernel
theorem dX5_count_45 : decode cX5_count 45 = .ok (.aload_n 0, 1) := by decide +kernel
theorem dX5_count_46 : decode cX5_count 46 = .ok (.getfield 140, 3) := by decide +kernel
theorem dX5_count_49 : decode cX5_count 49 = .ok (.ireturn, 1) := by decide +kernel
theorem dX5_count_50 : decode cX5_count 50 = .ok (.aload_n 0, 1) := by decide +kernel
theorem dX5_count_51 : decode cX5_count 51 = .ok (.invokevirtual 143, 3) := by decide +kernel
theorem dX5_count_54 : decode cX5_count 54 = .ok (.ireturn, 1) := by decide +kernel
theorem dX5_count_55 : decode cX5_count 55 = .ok (.new 67, 3) := by decide +kernel
theorem dX5_count_58 : decode cX5_count 58 = .ok (.dup, 1) := by decide +kernel
theorem dX5_count_59 : decode cX5_count 59 = .ok (.ldc 146, 2) := by decide +kernel
theorem dX5_count_61 : decode cX5_count 61 = .ok (.invokespecial 71, 3) := by decide +kernel
theorem dX5_count_64 : decode cX5_count 64 = .ok (.athrow, 1) := by decide +kernel
theorem dX5_addDuty_0 : decode cX5_addDuty 0 = .ok (.aload_n 0, 1) := by decide +kernel
theorem dX5_addDuty_1 : decode cX5_addDuty 1 = .ok (.getfield 137, 3) := by decide +kernel
theorem dX5_addDuty_4 : decode cX5_addDuty 4 = .ok (.bipush 12, 2) := by decide +kernel
theorem dX5_addDuty_6 : decode cX5_addDuty 6 = .ok (.if_icmp .lt 13, 3) := by decide +kernel
theorem dX5_addDuty_9 : decode cX5_addDuty 9 = .ok (.new 100, 3) := by decide +kernel
theorem dX5_addDuty_12 : decode cX5_addDuty 12 = .ok (.dup, 1) := by decide +kernel
theorem dX5_addDuty_13 : decode cX5_addDuty 13 = .ok (.ldc 148, 2) := by decide +kernel
theorem dX5_addDuty_15 : decode cX5_addDuty 15 = .ok (.invokespecial 104, 3) := by decide +kernel
theorem dX5_addDuty_18 : decode cX5_addDuty 18 = .ok (.athrow, 1) := by decide +kernel
theorem dX5_addDuty_19 : decode cX5_addDuty 19 = .ok (.aload_n 0, 1) := by decide +kernel
theorem dX5_addDuty_20 : decode cX5_addDuty 20 = .ok (.dup, 1) := by decide +kernel
theorem dX5_addDuty_21 : decode cX5_addDuty 21 = .ok (.getfield 137, 3) := by decide +kernel
theorem dX5_addDuty_24 : decode cX5_addDuty 24 = .ok (.dup_x1, 1) := by decide +kernel
theorem dX5_addDuty_25 : decode cX5_addDuty 25 = .ok (.iconst 1, 1) := by decide +kernel
theorem dX5_addDuty_26 : decode cX5_addDuty 26 = .ok (.iadd, 1) := by decide +kernel
theorem dX5_addDuty_27 : decode cX5_addDuty 27 = .ok (.putfield 137, 3) := by decide +kernel
theorem dX5_addDuty_30 : decode cX5_addDuty 30 = .ok (.ireturn, 1) := by decide +kernel
theorem dX5_put_0 : decode cX5_put 0 = .ok (.aload_n 0, 1) := by decide +kernel
theorem dX5_put_1 : decode cX5_put 1 = .ok (.iload_n 1, 1) := by decide +kernel
theorem dX5_put_2 : decode cX5_put 2 = .ok (.invokevirtual 150, 3) := by decide +kernel
theorem dX5_put_5 : decode cX5_put 5 = .ok (.ifCond .eq 11, 3) := by decide +kernel
theorem dX5_put_8 : decode cX5_put 8 = .ok (.aload_n 0, 1) := by decide +kernel
theorem dX5_put_9 : decode cX5_put 9 = .ok (.iload_n 2, 1) := by decide +kernel
theorem dX5_put_10 : decode cX5_put 10 = .ok (.invokevirtual 109, 3) := by decide +kernel
theorem dX5_put_13 : decode cX5_put 13 = .ok (.ifCond .ne 13, 3) := by decide +kernel
theorem dX5_put_16 : decode cX5_put 16 = .ok (.new 67, 3) := by decide +kernel
theorem dX5_put_19 : decode cX5_put 19 = .ok (.dup, 1) := by decide +kernel
theorem dX5_put_20 : decode cX5_put 20 = .ok (.ldc 153, 2) := by decide +kernel
theorem dX5_put_22 : decode cX5_put 22 = .ok (.invokespecial 71, 3) := by decide +kernel
theorem dX5_put_25 : decode cX5_put 25 = .ok (.athrow, 1) := by decide +kernel
theorem dX5_put_26 : decode cX5_put 26 = .ok (.aload_n 0, 1) := by decide +kernel
theorem dX5_put_27 : decode cX5_put 27 = .ok (.iload_n 1, 1) := by decide +kernel
theorem dX5_put_28 : decode cX5_put 28 = .ok (.iload_n 2, 1) := by decide +kernel
theorem dX5_put_29 : decode cX5_put 29 = .ok (.invokevirtual 155, 3) := by decide +kernel
theorem dX5_put_32 : decode cX5_put 32 = .ok (.ifCond .ne 13, 3) := by decide +kernel
theorem dX5_put_35 : decode cX5_put 35 = .ok (.new 100, 3) := by decide +kernel
theorem dX5_put_38 : decode cX5_put 38 = .ok (.dup, 1) := by decide +kernel
theorem dX5_put_39 : decode cX5_put 39 = .ok (.ldc 158, 2) := by decide +kernel
theorem dX5_put_41 : decode cX5_put 41 = .ok (.invokespecial 104, 3) := by decide +kernel
theorem dX5_put_44 : decode cX5_put 44 = .ok (.athrow, 1) := by decide +kernel
theorem dX5_put_45 : decode cX5_put 45 = .ok (.aload_n 0, 1) := by decide +kernel
theorem dX5_put_46 : decode cX5_put 46 = .ok (.iload_n 1, 1) := by decide +kernel
theorem dX5_put_47 : decode cX5_put 47 = .ok (.iload_n 2, 1) := by decide +kernel
theorem dX5_put_48 : decode cX5_put 48 = .ok (.invokevirtual 160, 3) := by decide +kernel
theorem dX5_put_51 : decode cX5_put 51 = .ok (.aload_n 0, 1) := by decide +kernel
theorem dX5_put_52 : decode cX5_put 52 = .ok (.iload_n 1, 1) := by decide +kernel
theorem dX5_put_53 : decode cX5_put 53 = .ok (.invokevirtual 164, 3) := by decide +kernel
theorem dX5_put_56 : decode cX5_put 56 = .ok (.iload_n 2, 1) := by decide +kernel
theorem dX5_put_57 : decode cX5_put 57 = .ok (.invokevirtual 168, 3) := by decide +kernel
theorem dX5_put_60 : decode cX5_put 60 = .ok (.ireturn, 1) := by decide +kernel
theorem dX5_takeOut_0 : decode cX5_takeOut 0 = .ok (.aload_n 0, 1) := by decide +kernel
theorem dX5_takeOut_1 : decode cX5_takeOut 1 = .ok (.iload_n 1, 1) := by decide +kernel
theorem dX5_takeOut_2 : decode cX5_takeOut 2 = .ok (.invokevirtual 109, 3) := by decide +kernel
theorem dX5_takeOut_5 : decode cX5_takeOut 5 = .ok (.ifCond .ne 13, 3) := by decide +kernel
theorem dX5_takeOut_8 : decode cX5_takeOut 8 = .ok (.new 67, 3) := by decide +kernel
theorem dX5_takeOut_11 : decode cX5_takeOut 11 = .ok (.dup, 1) := by decide +kernel
theorem dX5_takeOut_12 : decode cX5_takeOut 12 = .ok (.ldc 172, 2) := by decide +kernel
theorem dX5_takeOut_14 : decode cX5_takeOut 14 = .ok (.invokespecial 71, 3) := by decide +kernel
theorem dX5_takeOut_17 : decode cX5_takeOut 17 = .ok (.athrow, 1) := by decide +kernel
theorem dX5_takeOut_18 : decode cX5_takeOut 18 = .ok (.aload_n 0, 1) := by decide +kernel
theorem dX5_takeOut_19 : decode cX5_takeOut 19 = .ok (.iload_n 1, 1) := by decide +kernel
theorem dX5_takeOut_20 : decode cX5_takeOut 20 = .ok (.invokevirtual 174, 3) := by decide +kernel
theorem dX5_takeOut_23 : decode cX5_takeOut 23 = .ok (.istore_n 2, 1) := by decide +kernel
theorem dX5_takeOut_24 : decode cX5_takeOut 24 = .ok (.iload_n 2, 1) := by decide +kernel
theorem dX5_takeOut_25 : decode cX5_takeOut 25 = .ok (.iconst (-1), 1) := by decide +kernel
theorem dX5_takeOut_26 : decode cX5_takeOut 26 = .ok (.if_icmp .eq 20, 3) := by decide +kernel
theorem dX5_takeOut_29 : decode cX5_takeOut 29 = .ok (.aload_n 0, 1) := by decide +kernel
theorem dX5_takeOut_30 : decode cX5_takeOut 30 = .ok (.iload_n 2, 1) := by decide +kernel
theorem dX5_takeOut_31 : decode cX5_takeOut 31 = .ok (.invokevirtual 177, 3) := by decide +kernel
theorem dX5_takeOut_34 : decode cX5_takeOut 34 = .ok (.ifCond .ne 12, 3) := by decide +kernel
theorem dX5_takeOut_37 : decode cX5_takeOut 37 = .ok (.aload_n 0, 1) := by decide +kernel
theorem dX5_takeOut_38 : decode cX5_takeOut 38 = .ok (.iload_n 2, 1) := by decide +kernel
theorem dX5_takeOut_39 : decode cX5_takeOut 39 = .ok (.iload_n 1, 1) := by decide +kernel
theorem dX5_takeOut_40 : decode cX5_takeOut 40 = .ok (.invokevirtual 180, 3) := by decide +kernel
theorem dX5_takeOut_43 : decode cX5_takeOut 43 = .ok (.ifCond .ne 13, 3) := by decide +kernel
theorem dX5_takeOut_46 : decode cX5_takeOut 46 = .ok (.new 100, 3) := by decide +kernel
theorem dX5_takeOut_49 : decode cX5_takeOut 49 = .ok (.dup, 1) := by decide +kernel
theorem dX5_takeOut_50 : decode cX5_takeOut 50 = .ok (.ldc 183, 2) := by decide +kernel
theorem dX5_takeOut_52 : decode cX5_takeOut 52 = .ok (.invokespecial 104, 3) := by decide +kernel
theorem dX5_takeOut_55 : decode cX5_takeOut 55 = .ok (.athrow, 1) := by decide +kernel
theorem dX5_takeOut_56 : decode cX5_takeOut 56 = .ok (.aload_n 0, 1) := by decide +kernel
theorem dX5_takeOut_57 : decode cX5_takeOut 57 = .ok (.iload_n 2, 1) := by decide +kernel
theorem dX5_takeOut_58 : decode cX5_takeOut 58 = .ok (.invokevirtual 164, 3) := by decide +kernel
theorem dX5_takeOut_61 : decode cX5_takeOut 61 = .ok (.aload_n 0, 1) := by decide +kernel
theorem dX5_takeOut_62 : decode cX5_takeOut 62 = .ok (.getfield 39, 3) := by decide +kernel
theorem dX5_takeOut_65 : decode cX5_takeOut 65 = .ok (.invokevirtual 185, 3) := by decide +kernel
theorem dX5_takeOut_68 : decode cX5_takeOut 68 = .ok (.aload_n 0, 1) := by decide +kernel
theorem dX5_takeOut_69 : decode cX5_takeOut 69 = .ok (.iload_n 1, 1) := by decide +kernel
theorem dX5_takeOut_70 : decode cX5_takeOut 70 = .ok (.iconst (-1), 1) := by decide +kernel
theorem dX5_takeOut_71 : decode cX5_takeOut 71 = .ok (.invokevirtual 189, 3) := by decide +kernel
theorem dX5_takeOut_74 : decode cX5_takeOut 74 = .ok (.iload_n 2, 1) := by decide +kernel
theorem dX5_takeOut_75 : decode cX5_takeOut 75 = .ok (.ireturn, 1) := by decide +kernel
theorem dX5_duty_0 : decode cX5_duty 0 = .ok (.aload_n 0, 1) := by decide +kernel
theorem dX5_duty_1 : decode cX5_duty 1 = .ok (.iload_n 1, 1) := by decide +kernel
theorem dX5_duty_2 : decode cX5_duty 2 = .ok (.invokevirtual 150, 3) := by decide +kernel
theorem dX5_duty_5 : decode cX5_duty 5 = .ok (.ifCond .eq 13, 3) := by decide +kernel
theorem dX5_duty_8 : decode cX5_duty 8 = .ok (.iload_n 2, 1) := by decide +kernel
theorem dX5_duty_9 : decode cX5_duty 9 = .ok (.ifCond .lt 9, 3) := by decide +kernel
theorem dX5_duty_12 : decode cX5_duty 12 = .ok (.iload_n 2, 1) := by decide +kernel
theorem dX5_duty_13 : decode cX5_duty 13 = .ok (.bipush 9, 2) := by decide +kernel
theorem dX5_duty_15 : decode cX5_duty 15 = .ok (.if_icmp .lt 13, 3) := by decide +kernel
theorem dX5_duty_18 : decode cX5_duty 18 = .ok (.new 67, 3) := by decide +kernel
theorem dX5_duty_21 : decode cX5_duty 21 = .ok (.dup, 1) := by decide +kernel
theorem dX5_duty_22 : decode cX5_duty 22 = .ok (.ldc 192, 2) := by decide +kernel
theorem dX5_duty_24 : decode cX5_duty 24 = .ok (.invokespecial 71, 3) := by decide +kernel
theorem dX5_duty_27 : decode cX5_duty 27 = .ok (.athrow, 1) := by decide +kernel
theorem dX5_duty_28 : decode cX5_duty 28 = .ok (.aload_n 0, 1) := by decide +kernel
theorem dX5_duty_29 : decode cX5_duty 29 = .ok (.iload_n 1, 1) := by decide +kernel
theorem dX5_duty_30 : decode cX5_duty 30 = .ok (.iload_n 2, 1) := by decide +kernel
theorem dX5_duty_31 : decode cX5_duty 31 = .ok (.invokevirtual 194, 3) := by decide +kernel
theorem dX5_duty_34 : decode cX5_duty 34 = .ok (.ireturn, 1) := by decide +kernel
theorem dX5_tripAt_0 : decode cX5_tripAt 0 = .ok (.aload_n 0, 1) := by decide +kernel
theorem dX5_tripAt_1 : decode cX5_tripAt 1 = .ok (.iload_n 1, 1) := by decide +kernel
theorem dX5_tripAt_2 : decode cX5_tripAt 2 = .ok (.invokevirtual 150, 3) := by decide +kernel
theorem dX5_tripAt_5 : decode cX5_tripAt 5 = .ok (.ifCond .eq 19, 3) := by decide +kernel
theorem dX5_tripAt_8 : decode cX5_tripAt 8 = .ok (.iload_n 2, 1) := by decide +kernel
theorem dX5_tripAt_9 : decode cX5_tripAt 9 = .ok (.ifCond .lt 15, 3) := by decide +kernel
theorem dX5_tripAt_12 : decode cX5_tripAt 12 = .ok (.iload_n 2, 1) := by decide +kernel
theorem dX5_tripAt_13 : decode cX5_tripAt 13 = .ok (.aload_n 0, 1) := by decide +kernel
theorem dX5_tripAt_14 : decode cX5_tripAt 14 = .ok (.iload_n 1, 1) := by decide +kernel
theorem dX5_tripAt_15 : decode cX5_tripAt 15 = .ok (.invokevirtual 164, 3) := by decide +kernel
theorem dX5_tripAt_18 : decode cX5_tripAt 18 = .ok (.getfield 197, 3) := by decide +kernel
theorem dX5_tripAt_21 : decode cX5_tripAt 21 = .ok (.if_icmp .lt 13, 3) := by decide +kernel
theorem dX5_tripAt_24 : decode cX5_tripAt 24 = .ok (.new 67, 3) := by decide +kernel
theorem dX5_tripAt_27 : decode cX5_tripAt 27 = .ok (.dup, 1) := by decide +kernel
theorem dX5_tripAt_28 : decode cX5_tripAt 28 = .ok (.ldc 198, 2) := by decide +kernel
theorem dX5_tripAt_30 : decode cX5_tripAt 30 = .ok (.invokespecial 71, 3) := by decide +kernel
theorem dX5_tripAt_33 : decode cX5_tripAt 33 = .ok (.athrow, 1) := by decide +kernel
theorem dX5_tripAt_34 : decode cX5_tripAt 34 = .ok (.aload_n 0, 1) := by decide +kernel
theorem dX5_tripAt_35 : decode cX5_tripAt 35 = .ok (.iload_n 1, 1) := by decide +kernel
theorem dX5_tripAt_36 : decode cX5_tripAt 36 = .ok (.invokevirtual 164, 3) := by decide +kernel
theorem dX5_tripAt_39 : decode cX5_tripAt 39 = .ok (.iload_n 2, 1) := by decide +kernel
theorem dX5_tripAt_40 : decode cX5_tripAt 40 = .ok (.invokevirtual 200, 3) := by decide +kernel
theorem dX5_tripAt_43 : decode cX5_tripAt 43 = .ok (.ireturn, 1) := by decide +kernel
theorem dX5_bestFor_0 : decode cX5_bestFor 0 = .ok (.aload_n 0, 1) := by decide +kernel
theorem dX5_bestFor_1 : decode cX5_bestFor 1 = .ok (.iload_n 1, 1) := by decide +kernel
theorem dX5_bestFor_2 : decode cX5_bestFor 2 = .ok (.invokevirtual 109, 3) := by decide +kernel
theorem dX5_bestFor_5 : decode cX5_bestFor 5 = .ok (.ifCond .ne 13, 3) := by decide +kernel
theorem dX5_bestFor_8 : decode cX5_bestFor 8 = .ok (.new 67, 3) := by decide +kernel
theorem dX5_bestFor_11 : decode cX5_bestFor 11 = .ok (.dup, 1) := by decide +kernel
theorem dX5_bestFor_12 : decode cX5_bestFor 12 = .ok (.ldc 172, 2) := by decide +kernel
theorem dX5_bestFor_14 : decode cX5_bestFor 14 = .ok (.invokespecial 71, 3) := by decide +kernel
theorem dX5_bestFor_17 : decode cX5_bestFor 17 = .ok (.athrow, 1) := by decide +kernel
theorem dX5_bestFor_18 : decode cX5_bestFor 18 = .ok (.aload_n 0, 1) := by decide +kernel
theorem dX5_bestFor_19 : decode cX5_bestFor 19 = .ok (.iload_n 1, 1) := by decide +kernel
theorem dX5_bestFor_20 : decode cX5_bestFor 20 = .ok (.invokevirtual 203, 3) := by decide +kernel
theorem dX5_bestFor_23 : decode cX5_bestFor 23 = .ok (.ireturn, 1) := by decide +kernel
theorem dX5_plan_0 : decode cX5_plan 0 = .ok (.aload_n 0, 1) := by decide +kernel
theorem dX5_plan_1 : decode cX5_plan 1 = .ok (.getfield 49, 3) := by decide +kernel
theorem dX5_plan_4 : decode cX5_plan 4 = .ok (.invokevirtual 206, 3) := by decide +kernel
theorem dX5_plan_7 : decode cX5_plan 7 = .ok (.iconst 0, 1) := by decide +kernel
theorem dX5_plan_8 : decode cX5_plan 8 = .ok (.istore_n 1, 1) := by decide +kernel
theorem dX5_plan_9 : decode cX5_plan 9 = .ok (.iload_n 1, 1) := by decide +kernel
theorem dX5_plan_10 : decode cX5_plan 10 = .ok (.aload_n 0, 1) := by decide +kernel
theorem dX5_plan_11 : decode cX5_plan 11 = .ok (.getfield 10, 3) := by decide +kernel
theorem dX5_plan_14 : decode cX5_plan 14 = .ok (.getfield 96, 3) := by decide +kernel
theorem dX5_plan_17 : decode cX5_plan 17 = .ok (.if_icmp .ge 34, 3) := by decide +kernel
theorem dX5_plan_20 : decode cX5_plan 20 = .ok (.aload_n 0, 1) := by decide +kernel
theorem dX5_plan_21 : decode cX5_plan 21 = .ok (.iload_n 1, 1) := by decide +kernel
theorem dX5_plan_22 : decode cX5_plan 22 = .ok (.invokevirtual 174, 3) := by decide +kernel
theorem dX5_plan_25 : decode cX5_plan 25 = .ok (.iconst (-1), 1) := by decide +kernel
theorem dX5_plan_26 : decode cX5_plan 26 = .ok (.if_icmp .ne 19, 3) := by decide +kernel
theorem dX5_plan_29 : decode cX5_plan 29 = .ok (.aload_n 0, 1) := by decide +kernel
theorem dX5_plan_30 : decode cX5_plan 30 = .ok (.getfield 49, 3) := by decide +kernel
theorem dX5_plan_33 : decode cX5_plan 33 = .ok (.aload_n 0, 1) := by decide +kernel
theorem dX5_plan_34 : decode cX5_plan 34 = .ok (.getfield 10, 3) := by decide +kernel
theorem dX5_plan_37 : decode cX5_plan 37 = .ok (.iload_n 1, 1) := by decide +kernel
theorem dX5_plan_38 : decode cX5_plan 38 = .ok (.invokevirtual 209, 3) := by decide +kernel
theorem dX5_plan_41 : decode cX5_plan 41 = .ok (.iload_n 1, 1) := by decide +kernel
theorem dX5_plan_42 : decode cX5_plan 42 = .ok (.invokevirtual 212, 3) := by decide +kernel
theorem dX5_plan_45 : decode cX5_plan 45 = .ok (.iinc 1 1, 3) := by decide +kernel
theorem dX5_plan_48 : decode cX5_plan 48 = .ok (.goto (-39), 3) := by decide +kernel
theorem dX5_plan_51 : decode cX5_plan 51 = .ok (.iconst 0, 1) := by decide +kernel
theorem dX5_plan_52 : decode cX5_plan 52 = .ok (.istore_n 1, 1) := by decide +kernel
theorem dX5_plan_53 : decode cX5_plan 53 = .ok (.iload_n 1, 1) := by decide +kernel
theorem dX5_plan_54 : decode cX5_plan 54 = .ok (.aload_n 0, 1) := by decide +kernel
theorem dX5_plan_55 : decode cX5_plan 55 = .ok (.getfield 49, 3) := by decide +kernel
theorem dX5_plan_58 : decode cX5_plan 58 = .ok (.getfield 215, 3) := by decide +kernel
theorem dX5_plan_61 : decode cX5_plan 61 = .ok (.if_icmp .ge 21, 3) := by decide +kernel
theorem dX5_plan_64 : decode cX5_plan 64 = .ok (.aload_n 0, 1) := by decide +kernel
theorem dX5_plan_65 : decode cX5_plan 65 = .ok (.aload_n 0, 1) := by decide +kernel
theorem dX5_plan_66 : decode cX5_plan 66 = .ok (.getfield 49, 3) := by decide +kernel
theorem dX5_plan_69 : decode cX5_plan 69 = .ok (.iload_n 1, 1) := by decide +kernel
theorem dX5_plan_70 : decode cX5_plan 70 = .ok (.invokevirtual 216, 3) := by decide +kernel
theorem dX5_plan_73 : decode cX5_plan 73 = .ok (.invokevirtual 219, 3) := by decide +kernel
theorem dX5_plan_76 : decode cX5_plan 76 = .ok (.iinc 1 1, 3) := by decide +kernel
theorem dX5_plan_79 : decode cX5_plan 79 = .ok (.goto (-26), 3) := by decide +kernel
theorem dX5_plan_82 : decode cX5_plan 82 = .ok (.aload_n 0, 1) := by decide +kernel
theorem dX5_plan_83 : decode cX5_plan 83 = .ok (.invokevirtual 143, 3) := by decide +kernel
theorem dX5_plan_86 : decode cX5_plan 86 = .ok (.ireturn, 1) := by decide +kernel
theorem dX5_swap_0 : decode cX5_swap 0 = .ok (.aload_n 0, 1) := by decide +kernel
theorem dX5_swap_1 : decode cX5_swap 1 = .ok (.iload_n 1, 1) := by decide +kernel
theorem dX5_swap_2 : decode cX5_swap 2 = .ok (.invokevirtual 150, 3) := by decide +kernel
theorem dX5_swap_5 : decode cX5_swap 5 = .ok (.ifCond .eq 11, 3) := by decide +kernel
theorem dX5_swap_8 : decode cX5_swap 8 = .ok (.aload_n 0, 1) := by decide +kernel
theorem dX5_swap_9 : decode cX5_swap 9 = .ok (.iload_n 2, 1) := by decide +kernel
theorem dX5_swap_10 : decode cX5_swap 10 = .ok (.invokevirtual 150, 3) := by decide +kernel
theorem dX5_swap_13 : decode cX5_swap 13 = .ok (.ifCond .ne 13, 3) := by decide +kernel
theorem dX5_swap_16 : decode cX5_swap 16 = .ok (.new 67, 3) := by decide +kernel
theorem dX5_swap_19 : decode cX5_swap 19 = .ok (.dup, 1) := by decide +kernel
theorem dX5_swap_20 : decode cX5_swap 20 = .ok (.ldc 223, 2) := by decide +kernel
theorem dX5_swap_22 : decode cX5_swap 22 = .ok (.invokespecial 71, 3) := by decide +kernel
theorem dX5_swap_25 : decode cX5_swap 25 = .ok (.athrow, 1) := by decide +kernel
theorem dX5_swap_26 : decode cX5_swap 26 = .ok (.iload_n 1, 1) := by decide +kernel
theorem dX5_swap_27 : decode cX5_swap 27 = .ok (.iload_n 2, 1) := by decide +kernel
theorem dX5_swap_28 : decode cX5_swap 28 = .ok (.if_icmp .ne 13, 3) := by decide +kernel
theorem dX5_swap_31 : decode cX5_swap 31 = .ok (.new 74, 3) := by decide +kernel
theorem dX5_swap_34 : decode cX5_swap 34 = .ok (.dup, 1) := by decide +kernel
theorem dX5_swap_35 : decode cX5_swap 35 = .ok (.ldc 225, 2) := by decide +kernel
theorem dX5_swap_37 : decode cX5_swap 37 = .ok (.invokespecial 78, 3) := by decide +kernel
theorem dX5_swap_40 : decode cX5_swap 40 = .ok (.athrow, 1) := by decide +kernel
theorem dX5_swap_41 : decode cX5_swap 41 = .ok (.aload_n 0, 1) := by decide +kernel
theorem dX5_swap_42 : decode cX5_swap 42 = .ok (.iload_n 1, 1) := by decide +kernel
theorem dX5_swap_43 : decode cX5_swap 43 = .ok (.invokevirtual 177, 3) := by decide +kernel
theorem dX5_swap_46 : decode cX5_swap 46 = .ok (.ifCond .ne 21, 3) := by decide +kernel
theorem dX5_swap_49 : decode cX5_swap 49 = .ok (.aload_n 0, 1) := by decide +kernel
theorem dX5_swap_50 : decode cX5_swap 50 = .ok (.iload_n 2, 1) := by decide +kernel
theorem dX5_swap_51 : decode cX5_swap 51 = .ok (.invokevirtual 177, 3) := by decide +kernel
theorem dX5_swap_54 : decode cX5_swap 54 = .ok (.ifCond .ne 13, 3) := by decide +kernel
theorem dX5_swap_57 : decode cX5_swap 57 = .ok (.aload_n 0, 1) := by decide +kernel
theorem dX5_swap_58 : decode cX5_swap 58 = .ok (.iload_n 1, 1) := by decide +kernel
theorem dX5_swap_59 : decode cX5_swap 59 = .ok (.iload_n 2, 1) := by decide +kernel
theorem dX5_swap_60 : decode cX5_swap 60 = .ok (.iload_n 3, 1) := by decide +kernel
theorem dX5_swap_61 : decode cX5_swap 61 = .ok (.invokevirtual 227, 3) := by decide +kernel
theorem dX5_swap_64 : decode cX5_swap 64 = .ok (.ifCond .ne 13, 3) := by decide +kernel
theorem dX5_swap_67 : decode cX5_swap 67 = .ok (.new 100, 3) := by decide +kernel
theorem dX5_swap_70 : decode cX5_swap 70 = .ok (.dup, 1) := by decide +kernel
theorem dX5_swap_71 : decode cX5_swap 71 = .ok (.ldc 231, 2) := by decide +kernel
theorem dX5_swap_73 : decode cX5_swap 73 = .ok (.invokespecial 104, 3) := by decide +kernel
theorem dX5_swap_76 : decode cX5_swap 76 = .ok (.athrow, 1) := by decide +kernel
theorem dX5_swap_77 : decode cX5_swap 77 = .ok (.aload_n 0, 1) := by decide +kernel
theorem dX5_swap_78 : decode cX5_swap 78 = .ok (.iload_n 1, 1) := by decide +kernel
theorem dX5_swap_79 : decode cX5_swap 79 = .ok (.iload_n 2, 1) := by decide +kernel
theorem dX5_swap_80 : decode cX5_swap 80 = .ok (.invokevirtual 233, 3) := by decide +kernel
theorem dX5_swap_83 : decode cX5_swap 83 = .ok (.istore 4, 2) := by decide +kernel
theorem dX5_swap_85 : decode cX5_swap 85 = .ok (.aload_n 0, 1) := by decide +kernel
theorem dX5_swap_86 : decode cX5_swap 86 = .ok (.iload_n 1, 1) := by decide +kernel
theorem dX5_swap_87 : decode cX5_swap 87 = .ok (.iload_n 2, 1) := by decide +kernel
theorem dX5_swap_88 : decode cX5_swap 88 = .ok (.invokevirtual 236, 3) := by decide +kernel
theorem dX5_swap_91 : decode cX5_swap 91 = .ok (.iload 4, 2) := by decide +kernel
theorem dX5_swap_93 : decode cX5_swap 93 = .ok (.ireturn, 1) := by decide +kernel
theorem dX5_improve_0 : decode cX5_improve 0 = .ok (.aload_n 0, 1) := by decide +kernel
theorem dX5_improve_1 : decode cX5_improve 1 = .ok (.getfield 56, 3) := by decide +kernel
theorem dX5_improve_4 : decode cX5_improve 4 = .ok (.invokevirtual 239, 3) := by decide +kernel
theorem dX5_improve_7 : decode cX5_improve 7 = .ok (.iconst 0, 1) := by decide +kernel
theorem dX5_improve_8 : decode cX5_improve 8 = .ok (.istore_n 1, 1) := by decide +kernel
theorem dX5_improve_9 : decode cX5_improve 9 = .ok (.iload_n 1, 1) := by decide +kernel
theorem dX5_improve_10 : decode cX5_improve 10 = .ok (.aload_n 0, 1) := by decide +kernel
theorem dX5_improve_11 : decode cX5_improve 11 = .ok (.getfield 137, 3) := by decide +kernel
theorem dX5_improve_14 : decode cX5_improve 14 = .ok (.if_icmp .ge 22, 3) := by decide +kernel
theorem dX5_improve_17 : decode cX5_improve 17 = .ok (.aload_n 0, 1) := by decide +kernel
theorem dX5_improve_18 : decode cX5_improve 18 = .ok (.iload_n 1, 1) := by decide +kernel
theorem dX5_improve_19 : decode cX5_improve 19 = .ok (.invokevirtual 177, 3) := by decide +kernel
theorem dX5_improve_22 : decode cX5_improve 22 = .ok (.ifCond .ne 8, 3) := by decide +kernel
theorem dX5_improve_25 : decode cX5_improve 25 = .ok (.aload_n 0, 1) := by decide +kernel
theorem dX5_improve_26 : decode cX5_improve 26 = .ok (.iload_n 1, 1) := by decide +kernel
theorem dX5_improve_27 : decode cX5_improve 27 = .ok (.invokevirtual 240, 3) := by decide +kernel
theorem dX5_improve_30 : decode cX5_improve 30 = .ok (.iinc 1 1, 3) := by decide +kernel
theorem dX5_improve_33 : decode cX5_improve 33 = .ok (.goto (-24), 3) := by decide +kernel
theorem dX5_improve_36 : decode cX5_improve 36 = .ok (.aload_n 0, 1) := by decide +kernel
theorem dX5_improve_37 : decode cX5_improve 37 = .ok (.getfield 56, 3) := by decide +kernel
theorem dX5_improve_40 : decode cX5_improve 40 = .ok (.getfield 243, 3) := by decide +kernel
theorem dX5_improve_43 : decode cX5_improve 43 = .ok (.ifCond .ge 49, 3) := by decide +kernel
theorem dX5_improve_46 : decode cX5_improve 46 = .ok (.aload_n 0, 1) := by decide +kernel
theorem dX5_improve_47 : decode cX5_improve 47 = .ok (.aload_n 0, 1) := by decide +kernel
theorem dX5_improve_48 : decode cX5_improve 48 = .ok (.getfield 56, 3) := by decide +kernel
theorem dX5_improve_51 : decode cX5_improve 51 = .ok (.getfield 246, 3) := by decide +kernel
theorem dX5_improve_54 : decode cX5_improve 54 = .ok (.aload_n 0, 1) := by decide +kernel
theorem dX5_improve_55 : decode cX5_improve 55 = .ok (.getfield 56, 3) := by decide +kernel
theorem dX5_improve_58 : decode cX5_improve 58 = .ok (.getfield 249, 3) := by decide +kernel
theorem dX5_improve_61 : decode cX5_improve 61 = .ok (.aload_n 0, 1) := by decide +kernel
theorem dX5_improve_62 : decode cX5_improve 62 = .ok (.getfield 56, 3) := by decide +kernel
theorem dX5_improve_65 : decode cX5_improve 65 = .ok (.getfield 252, 3) := by decide +kernel
theorem dX5_improve_68 : decode cX5_improve 68 = .ok (.invokevirtual 227, 3) := by decide +kernel
theorem dX5_improve_71 : decode cX5_improve 71 = .ok (.ifCond .eq 21, 3) := by decide +kernel
theorem dX5_improve_74 : decode cX5_improve 74 = .ok (.aload_n 0, 1) := by decide +kernel
theorem dX5_improve_75 : decode cX5_improve 75 = .ok (.aload_n 0, 1) := by decide +kernel
theorem dX5_improve_76 : decode cX5_improve 76 = .ok (.getfield 56, 3) := by decide +kernel
theorem dX5_improve_79 : decode cX5_improve 79 = .ok (.getfield 246, 3) := by decide +kernel
theorem dX5_improve_82 : decode cX5_improve 82 = .ok (.aload_n 0, 1) := by decide +kernel
theorem dX5_improve_83 : decode cX5_improve 83 = .ok (.getfield 56, 3) := by decide +kernel
theorem dX5_improve_86 : decode cX5_improve 86 = .ok (.getfield 249, 3) := by decide +kernel
theorem dX5_improve_89 : decode cX5_improve 89 = .ok (.invokevirtual 236, 3) := by decide +kernel
theorem dX5_improve_92 : decode cX5_improve 92 = .ok (.aload_n 0, 1) := by decide +kernel
theorem dX5_improve_93 : decode cX5_improve 93 = .ok (.getfield 56, 3) := by decide +kernel
theorem dX5_improve_96 : decode cX5_improve 96 = .ok (.getfield 243, 3) := by decide +kernel
theorem dX5_improve_99 : decode cX5_improve 99 = .ok (.ireturn, 1) := by decide +kernel
theorem dX5_pay_0 : decode cX5_pay 0 = .ok (.iconst 0, 1) := by decide +kernel
theorem dX5_pay_1 : decode cX5_pay 1 = .ok (.istore_n 1, 1) := by decide +kernel
theorem dX5_pay_2 : decode cX5_pay 2 = .ok (.iconst 0, 1) := by decide +kernel
theorem dX5_pay_3 : decode cX5_pay 3 = .ok (.istore_n 2, 1) := by decide +kernel
theorem dX5_pay_4 : decode cX5_pay 4 = .ok (.iload_n 2, 1) := by decide +kernel
theorem dX5_pay_5 : decode cX5_pay 5 = .ok (.aload_n 0, 1) := by decide +kernel
theorem dX5_pay_6 : decode cX5_pay 6 = .ok (.getfield 137, 3) := by decide +kernel
theorem dX5_pay_9 : decode cX5_pay 9 = .ok (.if_icmp .ge 20, 3) := by decide +kernel
theorem dX5_pay_12 : decode cX5_pay 12 = .ok (.iload_n 1, 1) := by decide +kernel
theorem dX5_pay_13 : decode cX5_pay 13 = .ok (.aload_n 0, 1) := by decide +kernel
theorem dX5_pay_14 : decode cX5_pay 14 = .ok (.iload_n 2, 1) := by decide +kernel
theorem dX5_pay_15 : decode cX5_pay 15 = .ok (.invokevirtual 164, 3) := by decide +kernel
theorem dX5_pay_18 : decode cX5_pay 18 = .ok (.getfield 255, 3) := by decide +kernel
theorem dX5_pay_21 : decode cX5_pay 21 = .ok (.iadd, 1) := by decide +kernel
theorem dX5_pay_22 : decode cX5_pay 22 = .ok (.istore_n 1, 1) := by decide +kernel
theorem dX5_pay_23 : decode cX5_pay 23 = .ok (.iinc 2 1, 3) := by decide +kernel
theorem dX5_pay_26 : decode cX5_pay 26 = .ok (.goto (-22), 3) := by decide +kernel
theorem dX5_pay_29 : decode cX5_pay 29 = .ok (.iload_n 1, 1) := by decide +kernel
theorem dX5_pay_30 : decode cX5_pay 30 = .ok (.ireturn, 1) := by decide +kernel
theorem dX5_use_0 : decode cX5_use 0 = .ok (.iconst 0, 1) := by decide +kernel
theorem dX5_use_1 : decode cX5_use 1 = .ok (.istore_n 1, 1) := by decide +kernel
theorem dX5_use_2 : decode cX5_use 2 = .ok (.iconst 0, 1) := by decide +kernel
theorem dX5_use_3 : decode cX5_use 3 = .ok (.istore_n 2, 1) := by decide +kernel
theorem dX5_use_4 : decode cX5_use 4 = .ok (.iload_n 2, 1) := by decide +kernel
theorem dX5_use_5 : decode cX5_use 5 = .ok (.aload_n 0, 1) := by decide +kernel
theorem dX5_use_6 : decode cX5_use 6 = .ok (.getfield 10, 3) := by decide +kernel
theorem dX5_use_9 : decode cX5_use 9 = .ok (.getfield 96, 3) := by decide +kernel
theorem dX5_use_12 : decode cX5_use 12 = .ok (.if_icmp .ge 29, 3) := by decide +kernel
theorem dX5_use_15 : decode cX5_use 15 = .ok (.aload_n 0, 1) := by decide +kernel
theorem dX5_use_16 : decode cX5_use 16 = .ok (.iload_n 2, 1) := by decide +kernel
theorem dX5_use_17 : decode cX5_use 17 = .ok (.invokevirtual 174, 3) := by decide +kernel
theorem dX5_use_20 : decode cX5_use 20 = .ok (.iconst (-1), 1) := by decide +kernel
theorem dX5_use_21 : decode cX5_use 21 = .ok (.if_icmp .eq 14, 3) := by decide +kernel
theorem dX5_use_24 : decode cX5_use 24 = .ok (.iload_n 1, 1) := by decide +kernel
theorem dX5_use_25 : decode cX5_use 25 = .ok (.aload_n 0, 1) := by decide +kernel
theorem dX5_use_26 : decode cX5_use 26 = .ok (.getfield 10, 3) := by decide +kernel
theorem dX5_use_29 : decode cX5_use 29 = .ok (.iload_n 2, 1) := by decide +kernel
theorem dX5_use_30 : decode cX5_use 30 = .ok (.invokevirtual 258, 3) := by decide +kernel
theorem dX5_use_33 : decode cX5_use 33 = .ok (.iadd, 1) := by decide +kernel
theorem dX5_use_34 : decode cX5_use 34 = .ok (.istore_n 1, 1) := by decide +kernel
theorem dX5_use_35 : decode cX5_use 35 = .ok (.iinc 2 1, 3) := by decide +kernel
theorem dX5_use_38 : decode cX5_use 38 = .ok (.goto (-34), 3) := by decide +kernel
theorem dX5_use_41 : decode cX5_use 41 = .ok (.iconst 0, 1) := by decide +kernel
theorem dX5_use_42 : decode cX5_use 42 = .ok (.istore_n 2, 1) := by decide +kernel
theorem dX5_use_43 : decode cX5_use 43 = .ok (.iconst 0, 1) := by decide +kernel
theorem dX5_use_44 : decode cX5_use 44 = .ok (.istore_n 3, 1) := by decide +kernel
theorem dX5_use_45 : decode cX5_use 45 = .ok (.iload_n 3, 1) := by decide +kernel
theorem dX5_use_46 : decode cX5_use 46 = .ok (.aload_n 0, 1) := by decide +kernel
theorem dX5_use_47 : decode cX5_use 47 = .ok (.getfield 137, 3) := by decide +kernel
theorem dX5_use_50 : decode cX5_use 50 = .ok (.if_icmp .ge 20, 3) := by decide +kernel
theorem dX5_use_53 : decode cX5_use 53 = .ok (.iload_n 2, 1) := by decide +kernel
theorem dX5_use_54 : decode cX5_use 54 = .ok (.aload_n 0, 1) := by decide +kernel
theorem dX5_use_55 : decode cX5_use 55 = .ok (.iload_n 3, 1) := by decide +kernel
theorem dX5_use_56 : decode cX5_use 56 = .ok (.invokevirtual 164, 3) := by decide +kernel
theorem dX5_use_59 : decode cX5_use 59 = .ok (.getfield 261, 3) := by decide +kernel
theorem dX5_use_62 : decode cX5_use 62 = .ok (.iadd, 1) := by decide +kernel
theorem dX5_use_63 : decode cX5_use 63 = .ok (.istore_n 2, 1) := by decide +kernel
theorem dX5_use_64 : decode cX5_use 64 = .ok (.iinc 3 1, 3) := by decide +kernel
theorem dX5_use_67 : decode cX5_use 67 = .ok (.goto (-22), 3) := by decide +kernel
theorem dX5_use_70 : decode cX5_use 70 = .ok (.iload_n 2, 1) := by decide +kernel
theorem dX5_use_71 : decode cX5_use 71 = .ok (.ifCond .ne 7, 3) := by decide +kernel
theorem dX5_use_74 : decode cX5_use 74 = .ok (.dconst 0, 1) := by decide +kernel
theorem dX5_use_75 : decode cX5_use 75 = .ok (.goto 8, 3) := by decide +kernel
theorem dX5_use_78 : decode cX5_use 78 = .ok (.iload_n 1, 1) := by decide +kernel
theorem dX5_use_79 : decode cX5_use 79 = .ok (.i2d, 1) := by decide +kernel
theorem dX5_use_80 : decode cX5_use 80 = .ok (.iload_n 2, 1) := by decide +kernel
theorem dX5_use_81 : decode cX5_use 81 = .ok (.i2d, 1) := by decide +kernel
theorem dX5_use_82 : decode cX5_use 82 = .ok (.ddiv, 1) := by decide +kernel
theorem dX5_use_83 : decode cX5_use 83 = .ok (.dreturn, 1) := by decide +kernel
theorem dX5_addDriver_0 : decode cX5_addDriver 0 = .ok (.aload_n 0, 1) := by decide +kernel
theorem dX5_addDriver_1 : decode cX5_addDriver 1 = .ok (.getfield 140, 3) := by decide +kernel
theorem dX5_addDriver_4 : decode cX5_addDriver 4 = .ok (.bipush 8, 2) := by decide +kernel
theorem dX5_addDriver_6 : decode cX5_addDriver 6 = .ok (.if_icmp .lt 14, 3) := by decide +kernel
theorem dX5_addDriver_9 : decode cX5_addDriver 9 = .ok (.new 100, 3) := by decide +kernel
theorem dX5_addDriver_12 : decode cX5_addDriver 12 = .ok (.dup, 1) := by decide +kernel
theorem dX5_addDriver_13 : decode cX5_addDriver 13 = .ok (.ldc_w 264, 3) := by decide +kernel
theorem dX5_addDriver_16 : decode cX5_addDriver 16 = .ok (.invokespecial 104, 3) := by decide +kernel
theorem dX5_addDriver_19 : decode cX5_addDriver 19 = .ok (.athrow, 1) := by decide +kernel
theorem dX5_addDriver_20 : decode cX5_addDriver 20 = .ok (.aload_n 0, 1) := by decide +kernel
theorem dX5_addDriver_21 : decode cX5_addDriver 21 = .ok (.dup, 1) := by decide +kernel
theorem dX5_addDriver_22 : decode cX5_addDriver 22 = .ok (.getfield 140, 3) := by decide +kernel
theorem dX5_addDriver_25 : decode cX5_addDriver 25 = .ok (.dup_x1, 1) := by decide +kernel
theorem dX5_addDriver_26 : decode cX5_addDriver 26 = .ok (.iconst 1, 1) := by decide +kernel
theorem dX5_addDriver_27 : decode cX5_addDriver 27 = .ok (.iadd, 1) := by decide +kernel
theorem dX5_addDriver_28 : decode cX5_addDriver 28 = .ok (.putfield 140, 3) := by decide +kernel
theorem dX5_addDriver_31 : decode cX5_addDriver 31 = .ok (.ireturn, 1) := by decide +kernel
theorem dX5_reason_0 : decode cX5_reason 0 = .ok (.aload_n 0, 1) := by decide +kernel
theorem dX5_reason_1 : decode cX5_reason 1 = .ok (.iload_n 1, 1) := by decide +kernel
theorem dX5_reason_2 : decode cX5_reason 2 = .ok (.invokevirtual 266, 3) := by decide +kernel
theorem dX5_reason_5 : decode cX5_reason 5 = .ok (.ifCond .eq 18, 3) := by decide +kernel
theorem dX5_reason_8 : decode cX5_reason 8 = .ok (.iload_n 2, 1) := by decide +kernel
theorem dX5_reason_9 : decode cX5_reason 9 = .ok (.invokestatic 269, 3) := by decide +kernel
theorem dX5_reason_12 : decode cX5_reason 12 = .ok (.ifCond .eq 11, 3) := by decide +kernel
theorem dX5_reason_15 : decode cX5_reason 15 = .ok (.aload_n 0, 1) := by decide +kernel
theorem dX5_reason_16 : decode cX5_reason 16 = .ok (.iload_n 3, 1) := by decide +kernel
theorem dX5_reason_17 : decode cX5_reason 17 = .ok (.invokevirtual 150, 3) := by decide +kernel
theorem dX5_reason_20 : decode cX5_reason 20 = .ok (.ifCond .ne 14, 3) := by decide +kernel
theorem dX5_reason_23 : decode cX5_reason 23 = .ok (.new 67, 3) := by decide +kernel
theorem dX5_reason_26 : decode cX5_reason 26 = .ok (.dup, 1) := by decide +kernel
theorem dX5_reason_27 : decode cX5_reason 27 = .ok (.ldc_w 272, 3) := by decide +kernel
theorem dX5_reason_30 : decode cX5_reason 30 = .ok (.invokespecial 71, 3) := by decide +kernel
theorem dX5_reason_33 : decode cX5_reason 33 = .ok (.athrow, 1) := by decide +kernel
theorem dX5_reason_34 : decode cX5_reason 34 = .ok (.aload_n 0, 1) := by decide +kernel
theorem dX5_reason_35 : decode cX5_reason 35 = .ok (.iload_n 1, 1) := by decide +kernel
theorem dX5_reason_36 : decode cX5_reason 36 = .ok (.iload_n 2, 1) := by decide +kernel
theorem dX5_reason_37 : decode cX5_reason 37 = .ok (.iload_n 3, 1) := by decide +kernel
theorem dX5_reason_38 : decode cX5_reason 38 = .ok (.invokevirtual 274, 3) := by decide +kernel
theorem dX5_reason_41 : decode cX5_reason 41 = .ok (.ireturn, 1) := by decide +kernel
theorem dX5_give_0 : decode cX5_give 0 = .ok (.aload_n 0, 1) := by decide +kernel
theorem dX5_give_1 : decode cX5_give 1 = .ok (.iload_n 1, 1) := by decide +kernel
theorem dX5_give_2 : decode cX5_give 2 = .ok (.invokevirtual 266, 3) := by decide +kernel
theorem dX5_give_5 : decode cX5_give 5 = .ok (.ifCond .eq 18, 3) := by decide +kernel
theorem dX5_give_8 : decode cX5_give 8 = .ok (.iload_n 2, 1) := by decide +kernel
theorem dX5_give_9 : decode cX5_give 9 = .ok (.invokestatic 269, 3) := by decide +kernel
theorem dX5_give_12 : decode cX5_give 12 = .ok (.ifCond .eq 11, 3) := by decide +kernel
theorem dX5_give_15 : decode cX5_give 15 = .ok (.aload_n 0, 1) := by decide +kernel
theorem dX5_give_16 : decode cX5_give 16 = .ok (.iload_n 3, 1) := by decide +kernel
theorem dX5_give_17 : decode cX5_give 17 = .ok (.invokevirtual 150, 3) := by decide +kernel
theorem dX5_give_20 : decode cX5_give 20 = .ok (.ifCond .ne 14, 3) := by decide +kernel
theorem dX5_give_23 : decode cX5_give 23 = .ok (.new 67, 3) := by decide +kernel
theorem dX5_give_26 : decode cX5_give 26 = .ok (.dup, 1) := by decide +kernel
theorem dX5_give_27 : decode cX5_give 27 = .ok (.ldc_w 272, 3) := by decide +kernel
theorem dX5_give_30 : decode cX5_give 30 = .ok (.invokespecial 71, 3) := by decide +kernel
theorem dX5_give_33 : decode cX5_give 33 = .ok (.athrow, 1) := by decide +kernel
theorem dX5_give_34 : decode cX5_give 34 = .ok (.aload_n 0, 1) := by decide +kernel
theorem dX5_give_35 : decode cX5_give 35 = .ok (.iload_n 1, 1) := by decide +kernel
theorem dX5_give_36 : decode cX5_give 36 = .ok (.iload_n 2, 1) := by decide +kernel
theorem dX5_give_37 : decode cX5_give 37 = .ok (.iload_n 3, 1) := by decide +kernel
theorem dX5_give_38 : decode cX5_give 38 = .ok (.invokevirtual 274, 3) := by decide +kernel
theorem dX5_give_41 : decode cX5_give 41 = .ok (.ifCond .eq 14, 3) := by decide +kernel
theorem dX5_give_44 : decode cX5_give 44 = .ok (.new 100, 3) := by decide +kernel
theorem dX5_give_47 : decode cX5_give 47 = .ok (.dup, 1) := by decide +kernel
theorem dX5_give_48 : decode cX5_give 48 = .ok (.ldc_w 278, 3) := by decide +kernel
theorem dX5_give_51 : decode cX5_give 51 = .ok (.invokespecial 104, 3) := by decide +kernel
theorem dX5_give_54 : decode cX5_give 54 = .ok (.athrow, 1) := by decide +kernel
theorem dX5_give_55 : decode cX5_give 55 = .ok (.aload_n 0, 1) := by decide +kernel
theorem dX5_give_56 : decode cX5_give 56 = .ok (.iload_n 1, 1) := by decide +kernel
theorem dX5_give_57 : decode cX5_give 57 = .ok (.iload_n 2, 1) := by decide +kernel
theorem dX5_give_58 : decode cX5_give 58 = .ok (.iload_n 3, 1) := by decide +kernel
theorem dX5_give_59 : decode cX5_give 59 = .ok (.invokevirtual 280, 3) := by decide +kernel
theorem dX5_give_62 : decode cX5_give 62 = .ok (.aload_n 0, 1) := by decide +kernel
theorem dX5_give_63 : decode cX5_give 63 = .ok (.iload_n 1, 1) := by decide +kernel
theorem dX5_give_64 : decode cX5_give 64 = .ok (.invokevirtual 283, 3) := by decide +kernel
theorem dX5_give_67 : decode cX5_give 67 = .ok (.ireturn, 1) := by decide +kernel
theorem dX5_takeBack_0 : decode cX5_takeBack 0 = .ok (.aload_n 0, 1) := by decide +kernel
theorem dX5_takeBack_1 : decode cX5_takeBack 1 = .ok (.iload_n 1, 1) := by decide +kernel
theorem dX5_takeBack_2 : decode cX5_takeBack 2 = .ok (.invokevirtual 266, 3) := by decide +kernel
theorem dX5_takeBack_5 : decode cX5_takeBack 5 = .ok (.ifCond .eq 10, 3) := by decide +kernel
theorem dX5_takeBack_8 : decode cX5_takeBack 8 = .ok (.iload_n 2, 1) := by decide +kernel
theorem dX5_takeBack_9 : decode cX5_takeBack 9 = .ok (.invokestatic 269, 3) := by decide +kernel
theorem dX5_takeBack_12 : decode cX5_takeBack 12 = .ok (.ifCond .ne 14, 3) := by decide +kernel
theorem dX5_takeBack_15 : decode cX5_takeBack 15 = .ok (.new 67, 3) := by decide +kernel
theorem dX5_takeBack_18 : decode cX5_takeBack 18 = .ok (.dup, 1) := by decide +kernel
theorem dX5_takeBack_19 : decode cX5_takeBack 19 = .ok (.ldc_w 286, 3) := by decide +kernel
theorem dX5_takeBack_22 : decode cX5_takeBack 22 = .ok (.invokespecial 71, 3) := by decide +kernel
theorem dX5_takeBack_25 : decode cX5_takeBack 25 = .ok (.athrow, 1) := by decide +kernel
theorem dX5_takeBack_26 : decode cX5_takeBack 26 = .ok (.aload_n 0, 1) := by decide +kernel
theorem dX5_takeBack_27 : decode cX5_takeBack 27 = .ok (.iload_n 1, 1) := by decide +kernel
theorem dX5_takeBack_28 : decode cX5_takeBack 28 = .ok (.iload_n 2, 1) := by decide +kernel
theorem dX5_takeBack_29 : decode cX5_takeBack 29 = .ok (.invokevirtual 288, 3) := by decide +kernel
theorem dX5_takeBack_32 : decode cX5_takeBack 32 = .ok (.istore_n 3, 1) := by decide +kernel
theorem dX5_takeBack_33 : decode cX5_takeBack 33 = .ok (.iload_n 3, 1) := by decide +kernel
theorem dX5_takeBack_34 : decode cX5_takeBack 34 = .ok (.iconst (-1), 1) := by decide +kernel
theorem dX5_takeBack_35 : decode cX5_takeBack 35 = .ok (.if_icmp .ne 14, 3) := by decide +kernel
theorem dX5_takeBack_38 : decode cX5_takeBack 38 = .ok (.new 100, 3) := by decide +kernel
theorem dX5_takeBack_41 : decode cX5_takeBack 41 = .ok (.dup, 1) := by decide +kernel
theorem dX5_takeBack_42 : decode cX5_takeBack 42 = .ok (.ldc_w 291, 3) := by decide +kernel
theorem dX5_takeBack_45 : decode cX5_takeBack 45 = .ok (.invokespecial 104, 3) := by decide +kernel
theorem dX5_takeBack_48 : decode cX5_takeBack 48 = .ok (.athrow, 1) := by decide +kernel
theorem dX5_takeBack_49 : decode cX5_takeBack 49 = .ok (.aload_n 0, 1) := by decide +kernel
theorem dX5_takeBack_50 : decode cX5_takeBack 50 = .ok (.iload_n 1, 1) := by decide +kernel
theorem dX5_takeBack_51 : decode cX5_takeBack 51 = .ok (.iload_n 2, 1) := by decide +kernel
theorem dX5_takeBack_52 : decode cX5_takeBack 52 = .ok (.iconst (-1), 1) := by decide +kernel
theorem dX5_takeBack_53 : decode cX5_takeBack 53 = .ok (.invokevirtual 280, 3) := by decide +kernel
theorem dX5_takeBack_56 : decode cX5_takeBack 56 = .ok (.iload_n 3, 1) := by decide +kernel
theorem dX5_takeBack_57 : decode cX5_takeBack 57 = .ok (.ireturn, 1) := by decide +kernel
theorem dX5_given_0 : decode cX5_given 0 = .ok (.aload_n 0, 1) := by decide +kernel
theorem dX5_given_1 : decode cX5_given 1 = .ok (.iload_n 1, 1) := by decide +kernel
theorem dX5_given_2 : decode cX5_given 2 = .ok (.invokevirtual 266, 3) := by decide +kernel
theorem dX5_given_5 : decode cX5_given 5 = .ok (.ifCond .eq 10, 3) := by decide +kernel
theorem dX5_given_8 : decode cX5_given 8 = .ok (.iload_n 2, 1) := by decide +kernel
theorem dX5_given_9 : decode cX5_given 9 = .ok (.invokestatic 269, 3) := by decide +kernel
theorem dX5_given_12 : decode cX5_given 12 = .ok (.ifCond .ne 14, 3) := by decide +kernel
theorem dX5_given_15 : decode cX5_given 15 = .ok (.new 67, 3) := by decide +kernel
theorem dX5_given_18 : decode cX5_given 18 = .ok (.dup, 1) := by decide +kernel
theorem dX5_given_19 : decode cX5_given 19 = .ok (.ldc_w 286, 3) := by decide +kernel
theorem dX5_given_22 : decode cX5_given 22 = .ok (.invokespecial 71, 3) := by decide +kernel
theorem dX5_given_25 : decode cX5_given 25 = .ok (.athrow, 1) := by decide +kernel
theorem dX5_given_26 : decode cX5_given 26 = .ok (.aload_n 0, 1) := by decide +kernel
theorem dX5_given_27 : decode cX5_given 27 = .ok (.iload_n 1, 1) := by decide +kernel
theorem dX5_given_28 : decode cX5_given 28 = .ok (.iload_n 2, 1) := by decide +kernel
theorem dX5_given_29 : decode cX5_given 29 = .ok (.invokevirtual 288, 3) := by decide +kernel
theorem dX5_given_32 : decode cX5_given 32 = .ok (.ireturn, 1) := by decide +kernel
theorem dX5_fill_0 : decode cX5_fill 0 = .ok (.iload_n 1, 1) := by decide +kernel
theorem dX5_fill_1 : decode cX5_fill 1 = .ok (.invokestatic 269, 3) := by decide +kernel
theorem dX5_fill_4 : decode cX5_fill 4 = .ok (.ifCond .ne 14, 3) := by decide +kernel
theorem dX5_fill_7 : decode cX5_fill 7 = .ok (.new 67, 3) := by decide +kernel
theorem dX5_fill_10 : decode cX5_fill 10 = .ok (.dup, 1) := by decide +kernel
theorem dX5_fill_11 : decode cX5_fill 11 = .ok (.ldc_w 293, 3) := by decide +kernel
theorem dX5_fill_14 : decode cX5_fill 14 = .ok (.invokespecial 71, 3) := by decide +kernel
theorem dX5_fill_17 : decode cX5_fill 17 = .ok (.athrow, 1) := by decide +kernel
theorem dX5_fill_18 : decode cX5_fill 18 = .ok (.aload_n 0, 1) := by decide +kernel
theorem dX5_fill_19 : decode cX5_fill 19 = .ok (.getfield 49, 3) := by decide +kernel
theorem dX5_fill_22 : decode cX5_fill 22 = .ok (.invokevirtual 206, 3) := by decide +kernel
theorem dX5_fill_25 : decode cX5_fill 25 = .ok (.iconst 0, 1) := by decide +kernel
theorem dX5_fill_26 : decode cX5_fill 26 = .ok (.istore_n 2, 1) := by decide +kernel
theorem dX5_fill_27 : decode cX5_fill 27 = .ok (.iload_n 2, 1) := by decide +kernel
theorem dX5_fill_28 : decode cX5_fill 28 = .ok (.aload_n 0, 1) := by decide +kernel
theorem dX5_fill_29 : decode cX5_fill 29 = .ok (.getfield 137, 3) := by decide +kernel
theorem dX5_fill_32 : decode cX5_fill 32 = .ok (.if_icmp .ge 34, 3) := by decide +kernel
theorem dX5_fill_35 : decode cX5_fill 35 = .ok (.aload_n 0, 1) := by decide +kernel
theorem dX5_fill_36 : decode cX5_fill 36 = .ok (.iload_n 2, 1) := by decide +kernel
theorem dX5_fill_37 : decode cX5_fill 37 = .ok (.iload_n 1, 1) := by decide +kernel
theorem dX5_fill_38 : decode cX5_fill 38 = .ok (.invokevirtual 295, 3) := by decide +kernel
theorem dX5_fill_41 : decode cX5_fill 41 = .ok (.ifCond .eq 19, 3) := by decide +kernel
theorem dX5_fill_44 : decode cX5_fill 44 = .ok (.aload_n 0, 1) := by decide +kernel
theorem dX5_fill_45 : decode cX5_fill 45 = .ok (.getfield 49, 3) := by decide +kernel
theorem dX5_fill_48 : decode cX5_fill 48 = .ok (.aload_n 0, 1) := by decide +kernel
theorem dX5_fill_49 : decode cX5_fill 49 = .ok (.iload_n 2, 1) := by decide +kernel
theorem dX5_fill_50 : decode cX5_fill 50 = .ok (.invokevirtual 164, 3) := by decide +kernel
theorem dX5_fill_53 : decode cX5_fill 53 = .ok (.getfield 298, 3) := by decide +kernel
theorem dX5_fill_56 : decode cX5_fill 56 = .ok (.iload_n 2, 1) := by decide +kernel
theorem dX5_fill_57 : decode cX5_fill 57 = .ok (.invokevirtual 212, 3) := by decide +kernel
theorem dX5_fill_60 : decode cX5_fill 60 = .ok (.iinc 2 1, 3) := by decide +kernel
theorem dX5_fill_63 : decode cX5_fill 63 = .ok (.goto (-36), 3) := by decide +kernel
theorem dX5_fill_66 : decode cX5_fill 66 = .ok (.iconst 0, 1) := by decide +kernel
theorem dX5_fill_67 : decode cX5_fill 67 = .ok (.istore_n 2, 1) := by decide +kernel
theorem dX5_fill_68 : decode cX5_fill 68 = .ok (.iload_n 2, 1) := by decide +kernel
theorem dX5_fill_69 : decode cX5_fill 69 = .ok (.aload_n 0, 1) := by decide +kernel
theorem dX5_fill_70 : decode cX5_fill 70 = .ok (.getfield 49, 3) := by decide +kernel
theorem dX5_fill_73 : decode cX5_fill 73 = .ok (.getfield 215, 3) := by decide +kernel
theorem dX5_fill_76 : decode cX5_fill 76 = .ok (.if_icmp .ge 22, 3) := by decide +kernel
theorem dX5_fill_79 : decode cX5_fill 79 = .ok (.aload_n 0, 1) := by decide +kernel
theorem dX5_fill_80 : decode cX5_fill 80 = .ok (.aload_n 0, 1) := by decide +kernel
theorem dX5_fill_81 : decode cX5_fill 81 = .ok (.getfield 49, 3) := by decide +kernel
theorem dX5_fill_84 : decode cX5_fill 84 = .ok (.iload_n 2, 1) := by decide +kernel
theorem dX5_fill_85 : decode cX5_fill 85 = .ok (.invokevirtual 216, 3) := by decide +kernel
theorem dX5_fill_88 : decode cX5_fill 88 = .ok (.iload_n 1, 1) := by decide +kernel
theorem dX5_fill_89 : decode cX5_fill 89 = .ok (.invokevirtual 301, 3) := by decide +kernel
theorem dX5_fill_92 : decode cX5_fill 92 = .ok (.iinc 2 1, 3) := by decide +kernel
theorem dX5_fill_95 : decode cX5_fill 95 = .ok (.goto (-27), 3) := by decide +kernel
theorem dX5_fill_98 : decode cX5_fill 98 = .ok (.aload_n 0, 1) := by decide +kernel
theorem dX5_fill_99 : decode cX5_fill 99 = .ok (.iload_n 1, 1) := by decide +kernel
theorem dX5_fill_100 : decode cX5_fill 100 = .ok (.invokevirtual 304, 3) := by decide +kernel
theorem dX5_fill_103 : decode cX5_fill 103 = .ok (.ireturn, 1) := by decide +kernel
theorem dX5_week_0 : decode cX5_week 0 = .ok (.aload_n 0, 1) := by decide +kernel
theorem dX5_week_1 : decode cX5_week 1 = .ok (.iload_n 1, 1) := by decide +kernel
theorem dX5_week_2 : decode cX5_week 2 = .ok (.invokevirtual 266, 3) := by decide +kernel
theorem dX5_week_5 : decode cX5_week 5 = .ok (.ifCond .ne 14, 3) := by decide +kernel
theorem dX5_week_8 : decode cX5_week 8 = .ok (.new 67, 3) := by decide +kernel
theorem dX5_week_11 : decode cX5_week 11 = .ok (.dup, 1) := by decide +kernel
theorem dX5_week_12 : decode cX5_week 12 = .ok (.ldc_w 307, 3) := by decide +kernel
theorem dX5_week_15 : decode cX5_week 15 = .ok (.invokespecial 71, 3) := by decide +kernel
theorem dX5_week_18 : decode cX5_week 18 = .ok (.athrow, 1) := by decide +kernel
theorem dX5_week_19 : decode cX5_week 19 = .ok (.aload_n 0, 1) := by decide +kernel
theorem dX5_week_20 : decode cX5_week 20 = .ok (.iload_n 1, 1) := by decide +kernel
theorem dX5_week_21 : decode cX5_week 21 = .ok (.invokevirtual 283, 3) := by decide +kernel
theorem dX5_week_24 : decode cX5_week 24 = .ok (.ireturn, 1) := by decide +kernel
theorem dX5_rest_0 : decode cX5_rest 0 = .ok (.aload_n 0, 1) := by decide +kernel
theorem dX5_rest_1 : decode cX5_rest 1 = .ok (.iload_n 1, 1) := by decide +kernel
theorem dX5_rest_2 : decode cX5_rest 2 = .ok (.invokevirtual 266, 3) := by decide +kernel
theorem dX5_rest_5 : decode cX5_rest 5 = .ok (.ifCond .eq 14, 3) := by decide +kernel
theorem dX5_rest_8 : decode cX5_rest 8 = .ok (.iload_n 2, 1) := by decide +kernel
theorem dX5_rest_9 : decode cX5_rest 9 = .ok (.invokestatic 269, 3) := by decide +kernel
theorem dX5_rest_12 : decode cX5_rest 12 = .ok (.ifCond .eq 7, 3) := by decide +kernel
theorem dX5_rest_15 : decode cX5_rest 15 = .ok (.iload_n 2, 1) := by decide +kernel
theorem dX5_rest_16 : decode cX5_rest 16 = .ok (.ifCond .ne 14, 3) := by decide +kernel
theorem dX5_rest_19 : decode cX5_rest 19 = .ok (.new 67, 3) := by decide +kernel
theorem dX5_rest_22 : decode cX5_rest 22 = .ok (.dup, 1) := by decide +kernel
theorem dX5_rest_23 : decode cX5_rest 23 = .ok (.ldc_w 309, 3) := by decide +kernel
theorem dX5_rest_26 : decode cX5_rest 26 = .ok (.invokespecial 71, 3) := by decide +kernel
theorem dX5_rest_29 : decode cX5_rest 29 = .ok (.athrow, 1) := by decide +kernel
theorem dX5_rest_30 : decode cX5_rest 30 = .ok (.aload_n 0, 1) := by decide +kernel
theorem dX5_rest_31 : decode cX5_rest 31 = .ok (.iload_n 1, 1) := by decide +kernel
theorem dX5_rest_32 : decode cX5_rest 32 = .ok (.iload_n 2, 1) := by decide +kernel
theorem dX5_rest_33 : decode cX5_rest 33 = .ok (.iconst 1, 1) := by decide +kernel
theorem dX5_rest_34 : decode cX5_rest 34 = .ok (.isub, 1) := by decide +kernel
theorem dX5_rest_35 : decode cX5_rest 35 = .ok (.invokevirtual 288, 3) := by decide +kernel
theorem dX5_rest_38 : decode cX5_rest 38 = .ok (.istore_n 3, 1) := by decide +kernel
theorem dX5_rest_39 : decode cX5_rest 39 = .ok (.aload_n 0, 1) := by decide +kernel
theorem dX5_rest_40 : decode cX5_rest 40 = .ok (.iload_n 1, 1) := by decide +kernel
theorem dX5_rest_41 : decode cX5_rest 41 = .ok (.iload_n 2, 1) := by decide +kernel
theorem dX5_rest_42 : decode cX5_rest 42 = .ok (.invokevirtual 288, 3) := by decide +kernel
theorem dX5_rest_45 : decode cX5_rest 45 = .ok (.istore 4, 2) := by decide +kernel
theorem dX5_rest_47 : decode cX5_rest 47 = .ok (.iload_n 3, 1) := by decide +kernel
theorem dX5_rest_48 : decode cX5_rest 48 = .ok (.iconst (-1), 1) := by decide +kernel
theorem dX5_rest_49 : decode cX5_rest 49 = .ok (.if_icmp .eq 9, 3) := by decide +kernel
theorem dX5_rest_52 : decode cX5_rest 52 = .ok (.iload 4, 2) := by decide +kernel
theorem dX5_rest_54 : decode cX5_rest 54 = .ok (.iconst (-1), 1) := by decide +kernel
theorem dX5_rest_55 : decode cX5_rest 55 = .ok (.if_icmp .ne 7, 3) := by decide +kernel
theorem dX5_rest_58 : decode cX5_rest 58 = .ok (.iconst (-1), 1) := by decide +kernel
theorem dX5_rest_59 : decode cX5_rest 59 = .ok (.goto 10, 3) := by decide +kernel
theorem dX5_rest_62 : decode cX5_rest 62 = .ok (.aload_n 0, 1) := by decide +kernel
theorem dX5_rest_63 : decode cX5_rest 63 = .ok (.iload_n 3, 1) := by decide +kernel
theorem dX5_rest_64 : decode cX5_rest 64 = .ok (.iload 4, 2) := by decide +kernel
theorem dX5_rest_66 : decode cX5_rest 66 = .ok (.invokevirtual 311, 3) := by decide +kernel
theorem dX5_rest_69 : decode cX5_rest 69 = .ok (.ireturn, 1) := by decide +kernel
theorem dX5_digest_0 : decode cX5_digest 0 = .ok (.ldc2_w 314, 3) := by decide +kernel
theorem dX5_digest_3 : decode cX5_digest 3 = .ok (.aload_n 0, 1) := by decide +kernel
theorem dX5_digest_4 : decode cX5_digest 4 = .ok (.getfield 10, 3) := by decide +kernel
theorem dX5_digest_7 : decode cX5_digest 7 = .ok (.getfield 96, 3) := by decide +kernel
theorem dX5_digest_10 : decode cX5_digest 10 = .ok (.i2l, 1) := by decide +kernel
theorem dX5_digest_11 : decode cX5_digest 11 = .ok (.ladd, 1) := by decide +kernel
theorem dX5_digest_12 : decode cX5_digest 12 = .ok (.lstore_n 1, 1) := by decide +kernel
theorem dX5_digest_13 : decode cX5_digest 13 = .ok (.iconst 0, 1) := by decide +kernel
theorem dX5_digest_14 : decode cX5_digest 14 = .ok (.istore_n 3, 1) := by decide +kernel
theorem dX5_digest_15 : decode cX5_digest 15 = .ok (.iload_n 3, 1) := by decide +kernel
theorem dX5_digest_16 : decode cX5_digest 16 = .ok (.aload_n 0, 1) := by decide +kernel
theorem dX5_digest_17 : decode cX5_digest 17 = .ok (.getfield 10, 3) := by decide +kernel
theorem dX5_digest_20 : decode cX5_digest 20 = .ok (.getfield 96, 3) := by decide +kernel
theorem dX5_digest_23 : decode cX5_digest 23 = .ok (.if_icmp .ge 39, 3) := by decide +kernel
theorem dX5_digest_26 : decode cX5_digest 26 = .ok (.iconst 0, 1) := by decide +kernel
theorem dX5_digest_27 : decode cX5_digest 27 = .ok (.istore 4, 2) := by decide +kernel
theorem dX5_digest_29 : decode cX5_digest 29 = .ok (.iload 4, 2) := by decide +kernel
theorem dX5_digest_31 : decode cX5_digest 31 = .ok (.iconst 5, 1) := by decide +kernel
theorem dX5_digest_32 : decode cX5_digest 32 = .ok (.if_icmp .ge 24, 3) := by decide +kernel
theorem dX5_digest_35 : decode cX5_digest 35 = .ok (.lload_n 1, 1) := by decide +kernel
theorem dX5_digest_36 : decode cX5_digest 36 = .ok (.ldc2_w 316, 3) := by decide +kernel
theorem dX5_digest_39 : decode cX5_digest 39 = .ok (.lmul, 1) := by decide +kernel
theorem dX5_digest_40 : decode cX5_digest 40 = .ok (.aload_n 0, 1) := by decide +kernel
theorem dX5_digest_41 : decode cX5_digest 41 = .ok (.iload_n 3, 1) := by decide +kernel
theorem dX5_digest_42 : decode cX5_digest 42 = .ok (.iload 4, 2) := by decide +kernel
theorem dX5_digest_44 : decode cX5_digest 44 = .ok (.invokevirtual 114, 3) := by decide +kernel
theorem dX5_digest_47 : decode cX5_digest 47 = .ok (.i2l, 1) := by decide +kernel
theorem dX5_digest_48 : decode cX5_digest 48 = .ok (.ladd, 1) := by decide +kernel
theorem dX5_digest_49 : decode cX5_digest 49 = .ok (.lstore_n 1, 1) := by decide +kernel
theorem dX5_digest_50 : decode cX5_digest 50 = .ok (.iinc 4 1, 3) := by decide +kernel
theorem dX5_digest_53 : decode cX5_digest 53 = .ok (.goto (-24), 3) := by decide +kernel
theorem dX5_digest_56 : decode cX5_digest 56 = .ok (.iinc 3 1, 3) := by decide +kernel
theorem dX5_digest_59 : decode cX5_digest 59 = .ok (.goto (-44), 3) := by decide +kernel
theorem dX5_digest_62 : decode cX5_digest 62 = .ok (.lload_n 1, 1) := by decide +kernel
theorem dX5_digest_63 : decode cX5_digest 63 = .ok (.ldc2_w 316, 3) := by decide +kernel
theorem dX5_digest_66 : decode cX5_digest 66 = .ok (.lmul, 1) := by decide +kernel
theorem dX5_digest_67 : decode cX5_digest 67 = .ok (.aload_n 0, 1) := by decide +kernel
theorem dX5_digest_68 : decode cX5_digest 68 = .ok (.getfield 137, 3) := by decide +kernel
theorem dX5_digest_71 : decode cX5_digest 71 = .ok (.i2l, 1) := by decide +kernel
theorem dX5_digest_72 : decode cX5_digest 72 = .ok (.ladd, 1) := by decide +kernel
theorem dX5_digest_73 : decode cX5_digest 73 = .ok (.lstore_n 1, 1) := by decide +kernel
theorem dX5_digest_74 : decode cX5_digest 74 = .ok (.iconst 0, 1) := by decide +kernel
theorem dX5_digest_75 : decode cX5_digest 75 = .ok (.istore_n 3, 1) := by decide +kernel
theorem dX5_digest_76 : decode cX5_digest 76 = .ok (.iload_n 3, 1) := by decide +kernel
theorem dX5_digest_77 : decode cX5_digest 77 = .ok (.aload_n 0, 1) := by decide +kernel
theorem dX5_digest_78 : decode cX5_digest 78 = .ok (.getfield 137, 3) := by decide +kernel
theorem dX5_digest_81 : decode cX5_digest 81 = .ok (.if_icmp .ge 40, 3) := by decide +kernel
theorem dX5_digest_84 : decode cX5_digest 84 = .ok (.iconst 0, 1) := by decide +kernel
theorem dX5_digest_85 : decode cX5_digest 85 = .ok (.istore 4, 2) := by decide +kernel
theorem dX5_digest_87 : decode cX5_digest 87 = .ok (.iload 4, 2) := by decide +kernel
theorem dX5_digest_89 : decode cX5_digest 89 = .ok (.bipush 9, 2) := by decide +kernel
theorem dX5_digest_91 : decode cX5_digest 91 = .ok (.if_icmp .ge 24, 3) := by decide +kernel
theorem dX5_digest_94 : decode cX5_digest 94 = .ok (.lload_n 1, 1) := by decide +kernel
theorem dX5_digest_95 : decode cX5_digest 95 = .ok (.ldc2_w 316, 3) := by decide +kernel
theorem dX5_digest_98 : decode cX5_digest 98 = .ok (.lmul, 1) := by decide +kernel
theorem dX5_digest_99 : decode cX5_digest 99 = .ok (.aload_n 0, 1) := by decide +kernel
theorem dX5_digest_100 : decode cX5_digest 100 = .ok (.iload_n 3, 1) := by decide +kernel
theorem dX5_digest_101 : decode cX5_digest 101 = .ok (.iload 4, 2) := by decide +kernel
theorem dX5_digest_103 : decode cX5_digest 103 = .ok (.invokevirtual 194, 3) := by decide +kernel
theorem dX5_digest_106 : decode cX5_digest 106 = .ok (.i2l, 1) := by decide +kernel
theorem dX5_digest_107 : decode cX5_digest 107 = .ok (.ladd, 1) := by decide +kernel
theorem dX5_digest_108 : decode cX5_digest 108 = .ok (.lstore_n 1, 1) := by decide +kernel
theorem dX5_digest_109 : decode cX5_digest 109 = .ok (.iinc 4 1, 3) := by decide +kernel
theorem dX5_digest_112 : decode cX5_digest 112 = .ok (.goto (-25), 3) := by decide +kernel
theorem dX5_digest_115 : decode cX5_digest 115 = .ok (.iinc 3 1, 3) := by decide +kernel
theorem dX5_digest_118 : decode cX5_digest 118 = .ok (.goto (-42), 3) := by decide +kernel
theorem dX5_digest_121 : decode cX5_digest 121 = .ok (.lload_n 1, 1) := by decide +kernel
theorem dX5_digest_122 : decode cX5_digest 122 = .ok (.ldc2_w 316, 3) := by decide +kernel
theorem dX5_digest_125 : decode cX5_digest 125 = .ok (.lmul, 1) := by decide +kernel
theorem dX5_digest_126 : decode cX5_digest 126 = .ok (.aload_n 0, 1) := by decide +kernel
theorem dX5_digest_127 : decode cX5_digest 127 = .ok (.getfield 140, 3) := by decide +kernel
theorem dX5_digest_130 : decode cX5_digest 130 = .ok (.i2l, 1) := by decide +kernel
theorem dX5_digest_131 : decode cX5_digest 131 = .ok (.ladd, 1) := by decide +kernel
theorem dX5_digest_132 : decode cX5_digest 132 = .ok (.lstore_n 1, 1) := by decide +kernel
theorem dX5_digest_133 : decode cX5_digest 133 = .ok (.iconst 0, 1) := by decide +kernel
theorem dX5_digest_134 : decode cX5_digest 134 = .ok (.istore_n 3, 1) := by decide +kernel
theorem dX5_digest_135 : decode cX5_digest 135 = .ok (.iload_n 3, 1) := by decide +kernel
theorem dX5_digest_136 : decode cX5_digest 136 = .ok (.aload_n 0, 1) := by decide +kernel
theorem dX5_digest_137 : decode cX5_digest 137 = .ok (.getfield 140, 3) := by decide +kernel
theorem dX5_digest_140 : decode cX5_digest 140 = .ok (.if_icmp .ge 40, 3) := by decide +kernel
theorem dX5_digest_143 : decode cX5_digest 143 = .ok (.iconst 0, 1) := by decide +kernel
theorem dX5_digest_144 : decode cX5_digest 144 = .ok (.istore 4, 2) := by decide +kernel
theorem dX5_digest_146 : decode cX5_digest 146 = .ok (.iload 4, 2) := by decide +kernel
theorem dX5_digest_148 : decode cX5_digest 148 = .ok (.bipush 7, 2) := by decide +kernel
theorem dX5_digest_150 : decode cX5_digest 150 = .ok (.if_icmp .ge 24, 3) := by decide +kernel
theorem dX5_digest_153 : decode cX5_digest 153 = .ok (.lload_n 1, 1) := by decide +kernel
theorem dX5_digest_154 : decode cX5_digest 154 = .ok (.ldc2_w 316, 3) := by decide +kernel
theorem dX5_digest_157 : decode cX5_digest 157 = .ok (.lmul, 1) := by decide +kernel
theorem dX5_digest_158 : decode cX5_digest 158 = .ok (.aload_n 0, 1) := by decide +kernel
theorem dX5_digest_159 : decode cX5_digest 159 = .ok (.iload_n 3, 1) := by decide +kernel
theorem dX5_digest_160 : decode cX5_digest 160 = .ok (.iload 4, 2) := by decide +kernel
theorem dX5_digest_162 : decode cX5_digest 162 = .ok (.invokevirtual 288, 3) := by decide +kernel
theorem dX5_digest_165 : decode cX5_digest 165 = .ok (.i2l, 1) := by decide +kernel
theorem dX5_digest_166 : decode cX5_digest 166 = .ok (.ladd, 1) := by decide +kernel
theorem dX5_digest_167 : decode cX5_digest 167 = .ok (.lstore_n 1, 1) := by decide +kernel
theorem dX5_digest_168 : decode cX5_digest 168 = .ok (.iinc 4 1, 3) := by decide +kernel
theorem dX5_digest_171 : decode cX5_digest 171 = .ok (.goto (-25), 3) := by decide +kernel
theorem dX5_digest_174 : decode cX5_digest 174 = .ok (.iinc 3 1, 3) := by decide +kernel
theorem dX5_digest_177 : decode cX5_digest 177 = .ok (.goto (-42), 3) := by decide +kernel
theorem dX5_digest_180 : decode cX5_digest 180 = .ok (.lload_n 1, 1) := by decide +kernel
theorem dX5_digest_181 : decode cX5_digest 181 = .ok (.lreturn, 1) := by decide +kernel
theorem dX5_isPoint_0 : decode cX5_isPoint 0 = .ok (.iload_n 0, 1) := by decide +kernel
theorem dX5_isPoint_1 : decode cX5_isPoint 1 = .ok (.ifCond .lt 13, 3) := by decide +kernel
theorem dX5_isPoint_4 : decode cX5_isPoint 4 = .ok (.iload_n 0, 1) := by decide +kernel
theorem dX5_isPoint_5 : decode cX5_isPoint 5 = .ok (.bipush 6, 2) := by decide +kernel
theorem dX5_isPoint_7 : decode cX5_isPoint 7 = .ok (.if_icmp .ge 7, 3) := by decide +kernel
theorem dX5_isPoint_10 : decode cX5_isPoint 10 = .ok (.iconst 1, 1) := by decide +kernel
theorem dX5_isPoint_11 : decode cX5_isPoint 11 = .ok (.goto 4, 3) := by decide +kernel
theorem dX5_isPoint_14 : decode cX5_isPoint 14 = .ok (.iconst 0, 1) := by decide +kernel
theorem dX5_isPoint_15 : decode cX5_isPoint 15 = .ok (.ireturn, 1) := by decide +kernel
theorem dX5_isDay_0 : decode cX5_isDay 0 = .ok (.iload_n 0, 1) := by decide +kernel
theorem dX5_isDay_1 : decode cX5_isDay 1 = .ok (.ifCond .lt 13, 3) := by decide +kernel
theorem dX5_isDay_4 : decode cX5_isDay 4 = .ok (.iload_n 0, 1) := by decide +kernel
theorem dX5_isDay_5 : decode cX5_isDay 5 = .ok (.bipush 7, 2) := by decide +kernel
theorem dX5_isDay_7 : decode cX5_isDay 7 = .ok (.if_icmp .ge 7, 3) := by decide +kernel
theorem dX5_isDay_10 : decode cX5_isDay 10 = .ok (.iconst 1, 1) := by decide +kernel
theorem dX5_isDay_11 : decode cX5_isDay 11 = .ok (.goto 4, 3) := by decide +kernel
theorem dX5_isDay_14 : decode cX5_isDay 14 = .ok (.iconst 0, 1) := by decide +kernel
theorem dX5_isDay_15 : decode cX5_isDay 15 = .ok (.ireturn, 1) := by decide +kernel
theorem dX5_areTimesOfTrip_0 : decode cX5_areTimesOfTrip 0 = .ok (.iload_n 0, 1) := by decide +kernel
theorem dX5_areTimesOfTrip_1 : decode cX5_areTimesOfTrip 1 = .ok (.ifCond .lt 28, 3) := by decide +kernel
theorem dX5_areTimesOfTrip_4 : decode cX5_areTimesOfTrip 4 = .ok (.iload_n 1, 1) := by decide +kernel
theorem dX5_areTimesOfTrip_5 : decode cX5_areTimesOfTrip 5 = .ok (.iload_n 0, 1) := by decide +kernel
theorem dX5_areTimesOfTrip_6 : decode cX5_areTimesOfTrip 6 = .ok (.if_icmp .le 23, 3) := by decide +kernel
theorem dX5_areTimesOfTrip_9 : decode cX5_areTimesOfTrip 9 = .ok (.iload_n 1, 1) := by decide +kernel
theorem dX5_areTimesOfTrip_10 : decode cX5_areTimesOfTrip 10 = .ok (.sipush 1799, 3) := by decide +kernel
theorem dX5_areTimesOfTrip_13 : decode cX5_areTimesOfTrip 13 = .ok (.if_icmp .gt 16, 3) := by decide +kernel
theorem dX5_areTimesOfTrip_16 : decode cX5_areTimesOfTrip 16 = .ok (.iload_n 1, 1) := by decide +kernel
theorem dX5_areTimesOfTrip_17 : decode cX5_areTimesOfTrip 17 = .ok (.iload_n 0, 1) := by decide +kernel
theorem dX5_areTimesOfTrip_18 : decode cX5_areTimesOfTrip 18 = .ok (.isub, 1) := by decide +kernel
theorem dX5_areTimesOfTrip_19 : decode cX5_areTimesOfTrip 19 = .ok (.sipush 240, 3) := by decide +kernel
theorem dX5_areTimesOfTrip_22 : decode cX5_areTimesOfTrip 22 = .ok (.if_icmp .gt 7, 3) := by decide +kernel
theorem dX5_areTimesOfTrip_25 : decode cX5_areTimesOfTrip 25 = .ok (.iconst 1, 1) := by decide +kernel
theorem dX5_areTimesOfTrip_26 : decode cX5_areTimesOfTrip 26 = .ok (.goto 4, 3) := by decide +kernel
theorem dX5_areTimesOfTrip_29 : decode cX5_areTimesOfTrip 29 = .ok (.iconst 0, 1) := by decide +kernel
theorem dX5_areTimesOfTrip_30 : decode cX5_areTimesOfTrip 30 = .ok (.ireturn, 1) := by decide +kernel
theorem dX5_isTrip_0 : decode cX5_isTrip 0 = .ok (.iload_n 1, 1) := by decide +kernel
theorem dX5_isTrip_1 : decode cX5_isTrip 1 = .ok (.ifCond .lt 18, 3) := by decide +kernel
theorem dX5_isTrip_4 : decode cX5_isTrip 4 = .ok (.iload_n 1, 1) := by decide +kernel
theorem dX5_isTrip_5 : decode cX5_isTrip 5 = .ok (.aload_n 0, 1) := by decide +kernel
theorem dX5_isTrip_6 : decode cX5_isTrip 6 = .ok (.getfield 10, 3) := by decide +kernel
theorem dX5_isTrip_9 : decode cX5_isTrip 9 = .ok (.getfield 96, 3) := by decide +kernel
theorem dX5_isTrip_12 : decode cX5_isTrip 12 = .ok (.if_icmp .ge 7, 3) := by decide +kernel
theorem dX5_isTrip_15 : decode cX5_isTrip 15 = .ok (.iconst 1, 1) := by decide +kernel
theorem dX5_isTrip_16 : decode cX5_isTrip 16 = .ok (.goto 4, 3) := by decide +kernel
theorem dX5_isTrip_19 : decode cX5_isTrip 19 = .ok (.iconst 0, 1) := by decide +kernel
theorem dX5_isTrip_20 : decode cX5_isTrip 20 = .ok (.ireturn, 1) := by decide +kernel
theorem dX5_isDuty_0 : decode cX5_isDuty 0 = .ok (.iload_n 1, 1) := by decide +kernel
theorem dX5_isDuty_1 : decode cX5_isDuty 1 = .ok (.ifCond .lt 15, 3) := by decide +kernel
theorem dX5_isDuty_4 : decode cX5_isDuty 4 = .ok (.iload_n 1, 1) := by decide +kernel
theorem dX5_isDuty_5 : decode cX5_isDuty 5 = .ok (.aload_n 0, 1) := by decide +kernel
theorem dX5_isDuty_6 : decode cX5_isDuty 6 = .ok (.getfield 137, 3) := by decide +kernel
theorem dX5_isDuty_9 : decode cX5_isDuty 9 = .ok (.if_icmp .ge 7, 3) := by decide +kernel
theorem dX5_isDuty_12 : decode cX5_isDuty 12 = .ok (.iconst 1, 1) := by decide +kernel
theorem dX5_isDuty_13 : decode cX5_isDuty 13 = .ok (.goto 4, 3) := by decide +kernel
theorem dX5_isDuty_16 : decode cX5_isDuty 16 = .ok (.iconst 0, 1) := by decide +kernel
theorem dX5_isDuty_17 : decode cX5_isDuty 17 = .ok (.ireturn, 1) := by decide +kernel
theorem dX5_isDriver_0 : decode cX5_isDriver 0 = .ok (.iload_n 1, 1) := by decide +kernel
theorem dX5_isDriver_1 : decode cX5_isDriver 1 = .ok (.ifCond .lt 15, 3) := by decide +kernel
theorem dX5_isDriver_4 : decode cX5_isDriver 4 = .ok (.iload_n 1, 1) := by decide +kernel
theorem dX5_isDriver_5 : decode cX5_isDriver 5 = .ok (.aload_n 0, 1) := by decide +kernel
theorem dX5_isDriver_6 : decode cX5_isDriver 6 = .ok (.getfield 140, 3) := by decide +kernel
theorem dX5_isDriver_9 : decode cX5_isDriver 9 = .ok (.if_icmp .ge 7, 3) := by decide +kernel
theorem dX5_isDriver_12 : decode cX5_isDriver 12 = .ok (.iconst 1, 1) := by decide +kernel
theorem dX5_isDriver_13 : decode cX5_isDriver 13 = .ok (.goto 4, 3) := by decide +kernel
theorem dX5_isDriver_16 : decode cX5_isDriver 16 = .ok (.iconst 0, 1) := by decide +kernel
theorem dX5_isDriver_17 : decode cX5_isDriver 17 = .ok (.ireturn, 1) := by decide +kernel
theorem dX5_dutyAt_0 : decode cX5_dutyAt 0 = .ok (.iload_n 1, 1) := by decide +kernel
theorem dX5_dutyAt_1 : decode cX5_dutyAt 1 = .ok (.ifCond .lt 21, 3) := by decide +kernel
theorem dX5_dutyAt_4 : decode cX5_dutyAt 4 = .ok (.iload_n 1, 1) := by decide +kernel
theorem dX5_dutyAt_5 : decode cX5_dutyAt 5 = .ok (.aload_n 0, 1) := by decide +kernel
theorem dX5_dutyAt_6 : decode cX5_dutyAt 6 = .ok (.getfield 25, 3) := by decide +kernel
theorem dX5_dutyAt_9 : decode cX5_dutyAt 9 = .ok (.arraylength, 1) := by decide +kernel
theorem dX5_dutyAt_10 : decode cX5_dutyAt 10 = .ok (.if_icmp .ge 12, 3) := by decide +kernel
theorem dX5_dutyAt_13 : decode cX5_dutyAt 13 = .ok (.aload_n 0, 1) := by decide +kernel
theorem dX5_dutyAt_14 : decode cX5_dutyAt 14 = .ok (.getfield 25, 3) := by decide +kernel
theorem dX5_dutyAt_17 : decode cX5_dutyAt 17 = .ok (.iload_n 1, 1) := by decide +kernel
theorem dX5_dutyAt_18 : decode cX5_dutyAt 18 = .ok (.aaload, 1) := by decide +kernel
theorem dX5_dutyAt_19 : decode cX5_dutyAt 19 = .ok (.goto 7, 3) := by decide +kernel
theorem dX5_dutyAt_22 : decode cX5_dutyAt 22 = .ok (.aload_n 0, 1) := by decide +kernel
theorem dX5_dutyAt_23 : decode cX5_dutyAt 23 = .ok (.getfield 60, 3) := by decide +kernel
theorem dX5_dutyAt_26 : decode cX5_dutyAt 26 = .ok (.areturn, 1) := by decide +kernel
theorem dX5_dutyOf_0 : decode cX5_dutyOf 0 = .ok (.iload_n 1, 1) := by decide +kernel
theorem dX5_dutyOf_1 : decode cX5_dutyOf 1 = .ok (.ifCond .lt 21, 3) := by decide +kernel
theorem dX5_dutyOf_4 : decode cX5_dutyOf 4 = .ok (.iload_n 1, 1) := by decide +kernel
theorem dX5_dutyOf_5 : decode cX5_dutyOf 5 = .ok (.aload_n 0, 1) := by decide +kernel
theorem dX5_dutyOf_6 : decode cX5_dutyOf 6 = .ok (.getfield 29, 3) := by decide +kernel
theorem dX5_dutyOf_9 : decode cX5_dutyOf 9 = .ok (.arraylength, 1) := by decide +kernel
theorem dX5_dutyOf_10 : decode cX5_dutyOf 10 = .ok (.if_icmp .ge 12, 3) := by decide +kernel
theorem dX5_dutyOf_13 : decode cX5_dutyOf 13 = .ok (.aload_n 0, 1) := by decide +kernel
theorem dX5_dutyOf_14 : decode cX5_dutyOf 14 = .ok (.getfield 29, 3) := by decide +kernel
theorem dX5_dutyOf_17 : decode cX5_dutyOf 17 = .ok (.iload_n 1, 1) := by decide +kernel
theorem dX5_dutyOf_18 : decode cX5_dutyOf 18 = .ok (.iaload, 1) := by decide +kernel
theorem dX5_dutyOf_19 : decode cX5_dutyOf 19 = .ok (.goto 4, 3) := by decide +kernel
theorem dX5_dutyOf_22 : decode cX5_dutyOf 22 = .ok (.iconst (-1), 1) := by decide +kernel
theorem dX5_dutyOf_23 : decode cX5_dutyOf 23 = .ok (.ireturn, 1) := by decide +kernel
theorem dX5_assign_0 : decode cX5_assign 0 = .ok (.iload_n 1, 1) := by decide +kernel
theorem dX5_assign_1 : decode cX5_assign 1 = .ok (.ifCond .lt 19, 3) := by decide +kernel
theorem dX5_assign_4 : decode cX5_assign 4 = .ok (.iload_n 1, 1) := by decide +kernel
theorem dX5_assign_5 : decode cX5_assign 5 = .ok (.aload_n 0, 1) := by decide +kernel
theorem dX5_assign_6 : decode cX5_assign 6 = .ok (.getfield 29, 3) := by decide +kernel
theorem dX5_assign_9 : decode cX5_assign 9 = .ok (.arraylength, 1) := by decide +kernel
theorem dX5_assign_10 : decode cX5_assign 10 = .ok (.if_icmp .ge 10, 3) := by decide +kernel
theorem dX5_assign_13 : decode cX5_assign 13 = .ok (.aload_n 0, 1) := by decide +kernel
theorem dX5_assign_14 : decode cX5_assign 14 = .ok (.getfield 29, 3) := by decide +kernel
theorem dX5_assign_17 : decode cX5_assign 17 = .ok (.iload_n 1, 1) := by decide +kernel
theorem dX5_assign_18 : decode cX5_assign 18 = .ok (.iload_n 2, 1) := by decide +kernel
theorem dX5_assign_19 : decode cX5_assign 19 = .ok (.iastore, 1) := by decide +kernel
theorem dX5_assign_20 : decode cX5_assign 20 = .ok (.return_, 1) := by decide +kernel
theorem dX5_tripFact_0 : decode cX5_tripFact 0 = .ok (.iload_n 2, 1) := by decide +kernel
theorem dX5_tripFact_1 : decode cX5_tripFact 1 = .ok (.tableswitch 67 0 3 #[31, 40, 49, 58], 31) := by decide +kernel
theorem dX5_tripFact_32 : decode cX5_tripFact 32 = .ok (.aload_n 0, 1) := by decide +kernel
theorem dX5_tripFact_33 : decode cX5_tripFact 33 = .ok (.getfield 10, 3) := by decide +kernel
theorem dX5_tripFact_36 : decode cX5_tripFact 36 = .ok (.iload_n 1, 1) := by decide +kernel
theorem dX5_tripFact_37 : decode cX5_tripFact 37 = .ok (.invokevirtual 318, 3) := by decide +kernel
theorem dX5_tripFact_40 : decode cX5_tripFact 40 = .ok (.ireturn, 1) := by decide +kernel
theorem dX5_tripFact_41 : decode cX5_tripFact 41 = .ok (.aload_n 0, 1) := by decide +kernel
theorem dX5_tripFact_42 : decode cX5_tripFact 42 = .ok (.getfield 10, 3) := by decide +kernel
theorem dX5_tripFact_45 : decode cX5_tripFact 45 = .ok (.iload_n 1, 1) := by decide +kernel
theorem dX5_tripFact_46 : decode cX5_tripFact 46 = .ok (.invokevirtual 321, 3) := by decide +kernel
theorem dX5_tripFact_49 : decode cX5_tripFact 49 = .ok (.ireturn, 1) := by decide +kernel
theorem dX5_tripFact_50 : decode cX5_tripFact 50 = .ok (.aload_n 0, 1) := by decide +kernel
theorem dX5_tripFact_51 : decode cX5_tripFact 51 = .ok (.getfield 10, 3) := by decide +kernel
theorem dX5_tripFact_54 : decode cX5_tripFact 54 = .ok (.iload_n 1, 1) := by decide +kernel
theorem dX5_tripFact_55 : decode cX5_tripFact 55 = .ok (.invokevirtual 209, 3) := by decide +kernel
theorem dX5_tripFact_58 : decode cX5_tripFact 58 = .ok (.ireturn, 1) := by decide +kernel
theorem dX5_tripFact_59 : decode cX5_tripFact 59 = .ok (.aload_n 0, 1) := by decide +kernel
theorem dX5_tripFact_60 : decode cX5_tripFact 60 = .ok (.getfield 10, 3) := by decide +kernel
theorem dX5_tripFact_63 : decode cX5_tripFact 63 = .ok (.iload_n 1, 1) := by decide +kernel
theorem dX5_tripFact_64 : decode cX5_tripFact 64 = .ok (.invokevirtual 324, 3) := by decide +kernel
theorem dX5_tripFact_67 : decode cX5_tripFact 67 = .ok (.ireturn, 1) := by decide +kernel
theorem dX5_tripFact_68 : decode cX5_tripFact 68 = .ok (.aload_n 0, 1) := by decide +kernel
theorem dX5_tripFact_69 : decode cX5_tripFact 69 = .ok (.iload_n 1, 1) := by decide +kernel
theorem dX5_tripFact_70 : decode cX5_tripFact 70 = .ok (.invokevirtual 174, 3) := by decide +kernel
theorem dX5_tripFact_73 : decode cX5_tripFact 73 = .ok (.ireturn, 1) := by decide +kernel
theorem dX5_dutyFact_0 : decode cX5_dutyFact 0 = .ok (.aload_n 0, 1) := by decide +kernel
theorem dX5_dutyFact_1 : decode cX5_dutyFact 1 = .ok (.iload_n 1, 1) := by decide +kernel
theorem dX5_dutyFact_2 : decode cX5_dutyFact 2 = .ok (.invokevirtual 164, 3) := by decide +kernel
theorem dX5_dutyFact_5 : decode cX5_dutyFact 5 = .ok (.astore_n 3, 1) := by decide +kernel
theorem dX5_dutyFact_6 : decode cX5_dutyFact 6 = .ok (.iload_n 2, 1) := by decide +kernel
theorem dX5_dutyFact_7 : decode cX5_dutyFact 7 = .ok (.tableswitch 93 0 7 #[45, 50, 55, 60, 65, 70, 75, 80], 45) := by decide +kernel
theorem dX5_dutyFact_52 : decode cX5_dutyFact 52 = .ok (.aload_n 3, 1) := by decide +kernel
theorem dX5_dutyFact_53 : decode cX5_dutyFact 53 = .ok (.getfield 197, 3) := by decide +kernel
theorem dX5_dutyFact_56 : decode cX5_dutyFact 56 = .ok (.ireturn, 1) := by decide +kernel
theorem dX5_dutyFact_57 : decode cX5_dutyFact 57 = .ok (.aload_n 3, 1) := by decide +kernel
theorem dX5_dutyFact_58 : decode cX5_dutyFact 58 = .ok (.getfield 298, 3) := by decide +kernel
theorem dX5_dutyFact_61 : decode cX5_dutyFact 61 = .ok (.ireturn, 1) := by decide +kernel
theorem dX5_dutyFact_62 : decode cX5_dutyFact 62 = .ok (.aload_n 3, 1) := by decide +kernel
theorem dX5_dutyFact_63 : decode cX5_dutyFact 63 = .ok (.getfield 327, 3) := by decide +kernel
theorem dX5_dutyFact_66 : decode cX5_dutyFact 66 = .ok (.ireturn, 1) := by decide +kernel
theorem dX5_dutyFact_67 : decode cX5_dutyFact 67 = .ok (.aload_n 3, 1) := by decide +kernel
theorem dX5_dutyFact_68 : decode cX5_dutyFact 68 = .ok (.getfield 261, 3) := by decide +kernel
theorem dX5_dutyFact_71 : decode cX5_dutyFact 71 = .ok (.ireturn, 1) := by decide +kernel
theorem dX5_dutyFact_72 : decode cX5_dutyFact 72 = .ok (.aload_n 3, 1) := by decide +kernel
theorem dX5_dutyFact_73 : decode cX5_dutyFact 73 = .ok (.getfield 255, 3) := by decide +kernel
theorem dX5_dutyFact_76 : decode cX5_dutyFact 76 = .ok (.ireturn, 1) := by decide +kernel
theorem dX5_dutyFact_77 : decode cX5_dutyFact 77 = .ok (.aload_n 3, 1) := by decide +kernel
theorem dX5_dutyFact_78 : decode cX5_dutyFact 78 = .ok (.getfield 330, 3) := by decide +kernel
theorem dX5_dutyFact_81 : decode cX5_dutyFact 81 = .ok (.ireturn, 1) := by decide +kernel
theorem dX5_dutyFact_82 : decode cX5_dutyFact 82 = .ok (.aload_n 3, 1) := by decide +kernel
theorem dX5_dutyFact_83 : decode cX5_dutyFact 83 = .ok (.getfield 333, 3) := by decide +kernel
theorem dX5_dutyFact_86 : decode cX5_dutyFact 86 = .ok (.ireturn, 1) := by decide +kernel
theorem dX5_dutyFact_87 : decode cX5_dutyFact 87 = .ok (.aload_n 3, 1) := by decide +kernel
theorem dX5_dutyFact_88 : decode cX5_dutyFact 88 = .ok (.getfield 336, 3) := by decide +kernel
theorem dX5_dutyFact_91 : decode cX5_dutyFact 91 = .ok (.ifCond .eq 7, 3) := by decide +kernel
theorem dX5_dutyFact_94 : decode cX5_dutyFact 94 = .ok (.iconst 1, 1) := by decide +kernel
theorem dX5_dutyFact_95 : decode cX5_dutyFact 95 = .ok (.goto 4, 3) := by decide +kernel
theorem dX5_dutyFact_98 : decode cX5_dutyFact 98 = .ok (.iconst 0, 1) := by decide +kernel
theorem dX5_dutyFact_99 : decode cX5_dutyFact 99 = .ok (.ireturn, 1) := by decide +kernel
theorem dX5_dutyFact_100 : decode cX5_dutyFact 100 = .ok (.aload_n 0, 1) := by decide +kernel
theorem dX5_dutyFact_101 : decode cX5_dutyFact 101 = .ok (.iload_n 1, 1) := by decide +kernel
theorem dX5_dutyFact_102 : decode cX5_dutyFact 102 = .ok (.invokevirtual 177, 3) := by decide +kernel
theorem dX5_dutyFact_105 : decode cX5_dutyFact 105 = .ok (.ifCond .eq 7, 3) := by decide +kernel
theorem dX5_dutyFact_108 : decode cX5_dutyFact 108 = .ok (.iconst 1, 1) := by decide +kernel
theorem dX5_dutyFact_109 : decode cX5_dutyFact 109 = .ok (.goto 4, 3) := by decide +kernel
theorem dX5_dutyFact_112 : decode cX5_dutyFact 112 = .ok (.iconst 0, 1) := by decide +kernel
theorem dX5_dutyFact_113 : decode cX5_dutyFact 113 = .ok (.ireturn, 1) := by decide +kernel
theorem dX5_freeTrips_0 : decode cX5_freeTrips 0 = .ok (.iconst 0, 1) := by decide +kernel
theorem dX5_freeTrips_1 : decode cX5_freeTrips 1 = .ok (.istore_n 1, 1) := by decide +kernel
theorem dX5_freeTrips_2 : decode cX5_freeTrips 2 = .ok (.iconst 0, 1) := by decide +kernel
theorem dX5_freeTrips_3 : decode cX5_freeTrips 3 = .ok (.istore_n 2, 1) := by decide +kernel
theorem dX5_freeTrips_4 : decode cX5_freeTrips 4 = .ok (.iload_n 2, 1) := by decide +kernel
theorem dX5_freeTrips_5 : decode cX5_freeTrips 5 = .ok (.aload_n 0, 1) := by decide +kernel
theorem dX5_freeTrips_6 : decode cX5_freeTrips 6 = .ok (.getfield 10, 3) := by decide +kernel
theorem dX5_freeTrips_9 : decode cX5_freeTrips 9 = .ok (.getfield 96, 3) := by decide +kernel
theorem dX5_freeTrips_12 : decode cX5_freeTrips 12 = .ok (.if_icmp .ge 21, 3) := by decide +kernel
theorem dX5_freeTrips_15 : decode cX5_freeTrips 15 = .ok (.aload_n 0, 1) := by decide +kernel
theorem dX5_freeTrips_16 : decode cX5_freeTrips 16 = .ok (.iload_n 2, 1) := by decide +kernel
theorem dX5_freeTrips_17 : decode cX5_freeTrips 17 = .ok (.invokevirtual 174, 3) := by decide +kernel
theorem dX5_freeTrips_20 : decode cX5_freeTrips 20 = .ok (.iconst (-1), 1) := by decide +kernel
theorem dX5_freeTrips_21 : decode cX5_freeTrips 21 = .ok (.if_icmp .ne 6, 3) := by decide +kernel
theorem dX5_freeTrips_24 : decode cX5_freeTrips 24 = .ok (.iinc 1 1, 3) := by decide +kernel
theorem dX5_freeTrips_27 : decode cX5_freeTrips 27 = .ok (.iinc 2 1, 3) := by decide +kernel
theorem dX5_freeTrips_30 : decode cX5_freeTrips 30 = .ok (.goto (-26), 3) := by decide +kernel
theorem dX5_freeTrips_33 : decode cX5_freeTrips 33 = .ok (.iload_n 1, 1) := by decide +kernel
theorem dX5_freeTrips_34 : decode cX5_freeTrips 34 = .ok (.ireturn, 1) := by decide +kernel
theorem dX5_wrongDuties_0 : decode cX5_wrongDuties 0 = .ok (.iconst 0, 1) := by decide +kernel
theorem dX5_wrongDuties_1 : decode cX5_wrongDuties 1 = .ok (.istore_n 1, 1) := by decide +kernel
theorem dX5_wrongDuties_2 : decode cX5_wrongDuties 2 = .ok (.iconst 0, 1) := by decide +kernel
theorem dX5_wrongDuties_3 : decode cX5_wrongDuties 3 = .ok (.istore_n 2, 1) := by decide +kernel
theorem dX5_wrongDuties_4 : decode cX5_wrongDuties 4 = .ok (.iload_n 2, 1) := by decide +kernel
theorem dX5_wrongDuties_5 : decode cX5_wrongDuties 5 = .ok (.aload_n 0, 1) := by decide +kernel
theorem dX5_wrongDuties_6 : decode cX5_wrongDuties 6 = .ok (.getfield 137, 3) := by decide +kernel
theorem dX5_wrongDuties_9 : decode cX5_wrongDuties 9 = .ok (.if_icmp .ge 23, 3) := by decide +kernel
theorem dX5_wrongDuties_12 : decode cX5_wrongDuties 12 = .ok (.aload_n 0, 1) := by decide +kernel
theorem dX5_wrongDuties_13 : decode cX5_wrongDuties 13 = .ok (.iload_n 2, 1) := by decide +kernel
theorem dX5_wrongDuties_14 : decode cX5_wrongDuties 14 = .ok (.invokevirtual 164, 3) := by decide +kernel
theorem dX5_wrongDuties_17 : decode cX5_wrongDuties 17 = .ok (.getfield 336, 3) := by decide +kernel
theorem dX5_wrongDuties_20 : decode cX5_wrongDuties 20 = .ok (.ifCond .ne 6, 3) := by decide +kernel
theorem dX5_wrongDuties_23 : decode cX5_wrongDuties 23 = .ok (.iinc 1 1, 3) := by decide +kernel
theorem dX5_wrongDuties_26 : decode cX5_wrongDuties 26 = .ok (.iinc 2 1, 3) := by decide +kernel
theorem dX5_wrongDuties_29 : decode cX5_wrongDuties 29 = .ok (.goto (-25), 3) := by decide +kernel
theorem dX5_wrongDuties_32 : decode cX5_wrongDuties 32 = .ok (.iload_n 1, 1) := by decide +kernel
theorem dX5_wrongDuties_33 : decode cX5_wrongDuties 33 = .ok (.ireturn, 1) := by decide +kernel
theorem dX5_measureDuties_0 : decode cX5_measureDuties 0 = .ok (.iconst 0, 1) := by decide +kernel
theorem dX5_measureDuties_1 : decode cX5_measureDuties 1 = .ok (.istore_n 1, 1) := by decide +kernel
theorem dX5_measureDuties_2 : decode cX5_measureDuties 2 = .ok (.iload_n 1, 1) := by decide +kernel
theorem dX5_measureDuties_3 : decode cX5_measureDuties 3 = .ok (.aload_n 0, 1) := by decide +kernel
theorem dX5_measureDuties_4 : decode cX5_measureDuties 4 = .ok (.getfield 137, 3) := by decide +kernel
theorem dX5_measureDuties_7 : decode cX5_measureDuties 7 = .ok (.if_icmp .ge 25, 3) := by decide +kernel
theorem dX5_measureDuties_10 : decode cX5_measureDuties 10 = .ok (.aload_n 0, 1) := by decide +kernel
theorem dX5_measureDuties_11 : decode cX5_measureDuties 11 = .ok (.iload_n 1, 1) := by decide +kernel
theorem dX5_measureDuties_12 : decode cX5_measureDuties 12 = .ok (.invokevirtual 164, 3) := by decide +kernel
theorem dX5_measureDuties_15 : decode cX5_measureDuties 15 = .ok (.aload_n 0, 1) := by decide +kernel
theorem dX5_measureDuties_16 : decode cX5_measureDuties 16 = .ok (.getfield 10, 3) := by decide +kernel
theorem dX5_measureDuties_19 : decode cX5_measureDuties 19 = .ok (.aload_n 0, 1) := by decide +kernel
theorem dX5_measureDuties_20 : decode cX5_measureDuties 20 = .ok (.getfield 19, 3) := by decide +kernel
theorem dX5_measureDuties_23 : decode cX5_measureDuties 23 = .ok (.invokevirtual 340, 3) := by decide +kernel
theorem dX5_measureDuties_26 : decode cX5_measureDuties 26 = .ok (.iinc 1 1, 3) := by decide +kernel
theorem dX5_measureDuties_29 : decode cX5_measureDuties 29 = .ok (.goto (-27), 3) := by decide +kernel
theorem dX5_measureDuties_32 : decode cX5_measureDuties 32 = .ok (.return_, 1) := by decide +kernel
theorem dX5_tryPut_0 : decode cX5_tryPut 0 = .ok (.aload_n 0, 1) := by decide +kernel
theorem dX5_tryPut_1 : decode cX5_tryPut 1 = .ok (.iload_n 2, 1) := by decide +kernel
theorem dX5_tryPut_2 : decode cX5_tryPut 2 = .ok (.invokevirtual 174, 3) := by decide +kernel
theorem dX5_tryPut_5 : decode cX5_tryPut 5 = .ok (.iconst (-1), 1) := by decide +kernel
theorem dX5_tryPut_6 : decode cX5_tryPut 6 = .ok (.if_icmp .ne 11, 3) := by decide +kernel
theorem dX5_tryPut_9 : decode cX5_tryPut 9 = .ok (.aload_n 0, 1) := by decide +kernel
theorem dX5_tryPut_10 : decode cX5_tryPut 10 = .ok (.iload_n 1, 1) := by decide +kernel
theorem dX5_tryPut_11 : decode cX5_tryPut 11 = .ok (.invokevirtual 177, 3) := by decide +kernel
theorem dX5_tryPut_14 : decode cX5_tryPut 14 = .ok (.ifCond .eq 5, 3) := by decide +kernel
theorem dX5_tryPut_17 : decode cX5_tryPut 17 = .ok (.iconst 0, 1) := by decide +kernel
theorem dX5_tryPut_18 : decode cX5_tryPut 18 = .ok (.ireturn, 1) := by decide +kernel
theorem dX5_tryPut_19 : decode cX5_tryPut 19 = .ok (.aload_n 0, 1) := by decide +kernel
theorem dX5_tryPut_20 : decode cX5_tryPut 20 = .ok (.getfield 39, 3) := by decide +kernel
theorem dX5_tryPut_23 : decode cX5_tryPut 23 = .ok (.aload_n 0, 1) := by decide +kernel
theorem dX5_tryPut_24 : decode cX5_tryPut 24 = .ok (.iload_n 1, 1) := by decide +kernel
theorem dX5_tryPut_25 : decode cX5_tryPut 25 = .ok (.invokevirtual 164, 3) := by decide +kernel
theorem dX5_tryPut_28 : decode cX5_tryPut 28 = .ok (.invokevirtual 185, 3) := by decide +kernel
theorem dX5_tryPut_31 : decode cX5_tryPut 31 = .ok (.aload_n 0, 1) := by decide +kernel
theorem dX5_tryPut_32 : decode cX5_tryPut 32 = .ok (.getfield 39, 3) := by decide +kernel
theorem dX5_tryPut_35 : decode cX5_tryPut 35 = .ok (.iload_n 2, 1) := by decide +kernel
theorem dX5_tryPut_36 : decode cX5_tryPut 36 = .ok (.aload_n 0, 1) := by decide +kernel
theorem dX5_tryPut_37 : decode cX5_tryPut 37 = .ok (.getfield 10, 3) := by decide +kernel
theorem dX5_tryPut_40 : decode cX5_tryPut 40 = .ok (.invokevirtual 344, 3) := by decide +kernel
theorem dX5_tryPut_43 : decode cX5_tryPut 43 = .ok (.ifCond .ne 5, 3) := by decide +kernel
theorem dX5_tryPut_46 : decode cX5_tryPut 46 = .ok (.iconst 0, 1) := by decide +kernel
theorem dX5_tryPut_47 : decode cX5_tryPut 47 = .ok (.ireturn, 1) := by decide +kernel
theorem dX5_tryPut_48 : decode cX5_tryPut 48 = .ok (.aload_n 0, 1) := by decide +kernel
theorem dX5_tryPut_49 : decode cX5_tryPut 49 = .ok (.getfield 39, 3) := by decide +kernel
theorem dX5_tryPut_52 : decode cX5_tryPut 52 = .ok (.aload_n 0, 1) := by decide +kernel
theorem dX5_tryPut_53 : decode cX5_tryPut 53 = .ok (.getfield 10, 3) := by decide +kernel
theorem dX5_tryPut_56 : decode cX5_tryPut 56 = .ok (.aload_n 0, 1) := by decide +kernel
theorem dX5_tryPut_57 : decode cX5_tryPut 57 = .ok (.getfield 19, 3) := by decide +kernel
theorem dX5_tryPut_60 : decode cX5_tryPut 60 = .ok (.invokevirtual 340, 3) := by decide +kernel
theorem dX5_tryPut_63 : decode cX5_tryPut 63 = .ok (.aload_n 0, 1) := by decide +kernel
theorem dX5_tryPut_64 : decode cX5_tryPut 64 = .ok (.getfield 39, 3) := by decide +kernel
theorem dX5_tryPut_67 : decode cX5_tryPut 67 = .ok (.getfield 336, 3) := by decide +kernel
theorem dX5_tryPut_70 : decode cX5_tryPut 70 = .ok (.ireturn, 1) := by decide +kernel
theorem dX5_keepPut_0 : decode cX5_keepPut 0 = .ok (.aload_n 0, 1) := by decide +kernel
theorem dX5_keepPut_1 : decode cX5_keepPut 1 = .ok (.iload_n 1, 1) := by decide +kernel
theorem dX5_keepPut_2 : decode cX5_keepPut 2 = .ok (.invokevirtual 164, 3) := by decide +kernel
theorem dX5_keepPut_5 : decode cX5_keepPut 5 = .ok (.aload_n 0, 1) := by decide +kernel
theorem dX5_keepPut_6 : decode cX5_keepPut 6 = .ok (.getfield 39, 3) := by decide +kernel
theorem dX5_keepPut_9 : decode cX5_keepPut 9 = .ok (.invokevirtual 185, 3) := by decide +kernel
theorem dX5_keepPut_12 : decode cX5_keepPut 12 = .ok (.aload_n 0, 1) := by decide +kernel
theorem dX5_keepPut_13 : decode cX5_keepPut 13 = .ok (.iload_n 2, 1) := by decide +kernel
theorem dX5_keepPut_14 : decode cX5_keepPut 14 = .ok (.iload_n 1, 1) := by decide +kernel
theorem dX5_keepPut_15 : decode cX5_keepPut 15 = .ok (.invokevirtual 189, 3) := by decide +kernel
theorem dX5_keepPut_18 : decode cX5_keepPut 18 = .ok (.return_, 1) := by decide +kernel
theorem dX5_tryWithout_0 : decode cX5_tryWithout 0 = .ok (.aload_n 0, 1) := by decide +kernel
theorem dX5_tryWithout_1 : decode cX5_tryWithout 1 = .ok (.getfield 39, 3) := by decide +kernel
theorem dX5_tryWithout_4 : decode cX5_tryWithout 4 = .ok (.aload_n 0, 1) := by decide +kernel
theorem dX5_tryWithout_5 : decode cX5_tryWithout 5 = .ok (.iload_n 1, 1) := by decide +kernel
theorem dX5_tryWithout_6 : decode cX5_tryWithout 6 = .ok (.invokevirtual 164, 3) := by decide +kernel
theorem dX5_tryWithout_9 : decode cX5_tryWithout 9 = .ok (.iload_n 2, 1) := by decide +kernel
theorem dX5_tryWithout_10 : decode cX5_tryWithout 10 = .ok (.invokevirtual 347, 3) := by decide +kernel
theorem dX5_tryWithout_13 : decode cX5_tryWithout 13 = .ok (.aload_n 0, 1) := by decide +kernel
theorem dX5_tryWithout_14 : decode cX5_tryWithout 14 = .ok (.getfield 39, 3) := by decide +kernel
theorem dX5_tryWithout_17 : decode cX5_tryWithout 17 = .ok (.aload_n 0, 1) := by decide +kernel
theorem dX5_tryWithout_18 : decode cX5_tryWithout 18 = .ok (.getfield 10, 3) := by decide +kernel
theorem dX5_tryWithout_21 : decode cX5_tryWithout 21 = .ok (.aload_n 0, 1) := by decide +kernel
theorem dX5_tryWithout_22 : decode cX5_tryWithout 22 = .ok (.getfield 19, 3) := by decide +kernel
theorem dX5_tryWithout_25 : decode cX5_tryWithout 25 = .ok (.invokevirtual 340, 3) := by decide +kernel
theorem dX5_tryWithout_28 : decode cX5_tryWithout 28 = .ok (.aload_n 0, 1) := by decide +kernel
theorem dX5_tryWithout_29 : decode cX5_tryWithout 29 = .ok (.getfield 39, 3) := by decide +kernel
theorem dX5_tryWithout_32 : decode cX5_tryWithout 32 = .ok (.getfield 336, 3) := by decide +kernel
theorem dX5_tryWithout_35 : decode cX5_tryWithout 35 = .ok (.ireturn, 1) := by decide +kernel
theorem dX5_cheapestDuty_0 : decode cX5_cheapestDuty 0 = .ok (.iconst (-1), 1) := by decide +kernel
theorem dX5_cheapestDuty_1 : decode cX5_cheapestDuty 1 = .ok (.istore_n 2, 1) := by decide +kernel
theorem dX5_cheapestDuty_2 : decode cX5_cheapestDuty 2 = .ok (.iconst 0, 1) := by decide +kernel
theorem dX5_cheapestDuty_3 : decode cX5_cheapestDuty 3 = .ok (.istore_n 3, 1) := by decide +kernel
theorem dX5_cheapestDuty_4 : decode cX5_cheapestDuty 4 = .ok (.iconst 0, 1) := by decide +kernel
theorem dX5_cheapestDuty_5 : decode cX5_cheapestDuty 5 = .ok (.istore 4, 2) := by decide +kernel
theorem dX5_cheapestDuty_7 : decode cX5_cheapestDuty 7 = .ok (.iload 4, 2) := by decide +kernel
theorem dX5_cheapestDuty_9 : decode cX5_cheapestDuty 9 = .ok (.aload_n 0, 1) := by decide +kernel
theorem dX5_cheapestDuty_10 : decode cX5_cheapestDuty 10 = .ok (.getfield 137, 3) := by decide +kernel
theorem dX5_cheapestDuty_13 : decode cX5_cheapestDuty 13 = .ok (.if_icmp .ge 55, 3) := by decide +kernel
theorem dX5_cheapestDuty_16 : decode cX5_cheapestDuty 16 = .ok (.aload_n 0, 1) := by decide +kernel
theorem dX5_cheapestDuty_17 : decode cX5_cheapestDuty 17 = .ok (.iload 4, 2) := by decide +kernel
theorem dX5_cheapestDuty_19 : decode cX5_cheapestDuty 19 = .ok (.iload_n 1, 1) := by decide +kernel
theorem dX5_cheapestDuty_20 : decode cX5_cheapestDuty 20 = .ok (.invokevirtual 155, 3) := by decide +kernel
theorem dX5_cheapestDuty_23 : decode cX5_cheapestDuty 23 = .ok (.ifCond .eq 39, 3) := by decide +kernel
theorem dX5_cheapestDuty_26 : decode cX5_cheapestDuty 26 = .ok (.aload_n 0, 1) := by decide +kernel
theorem dX5_cheapestDuty_27 : decode cX5_cheapestDuty 27 = .ok (.getfield 39, 3) := by decide +kernel
theorem dX5_cheapestDuty_30 : decode cX5_cheapestDuty 30 = .ok (.getfield 255, 3) := by decide +kernel
theorem dX5_cheapestDuty_33 : decode cX5_cheapestDuty 33 = .ok (.aload_n 0, 1) := by decide +kernel
theorem dX5_cheapestDuty_34 : decode cX5_cheapestDuty 34 = .ok (.iload 4, 2) := by decide +kernel
theorem dX5_cheapestDuty_36 : decode cX5_cheapestDuty 36 = .ok (.invokevirtual 164, 3) := by decide +kernel
theorem dX5_cheapestDuty_39 : decode cX5_cheapestDuty 39 = .ok (.getfield 255, 3) := by decide +kernel
theorem dX5_cheapestDuty_42 : decode cX5_cheapestDuty 42 = .ok (.isub, 1) := by decide +kernel
theorem dX5_cheapestDuty_43 : decode cX5_cheapestDuty 43 = .ok (.istore 5, 2) := by decide +kernel
theorem dX5_cheapestDuty_45 : decode cX5_cheapestDuty 45 = .ok (.iload_n 2, 1) := by decide +kernel
theorem dX5_cheapestDuty_46 : decode cX5_cheapestDuty 46 = .ok (.iconst (-1), 1) := by decide +kernel
theorem dX5_cheapestDuty_47 : decode cX5_cheapestDuty 47 = .ok (.if_icmp .eq 9, 3) := by decide +kernel
theorem dX5_cheapestDuty_50 : decode cX5_cheapestDuty 50 = .ok (.iload 5, 2) := by decide +kernel
theorem dX5_cheapestDuty_52 : decode cX5_cheapestDuty 52 = .ok (.iload_n 3, 1) := by decide +kernel
theorem dX5_cheapestDuty_53 : decode cX5_cheapestDuty 53 = .ok (.if_icmp .ge 9, 3) := by decide +kernel
theorem dX5_cheapestDuty_56 : decode cX5_cheapestDuty 56 = .ok (.iload 4, 2) := by decide +kernel
theorem dX5_cheapestDuty_58 : decode cX5_cheapestDuty 58 = .ok (.istore_n 2, 1) := by decide +kernel
theorem dX5_cheapestDuty_59 : decode cX5_cheapestDuty 59 = .ok (.iload 5, 2) := by decide +kernel
theorem dX5_cheapestDuty_61 : decode cX5_cheapestDuty 61 = .ok (.istore_n 3, 1) := by decide +kernel
theorem dX5_cheapestDuty_62 : decode cX5_cheapestDuty 62 = .ok (.iinc 4 1, 3) := by decide +kernel
theorem dX5_cheapestDuty_65 : decode cX5_cheapestDuty 65 = .ok (.goto (-58), 3) := by decide +kernel
theorem dX5_cheapestDuty_68 : decode cX5_cheapestDuty 68 = .ok (.iload_n 2, 1) := by decide +kernel
theorem dX5_cheapestDuty_69 : decode cX5_cheapestDuty 69 = .ok (.ireturn, 1) := by decide +kernel
theorem dX5_planTrip_0 : decode cX5_planTrip 0 = .ok (.aload_n 0, 1) := by decide +kernel
theorem dX5_planTrip_1 : decode cX5_planTrip 1 = .ok (.iload_n 1, 1) := by decide +kernel
theorem dX5_planTrip_2 : decode cX5_planTrip 2 = .ok (.invokevirtual 203, 3) := by decide +kernel
theorem dX5_planTrip_5 : decode cX5_planTrip 5 = .ok (.istore_n 2, 1) := by decide +kernel
theorem dX5_planTrip_6 : decode cX5_planTrip 6 = .ok (.iload_n 2, 1) := by decide +kernel
theorem dX5_planTrip_7 : decode cX5_planTrip 7 = .ok (.iconst (-1), 1) := by decide +kernel
theorem dX5_planTrip_8 : decode cX5_planTrip 8 = .ok (.if_icmp .eq 21, 3) := by decide +kernel
theorem dX5_planTrip_11 : decode cX5_planTrip 11 = .ok (.aload_n 0, 1) := by decide +kernel
theorem dX5_planTrip_12 : decode cX5_planTrip 12 = .ok (.iload_n 2, 1) := by decide +kernel
theorem dX5_planTrip_13 : decode cX5_planTrip 13 = .ok (.iload_n 1, 1) := by decide +kernel
theorem dX5_planTrip_14 : decode cX5_planTrip 14 = .ok (.invokevirtual 155, 3) := by decide +kernel
theorem dX5_planTrip_17 : decode cX5_planTrip 17 = .ok (.ifCond .eq 52, 3) := by decide +kernel
theorem dX5_planTrip_20 : decode cX5_planTrip 20 = .ok (.aload_n 0, 1) := by decide +kernel
theorem dX5_planTrip_21 : decode cX5_planTrip 21 = .ok (.iload_n 2, 1) := by decide +kernel
theorem dX5_planTrip_22 : decode cX5_planTrip 22 = .ok (.iload_n 1, 1) := by decide +kernel
theorem dX5_planTrip_23 : decode cX5_planTrip 23 = .ok (.invokevirtual 160, 3) := by decide +kernel
theorem dX5_planTrip_26 : decode cX5_planTrip 26 = .ok (.goto 43, 3) := by decide +kernel
theorem dX5_planTrip_29 : decode cX5_planTrip 29 = .ok (.aload_n 0, 1) := by decide +kernel
theorem dX5_planTrip_30 : decode cX5_planTrip 30 = .ok (.getfield 137, 3) := by decide +kernel
theorem dX5_planTrip_33 : decode cX5_planTrip 33 = .ok (.bipush 12, 2) := by decide +kernel
theorem dX5_planTrip_35 : decode cX5_planTrip 35 = .ok (.if_icmp .ge 34, 3) := by decide +kernel
theorem dX5_planTrip_38 : decode cX5_planTrip 38 = .ok (.aload_n 0, 1) := by decide +kernel
theorem dX5_planTrip_39 : decode cX5_planTrip 39 = .ok (.aload_n 0, 1) := by decide +kernel
theorem dX5_planTrip_40 : decode cX5_planTrip 40 = .ok (.getfield 137, 3) := by decide +kernel
theorem dX5_planTrip_43 : decode cX5_planTrip 43 = .ok (.iload_n 1, 1) := by decide +kernel
theorem dX5_planTrip_44 : decode cX5_planTrip 44 = .ok (.invokevirtual 155, 3) := by decide +kernel
theorem dX5_planTrip_47 : decode cX5_planTrip 47 = .ok (.ifCond .eq 22, 3) := by decide +kernel
theorem dX5_planTrip_50 : decode cX5_planTrip 50 = .ok (.aload_n 0, 1) := by decide +kernel
theorem dX5_planTrip_51 : decode cX5_planTrip 51 = .ok (.aload_n 0, 1) := by decide +kernel
theorem dX5_planTrip_52 : decode cX5_planTrip 52 = .ok (.getfield 137, 3) := by decide +kernel
theorem dX5_planTrip_55 : decode cX5_planTrip 55 = .ok (.iload_n 1, 1) := by decide +kernel
theorem dX5_planTrip_56 : decode cX5_planTrip 56 = .ok (.invokevirtual 160, 3) := by decide +kernel
theorem dX5_planTrip_59 : decode cX5_planTrip 59 = .ok (.aload_n 0, 1) := by decide +kernel
theorem dX5_planTrip_60 : decode cX5_planTrip 60 = .ok (.dup, 1) := by decide +kernel
theorem dX5_planTrip_61 : decode cX5_planTrip 61 = .ok (.getfield 137, 3) := by decide +kernel
theorem dX5_planTrip_64 : decode cX5_planTrip 64 = .ok (.iconst 1, 1) := by decide +kernel
theorem dX5_planTrip_65 : decode cX5_planTrip 65 = .ok (.iadd, 1) := by decide +kernel
theorem dX5_planTrip_66 : decode cX5_planTrip 66 = .ok (.putfield 137, 3) := by decide +kernel
theorem dX5_planTrip_69 : decode cX5_planTrip 69 = .ok (.return_, 1) := by decide +kernel
theorem dX5_tryExchange_0 : decode cX5_tryExchange 0 = .ok (.aload_n 0, 1) := by decide +kernel
theorem dX5_tryExchange_1 : decode cX5_tryExchange 1 = .ok (.getfield 39, 3) := by decide +kernel
theorem dX5_tryExchange_4 : decode cX5_tryExchange 4 = .ok (.aload_n 0, 1) := by decide +kernel
theorem dX5_tryExchange_5 : decode cX5_tryExchange 5 = .ok (.iload_n 1, 1) := by decide +kernel
theorem dX5_tryExchange_6 : decode cX5_tryExchange 6 = .ok (.invokevirtual 164, 3) := by decide +kernel
theorem dX5_tryExchange_9 : decode cX5_tryExchange 9 = .ok (.aload_n 0, 1) := by decide +kernel
theorem dX5_tryExchange_10 : decode cX5_tryExchange 10 = .ok (.iload_n 2, 1) := by decide +kernel
theorem dX5_tryExchange_11 : decode cX5_tryExchange 11 = .ok (.invokevirtual 164, 3) := by decide +kernel
theorem dX5_tryExchange_14 : decode cX5_tryExchange 14 = .ok (.iload_n 3, 1) := by decide +kernel
theorem dX5_tryExchange_15 : decode cX5_tryExchange 15 = .ok (.aload_n 0, 1) := by decide +kernel
theorem dX5_tryExchange_16 : decode cX5_tryExchange 16 = .ok (.getfield 10, 3) := by decide +kernel
theorem dX5_tryExchange_19 : decode cX5_tryExchange 19 = .ok (.invokevirtual 351, 3) := by decide +kernel
theorem dX5_tryExchange_22 : decode cX5_tryExchange 22 = .ok (.aload_n 0, 1) := by decide +kernel
theorem dX5_tryExchange_23 : decode cX5_tryExchange 23 = .ok (.getfield 43, 3) := by decide +kernel
theorem dX5_tryExchange_26 : decode cX5_tryExchange 26 = .ok (.aload_n 0, 1) := by decide +kernel
theorem dX5_tryExchange_27 : decode cX5_tryExchange 27 = .ok (.iload_n 2, 1) := by decide +kernel
theorem dX5_tryExchange_28 : decode cX5_tryExchange 28 = .ok (.invokevirtual 164, 3) := by decide +kernel
theorem dX5_tryExchange_31 : decode cX5_tryExchange 31 = .ok (.aload_n 0, 1) := by decide +kernel
theorem dX5_tryExchange_32 : decode cX5_tryExchange 32 = .ok (.iload_n 1, 1) := by decide +kernel
theorem dX5_tryExchange_33 : decode cX5_tryExchange 33 = .ok (.invokevirtual 164, 3) := by decide +kernel
theorem dX5_tryExchange_36 : decode cX5_tryExchange 36 = .ok (.iload_n 3, 1) := by decide +kernel
theorem dX5_tryExchange_37 : decode cX5_tryExchange 37 = .ok (.aload_n 0, 1) := by decide +kernel
theorem dX5_tryExchange_38 : decode cX5_tryExchange 38 = .ok (.getfield 10, 3) := by decide +kernel
theorem dX5_tryExchange_41 : decode cX5_tryExchange 41 = .ok (.invokevirtual 351, 3) := by decide +kernel
theorem dX5_tryExchange_44 : decode cX5_tryExchange 44 = .ok (.aload_n 0, 1) := by decide +kernel
theorem dX5_tryExchange_45 : decode cX5_tryExchange 45 = .ok (.getfield 39, 3) := by decide +kernel
theorem dX5_tryExchange_48 : decode cX5_tryExchange 48 = .ok (.aload_n 0, 1) := by decide +kernel
theorem dX5_tryExchange_49 : decode cX5_tryExchange 49 = .ok (.getfield 10, 3) := by decide +kernel
theorem dX5_tryExchange_52 : decode cX5_tryExchange 52 = .ok (.aload_n 0, 1) := by decide +kernel
theorem dX5_tryExchange_53 : decode cX5_tryExchange 53 = .ok (.getfield 19, 3) := by decide +kernel
theorem dX5_tryExchange_56 : decode cX5_tryExchange 56 = .ok (.invokevirtual 340, 3) := by decide +kernel
theorem dX5_tryExchange_59 : decode cX5_tryExchange 59 = .ok (.aload_n 0, 1) := by decide +kernel
theorem dX5_tryExchange_60 : decode cX5_tryExchange 60 = .ok (.getfield 43, 3) := by decide +kernel
theorem dX5_tryExchange_63 : decode cX5_tryExchange 63 = .ok (.aload_n 0, 1) := by decide +kernel
theorem dX5_tryExchange_64 : decode cX5_tryExchange 64 = .ok (.getfield 10, 3) := by decide +kernel
theorem dX5_tryExchange_67 : decode cX5_tryExchange 67 = .ok (.aload_n 0, 1) := by decide +kernel
theorem dX5_tryExchange_68 : decode cX5_tryExchange 68 = .ok (.getfield 19, 3) := by decide +kernel
theorem dX5_tryExchange_71 : decode cX5_tryExchange 71 = .ok (.invokevirtual 340, 3) := by decide +kernel
theorem dX5_tryExchange_74 : decode cX5_tryExchange 74 = .ok (.aload_n 0, 1) := by decide +kernel
theorem dX5_tryExchange_75 : decode cX5_tryExchange 75 = .ok (.getfield 39, 3) := by decide +kernel
theorem dX5_tryExchange_78 : decode cX5_tryExchange 78 = .ok (.getfield 336, 3) := by decide +kernel
theorem dX5_tryExchange_81 : decode cX5_tryExchange 81 = .ok (.ifCond .eq 17, 3) := by decide +kernel
theorem dX5_tryExchange_84 : decode cX5_tryExchange 84 = .ok (.aload_n 0, 1) := by decide +kernel
theorem dX5_tryExchange_85 : decode cX5_tryExchange 85 = .ok (.getfield 43, 3) := by decide +kernel
theorem dX5_tryExchange_88 : decode cX5_tryExchange 88 = .ok (.getfield 336, 3) := by decide +kernel
theorem dX5_tryExchange_91 : decode cX5_tryExchange 91 = .ok (.ifCond .eq 7, 3) := by decide +kernel
theorem dX5_tryExchange_94 : decode cX5_tryExchange 94 = .ok (.iconst 1, 1) := by decide +kernel
theorem dX5_tryExchange_95 : decode cX5_tryExchange 95 = .ok (.goto 4, 3) := by decide +kernel
theorem dX5_tryExchange_98 : decode cX5_tryExchange 98 = .ok (.iconst 0, 1) := by decide +kernel
theorem dX5_tryExchange_99 : decode cX5_tryExchange 99 = .ok (.ireturn, 1) := by decide +kernel
theorem dX5_changeOfPay_0 : decode cX5_changeOfPay 0 = .ok (.aload_n 0, 1) := by decide +kernel
theorem dX5_changeOfPay_1 : decode cX5_changeOfPay 1 = .ok (.getfield 39, 3) := by decide +kernel
theorem dX5_changeOfPay_4 : decode cX5_changeOfPay 4 = .ok (.getfield 255, 3) := by decide +kernel
theorem dX5_changeOfPay_7 : decode cX5_changeOfPay 7 = .ok (.aload_n 0, 1) := by decide +kernel
theorem dX5_changeOfPay_8 : decode cX5_changeOfPay 8 = .ok (.getfield 43, 3) := by decide +kernel
theorem dX5_changeOfPay_11 : decode cX5_changeOfPay 11 = .ok (.getfield 255, 3) := by decide +kernel
theorem dX5_changeOfPay_14 : decode cX5_changeOfPay 14 = .ok (.iadd, 1) := by decide +kernel
theorem dX5_changeOfPay_15 : decode cX5_changeOfPay 15 = .ok (.aload_n 0, 1) := by decide +kernel
theorem dX5_changeOfPay_16 : decode cX5_changeOfPay 16 = .ok (.iload_n 1, 1) := by decide +kernel
theorem dX5_changeOfPay_17 : decode cX5_changeOfPay 17 = .ok (.invokevirtual 164, 3) := by decide +kernel
theorem dX5_changeOfPay_20 : decode cX5_changeOfPay 20 = .ok (.getfield 255, 3) := by decide +kernel
theorem dX5_changeOfPay_23 : decode cX5_changeOfPay 23 = .ok (.isub, 1) := by decide +kernel
theorem dX5_changeOfPay_24 : decode cX5_changeOfPay 24 = .ok (.aload_n 0, 1) := by decide +kernel
theorem dX5_changeOfPay_25 : decode cX5_changeOfPay 25 = .ok (.iload_n 2, 1) := by decide +kernel
theorem dX5_changeOfPay_26 : decode cX5_changeOfPay 26 = .ok (.invokevirtual 164, 3) := by decide +kernel
theorem dX5_changeOfPay_29 : decode cX5_changeOfPay 29 = .ok (.getfield 255, 3) := by decide +kernel
theorem dX5_changeOfPay_32 : decode cX5_changeOfPay 32 = .ok (.isub, 1) := by decide +kernel
theorem dX5_changeOfPay_33 : decode cX5_changeOfPay 33 = .ok (.ireturn, 1) := by decide +kernel
theorem dX5_keepExchange_0 : decode cX5_keepExchange 0 = .ok (.aload_n 0, 1) := by decide +kernel
theorem dX5_keepExchange_1 : decode cX5_keepExchange 1 = .ok (.iload_n 1, 1) := by decide +kernel
theorem dX5_keepExchange_2 : decode cX5_keepExchange 2 = .ok (.invokevirtual 164, 3) := by decide +kernel
theorem dX5_keepExchange_5 : decode cX5_keepExchange 5 = .ok (.aload_n 0, 1) := by decide +kernel
theorem dX5_keepExchange_6 : decode cX5_keepExchange 6 = .ok (.getfield 39, 3) := by decide +kernel
theorem dX5_keepExchange_9 : decode cX5_keepExchange 9 = .ok (.invokevirtual 185, 3) := by decide +kernel
theorem dX5_keepExchange_12 : decode cX5_keepExchange 12 = .ok (.aload_n 0, 1) := by decide +kernel
theorem dX5_keepExchange_13 : decode cX5_keepExchange 13 = .ok (.iload_n 2, 1) := by decide +kernel
theorem dX5_keepExchange_14 : decode cX5_keepExchange 14 = .ok (.invokevirtual 164, 3) := by decide +kernel
theorem dX5_keepExchange_17 : decode cX5_keepExchange 17 = .ok (.aload_n 0, 1) := by decide +kernel
theorem dX5_keepExchange_18 : decode cX5_keepExchange 18 = .ok (.getfield 43, 3) := by decide +kernel
theorem dX5_keepExchange_21 : decode cX5_keepExchange 21 = .ok (.invokevirtual 185, 3) := by decide +kernel
theorem dX5_keepExchange_24 : decode cX5_keepExchange 24 = .ok (.aload_n 0, 1) := by decide +kernel
theorem dX5_keepExchange_25 : decode cX5_keepExchange 25 = .ok (.iload_n 1, 1) := by decide +kernel
theorem dX5_keepExchange_26 : decode cX5_keepExchange 26 = .ok (.invokevirtual 355, 3) := by decide +kernel
theorem dX5_keepExchange_29 : decode cX5_keepExchange 29 = .ok (.aload_n 0, 1) := by decide +kernel
theorem dX5_keepExchange_30 : decode cX5_keepExchange 30 = .ok (.iload_n 2, 1) := by decide +kernel
theorem dX5_keepExchange_31 : decode cX5_keepExchange 31 = .ok (.invokevirtual 355, 3) := by decide +kernel
theorem dX5_keepExchange_34 : decode cX5_keepExchange 34 = .ok (.return_, 1) := by decide +kernel
theorem dX5_assignTripsOf_0 : decode cX5_assignTripsOf 0 = .ok (.aload_n 0, 1) := by decide +kernel
theorem dX5_assignTripsOf_1 : decode cX5_assignTripsOf 1 = .ok (.iload_n 1, 1) := by decide +kernel
theorem dX5_assignTripsOf_2 : decode cX5_assignTripsOf 2 = .ok (.invokevirtual 164, 3) := by decide +kernel
theorem dX5_assignTripsOf_5 : decode cX5_assignTripsOf 5 = .ok (.astore_n 2, 1) := by decide +kernel
theorem dX5_assignTripsOf_6 : decode cX5_assignTripsOf 6 = .ok (.iconst 0, 1) := by decide +kernel
theorem dX5_assignTripsOf_7 : decode cX5_assignTripsOf 7 = .ok (.istore_n 3, 1) := by decide +kernel
theorem dX5_assignTripsOf_8 : decode cX5_assignTripsOf 8 = .ok (.iload_n 3, 1) := by decide +kernel
theorem dX5_assignTripsOf_9 : decode cX5_assignTripsOf 9 = .ok (.aload_n 2, 1) := by decide +kernel
theorem dX5_assignTripsOf_10 : decode cX5_assignTripsOf 10 = .ok (.getfield 197, 3) := by decide +kernel
theorem dX5_assignTripsOf_13 : decode cX5_assignTripsOf 13 = .ok (.if_icmp .ge 19, 3) := by decide +kernel
theorem dX5_assignTripsOf_16 : decode cX5_assignTripsOf 16 = .ok (.aload_n 0, 1) := by decide +kernel
theorem dX5_assignTripsOf_17 : decode cX5_assignTripsOf 17 = .ok (.aload_n 2, 1) := by decide +kernel
theorem dX5_assignTripsOf_18 : decode cX5_assignTripsOf 18 = .ok (.iload_n 3, 1) := by decide +kernel
theorem dX5_assignTripsOf_19 : decode cX5_assignTripsOf 19 = .ok (.invokevirtual 200, 3) := by decide +kernel
theorem dX5_assignTripsOf_22 : decode cX5_assignTripsOf 22 = .ok (.iload_n 1, 1) := by decide +kernel
theorem dX5_assignTripsOf_23 : decode cX5_assignTripsOf 23 = .ok (.invokevirtual 189, 3) := by decide +kernel
theorem dX5_assignTripsOf_26 : decode cX5_assignTripsOf 26 = .ok (.iinc 3 1, 3) := by decide +kernel
theorem dX5_assignTripsOf_29 : decode cX5_assignTripsOf 29 = .ok (.goto (-21), 3) := by decide +kernel
theorem dX5_assignTripsOf_32 : decode cX5_assignTripsOf 32 = .ok (.return_, 1) := by decide +kernel
theorem dX5_weighPairsOf_0 : decode cX5_weighPairsOf 0 = .ok (.iload_n 1, 1) := by decide +kernel
theorem dX5_weighPairsOf_1 : decode cX5_weighPairsOf 1 = .ok (.iconst 1, 1) := by decide +kernel
theorem dX5_weighPairsOf_2 : decode cX5_weighPairsOf 2 = .ok (.iadd, 1) := by decide +kernel
theorem dX5_weighPairsOf_3 : decode cX5_weighPairsOf 3 = .ok (.istore_n 2, 1) := by decide +kernel
theorem dX5_weighPairsOf_4 : decode cX5_weighPairsOf 4 = .ok (.iload_n 2, 1) := by decide +kernel
theorem dX5_weighPairsOf_5 : decode cX5_weighPairsOf 5 = .ok (.aload_n 0, 1) := by decide +kernel
theorem dX5_weighPairsOf_6 : decode cX5_weighPairsOf 6 = .ok (.getfield 137, 3) := by decide +kernel
theorem dX5_weighPairsOf_9 : decode cX5_weighPairsOf 9 = .ok (.if_icmp .ge 31, 3) := by decide +kernel
theorem dX5_weighPairsOf_12 : decode cX5_weighPairsOf 12 = .ok (.aload_n 0, 1) := by decide +kernel
theorem dX5_weighPairsOf_13 : decode cX5_weighPairsOf 13 = .ok (.iload_n 2, 1) := by decide +kernel
theorem dX5_weighPairsOf_14 : decode cX5_weighPairsOf 14 = .ok (.invokevirtual 177, 3) := by decide +kernel
theorem dX5_weighPairsOf_17 : decode cX5_weighPairsOf 17 = .ok (.ifCond .ne 17, 3) := by decide +kernel
theorem dX5_weighPairsOf_20 : decode cX5_weighPairsOf 20 = .ok (.aload_n 0, 1) := by decide +kernel
theorem dX5_weighPairsOf_21 : decode cX5_weighPairsOf 21 = .ok (.iload_n 1, 1) := by decide +kernel
theorem dX5_weighPairsOf_22 : decode cX5_weighPairsOf 22 = .ok (.iload_n 1, 1) := by decide +kernel
theorem dX5_weighPairsOf_23 : decode cX5_weighPairsOf 23 = .ok (.iload_n 2, 1) := by decide +kernel
theorem dX5_weighPairsOf_24 : decode cX5_weighPairsOf 24 = .ok (.invokevirtual 358, 3) := by decide +kernel
theorem dX5_weighPairsOf_27 : decode cX5_weighPairsOf 27 = .ok (.aload_n 0, 1) := by decide +kernel
theorem dX5_weighPairsOf_28 : decode cX5_weighPairsOf 28 = .ok (.iload_n 2, 1) := by decide +kernel
theorem dX5_weighPairsOf_29 : decode cX5_weighPairsOf 29 = .ok (.iload_n 1, 1) := by decide +kernel
theorem dX5_weighPairsOf_30 : decode cX5_weighPairsOf 30 = .ok (.iload_n 2, 1) := by decide +kernel
theorem dX5_weighPairsOf_31 : decode cX5_weighPairsOf 31 = .ok (.invokevirtual 358, 3) := by decide +kernel
theorem dX5_weighPairsOf_34 : decode cX5_weighPairsOf 34 = .ok (.iinc 2 1, 3) := by decide +kernel
theorem dX5_weighPairsOf_37 : decode cX5_weighPairsOf 37 = .ok (.goto (-33), 3) := by decide +kernel
theorem dX5_weighPairsOf_40 : decode cX5_weighPairsOf 40 = .ok (.return_, 1) := by decide +kernel
theorem dX5_weighTimesOf_0 : decode cX5_weighTimesOf 0 = .ok (.aload_n 0, 1) := by decide +kernel
theorem dX5_weighTimesOf_1 : decode cX5_weighTimesOf 1 = .ok (.iload_n 1, 1) := by decide +kernel
theorem dX5_weighTimesOf_2 : decode cX5_weighTimesOf 2 = .ok (.invokevirtual 164, 3) := by decide +kernel
theorem dX5_weighTimesOf_5 : decode cX5_weighTimesOf 5 = .ok (.astore 4, 2) := by decide +kernel
theorem dX5_weighTimesOf_7 : decode cX5_weighTimesOf 7 = .ok (.iconst 0, 1) := by decide +kernel
theorem dX5_weighTimesOf_8 : decode cX5_weighTimesOf 8 = .ok (.istore 5, 2) := by decide +kernel
theorem dX5_weighTimesOf_10 : decode cX5_weighTimesOf 10 = .ok (.iload 5, 2) := by decide +kernel
theorem dX5_weighTimesOf_12 : decode cX5_weighTimesOf 12 = .ok (.aload 4, 2) := by decide +kernel
theorem dX5_weighTimesOf_14 : decode cX5_weighTimesOf 14 = .ok (.getfield 197, 3) := by decide +kernel
theorem dX5_weighTimesOf_17 : decode cX5_weighTimesOf 17 = .ok (.if_icmp .ge 53, 3) := by decide +kernel
theorem dX5_weighTimesOf_20 : decode cX5_weighTimesOf 20 = .ok (.aload_n 0, 1) := by decide +kernel
theorem dX5_weighTimesOf_21 : decode cX5_weighTimesOf 21 = .ok (.getfield 10, 3) := by decide +kernel
theorem dX5_weighTimesOf_24 : decode cX5_weighTimesOf 24 = .ok (.aload 4, 2) := by decide +kernel
theorem dX5_weighTimesOf_26 : decode cX5_weighTimesOf 26 = .ok (.iload 5, 2) := by decide +kernel
theorem dX5_weighTimesOf_28 : decode cX5_weighTimesOf 28 = .ok (.invokevirtual 200, 3) := by decide +kernel
theorem dX5_weighTimesOf_31 : decode cX5_weighTimesOf 31 = .ok (.invokevirtual 209, 3) := by decide +kernel
theorem dX5_weighTimesOf_34 : decode cX5_weighTimesOf 34 = .ok (.istore 6, 2) := by decide +kernel
theorem dX5_weighTimesOf_36 : decode cX5_weighTimesOf 36 = .ok (.aload_n 0, 1) := by decide +kernel
theorem dX5_weighTimesOf_37 : decode cX5_weighTimesOf 37 = .ok (.iload_n 2, 1) := by decide +kernel
theorem dX5_weighTimesOf_38 : decode cX5_weighTimesOf 38 = .ok (.iload_n 3, 1) := by decide +kernel
theorem dX5_weighTimesOf_39 : decode cX5_weighTimesOf 39 = .ok (.iload 6, 2) := by decide +kernel
theorem dX5_weighTimesOf_41 : decode cX5_weighTimesOf 41 = .ok (.invokevirtual 227, 3) := by decide +kernel
theorem dX5_weighTimesOf_44 : decode cX5_weighTimesOf 44 = .ok (.ifCond .eq 20, 3) := by decide +kernel
theorem dX5_weighTimesOf_47 : decode cX5_weighTimesOf 47 = .ok (.aload_n 0, 1) := by decide +kernel
theorem dX5_weighTimesOf_48 : decode cX5_weighTimesOf 48 = .ok (.getfield 56, 3) := by decide +kernel
theorem dX5_weighTimesOf_51 : decode cX5_weighTimesOf 51 = .ok (.iload_n 2, 1) := by decide +kernel
theorem dX5_weighTimesOf_52 : decode cX5_weighTimesOf 52 = .ok (.iload_n 3, 1) := by decide +kernel
theorem dX5_weighTimesOf_53 : decode cX5_weighTimesOf 53 = .ok (.iload 6, 2) := by decide +kernel
theorem dX5_weighTimesOf_55 : decode cX5_weighTimesOf 55 = .ok (.aload_n 0, 1) := by decide +kernel
theorem dX5_weighTimesOf_56 : decode cX5_weighTimesOf 56 = .ok (.iload_n 2, 1) := by decide +kernel
theorem dX5_weighTimesOf_57 : decode cX5_weighTimesOf 57 = .ok (.iload_n 3, 1) := by decide +kernel
theorem dX5_weighTimesOf_58 : decode cX5_weighTimesOf 58 = .ok (.invokevirtual 233, 3) := by decide +kernel
theorem dX5_weighTimesOf_61 : decode cX5_weighTimesOf 61 = .ok (.invokevirtual 361, 3) := by decide +kernel
theorem dX5_weighTimesOf_64 : decode cX5_weighTimesOf 64 = .ok (.iinc 5 1, 3) := by decide +kernel
theorem dX5_weighTimesOf_67 : decode cX5_weighTimesOf 67 = .ok (.goto (-57), 3) := by decide +kernel
theorem dX5_weighTimesOf_70 : decode cX5_weighTimesOf 70 = .ok (.return_, 1) := by decide +kernel
theorem dX5_dutyOn_0 : decode cX5_dutyOn 0 = .ok (.iload_n 1, 1) := by decide +kernel
theorem dX5_dutyOn_1 : decode cX5_dutyOn 1 = .ok (.ifCond .lt 30, 3) := by decide +kernel
theorem dX5_dutyOn_4 : decode cX5_dutyOn 4 = .ok (.iload_n 1, 1) := by decide +kernel
theorem dX5_dutyOn_5 : decode cX5_dutyOn 5 = .ok (.bipush 8, 2) := by decide +kernel
theorem dX5_dutyOn_7 : decode cX5_dutyOn 7 = .ok (.if_icmp .ge 24, 3) := by decide +kernel
theorem dX5_dutyOn_10 : decode cX5_dutyOn 10 = .ok (.iload_n 2, 1) := by decide +kernel
theorem dX5_dutyOn_11 : decode cX5_dutyOn 11 = .ok (.ifCond .lt 20, 3) := by decide +kernel
theorem dX5_dutyOn_14 : decode cX5_dutyOn 14 = .ok (.iload_n 2, 1) := by decide +kernel
theorem dX5_dutyOn_15 : decode cX5_dutyOn 15 = .ok (.bipush 7, 2) := by decide +kernel
theorem dX5_dutyOn_17 : decode cX5_dutyOn 17 = .ok (.if_icmp .ge 14, 3) := by decide +kernel
theorem dX5_dutyOn_20 : decode cX5_dutyOn 20 = .ok (.aload_n 0, 1) := by decide +kernel
theorem dX5_dutyOn_21 : decode cX5_dutyOn 21 = .ok (.getfield 35, 3) := by decide +kernel
theorem dX5_dutyOn_24 : decode cX5_dutyOn 24 = .ok (.iload_n 1, 1) := by decide +kernel
theorem dX5_dutyOn_25 : decode cX5_dutyOn 25 = .ok (.aaload, 1) := by decide +kernel
theorem dX5_dutyOn_26 : decode cX5_dutyOn 26 = .ok (.iload_n 2, 1) := by decide +kernel
theorem dX5_dutyOn_27 : decode cX5_dutyOn 27 = .ok (.iaload, 1) := by decide +kernel
theorem dX5_dutyOn_28 : decode cX5_dutyOn 28 = .ok (.goto 4, 3) := by decide +kernel
theorem dX5_dutyOn_31 : decode cX5_dutyOn 31 = .ok (.iconst (-1), 1) := by decide +kernel
theorem dX5_dutyOn_32 : decode cX5_dutyOn 32 = .ok (.ireturn, 1) := by decide +kernel
theorem dX5_enter_0 : decode cX5_enter 0 = .ok (.iload_n 1, 1) := by decide +kernel
theorem dX5_enter_1 : decode cX5_enter 1 = .ok (.ifCond .lt 28, 3) := by decide +kernel
theorem dX5_enter_4 : decode cX5_enter 4 = .ok (.iload_n 1, 1) := by decide +kernel
theorem dX5_enter_5 : decode cX5_enter 5 = .ok (.bipush 8, 2) := by decide +kernel
theorem dX5_enter_7 : decode cX5_enter 7 = .ok (.if_icmp .ge 22, 3) := by decide +kernel
theorem dX5_enter_10 : decode cX5_enter 10 = .ok (.iload_n 2, 1) := by decide +kernel
theorem dX5_enter_11 : decode cX5_enter 11 = .ok (.ifCond .lt 18, 3) := by decide +kernel
theorem dX5_enter_14 : decode cX5_enter 14 = .ok (.iload_n 2, 1) := by decide +kernel
theorem dX5_enter_15 : decode cX5_enter 15 = .ok (.bipush 7, 2) := by decide +kernel
theorem dX5_enter_17 : decode cX5_enter 17 = .ok (.if_icmp .ge 12, 3) := by decide +kernel
theorem dX5_enter_20 : decode cX5_enter 20 = .ok (.aload_n 0, 1) := by decide +kernel
theorem dX5_enter_21 : decode cX5_enter 21 = .ok (.getfield 35, 3) := by decide +kernel
theorem dX5_enter_24 : decode cX5_enter 24 = .ok (.iload_n 1, 1) := by decide +kernel
theorem dX5_enter_25 : decode cX5_enter 25 = .ok (.aaload, 1) := by decide +kernel
theorem dX5_enter_26 : decode cX5_enter 26 = .ok (.iload_n 2, 1) := by decide +kernel
theorem dX5_enter_27 : decode cX5_enter 27 = .ok (.iload_n 3, 1) := by decide +kernel
theorem dX5_enter_28 : decode cX5_enter 28 = .ok (.iastore, 1) := by decide +kernel
theorem dX5_enter_29 : decode cX5_enter 29 = .ok (.return_, 1) := by decide +kernel
theorem dX5_isHadOn_0 : decode cX5_isHadOn 0 = .ok (.iconst 0, 1) := by decide +kernel
theorem dX5_isHadOn_1 : decode cX5_isHadOn 1 = .ok (.istore_n 3, 1) := by decide +kernel
theorem dX5_isHadOn_2 : decode cX5_isHadOn 2 = .ok (.iload_n 3, 1) := by decide +kernel
theorem dX5_isHadOn_3 : decode cX5_isHadOn 3 = .ok (.aload_n 0, 1) := by decide +kernel
theorem dX5_isHadOn_4 : decode cX5_isHadOn 4 = .ok (.getfield 140, 3) := by decide +kernel
theorem dX5_isHadOn_7 : decode cX5_isHadOn 7 = .ok (.if_icmp .ge 21, 3) := by decide +kernel
theorem dX5_isHadOn_10 : decode cX5_isHadOn 10 = .ok (.aload_n 0, 1) := by decide +kernel
theorem dX5_isHadOn_11 : decode cX5_isHadOn 11 = .ok (.iload_n 3, 1) := by decide +kernel
theorem dX5_isHadOn_12 : decode cX5_isHadOn 12 = .ok (.iload_n 2, 1) := by decide +kernel
theorem dX5_isHadOn_13 : decode cX5_isHadOn 13 = .ok (.invokevirtual 288, 3) := by decide +kernel
theorem dX5_isHadOn_16 : decode cX5_isHadOn 16 = .ok (.iload_n 1, 1) := by decide +kernel
theorem dX5_isHadOn_17 : decode cX5_isHadOn 17 = .ok (.if_icmp .ne 5, 3) := by decide +kernel
theorem dX5_isHadOn_20 : decode cX5_isHadOn 20 = .ok (.iconst 1, 1) := by decide +kernel
theorem dX5_isHadOn_21 : decode cX5_isHadOn 21 = .ok (.ireturn, 1) := by decide +kernel
theorem dX5_isHadOn_22 : decode cX5_isHadOn 22 = .ok (.iinc 3 1, 3) := by decide +kernel
theorem dX5_isHadOn_25 : decode cX5_isHadOn 25 = .ok (.goto (-23), 3) := by decide +kernel
theorem dX5_isHadOn_28 : decode cX5_isHadOn 28 = .ok (.iconst 0, 1) := by decide +kernel
theorem dX5_isHadOn_29 : decode cX5_isHadOn 29 = .ok (.ireturn, 1) := by decide +kernel
theorem dX5_isFixed_0 : decode cX5_isFixed 0 = .ok (.iconst 0, 1) := by decide +kernel
theorem dX5_isFixed_1 : decode cX5_isFixed 1 = .ok (.istore_n 2, 1) := by decide +kernel
theorem dX5_isFixed_2 : decode cX5_isFixed 2 = .ok (.iload_n 2, 1) := by decide +kernel
theorem dX5_isFixed_3 : decode cX5_isFixed 3 = .ok (.bipush 7, 2) := by decide +kernel
theorem dX5_isFixed_5 : decode cX5_isFixed 5 = .ok (.if_icmp .ge 20, 3) := by decide +kernel
theorem dX5_isFixed_8 : decode cX5_isFixed 8 = .ok (.aload_n 0, 1) := by decide +kernel
theorem dX5_isFixed_9 : decode cX5_isFixed 9 = .ok (.iload_n 1, 1) := by decide +kernel
theorem dX5_isFixed_10 : decode cX5_isFixed 10 = .ok (.iload_n 2, 1) := by decide +kernel
theorem dX5_isFixed_11 : decode cX5_isFixed 11 = .ok (.invokevirtual 365, 3) := by decide +kernel
theorem dX5_isFixed_14 : decode cX5_isFixed 14 = .ok (.ifCond .eq 5, 3) := by decide +kernel
theorem dX5_isFixed_17 : decode cX5_isFixed 17 = .ok (.iconst 1, 1) := by decide +kernel
theorem dX5_isFixed_18 : decode cX5_isFixed 18 = .ok (.ireturn, 1) := by decide +kernel
theorem dX5_isFixed_19 : decode cX5_isFixed 19 = .ok (.iinc 2 1, 3) := by decide +kernel
theorem dX5_isFixed_22 : decode cX5_isFixed 22 = .ok (.goto (-20), 3) := by decide +kernel
theorem dX5_isFixed_25 : decode cX5_isFixed 25 = .ok (.iconst 0, 1) := by decide +kernel
theorem dX5_isFixed_26 : decode cX5_isFixed 26 = .ok (.ireturn, 1) := by decide +kernel
theorem dX5_isOpenOn_0 : decode cX5_isOpenOn 0 = .ok (.aload_n 0, 1) := by decide +kernel
theorem dX5_isOpenOn_1 : decode cX5_isOpenOn 1 = .ok (.iload_n 1, 1) := by decide +kernel
theorem dX5_isOpenOn_2 : decode cX5_isOpenOn 2 = .ok (.invokevirtual 164, 3) := by decide +kernel
theorem dX5_isOpenOn_5 : decode cX5_isOpenOn 5 = .ok (.getfield 197, 3) := by decide +kernel
theorem dX5_isOpenOn_8 : decode cX5_isOpenOn 8 = .ok (.ifCond .le 16, 3) := by decide +kernel
theorem dX5_isOpenOn_11 : decode cX5_isOpenOn 11 = .ok (.aload_n 0, 1) := by decide +kernel
theorem dX5_isOpenOn_12 : decode cX5_isOpenOn 12 = .ok (.iload_n 1, 1) := by decide +kernel
theorem dX5_isOpenOn_13 : decode cX5_isOpenOn 13 = .ok (.iload_n 2, 1) := by decide +kernel
theorem dX5_isOpenOn_14 : decode cX5_isOpenOn 14 = .ok (.invokevirtual 365, 3) := by decide +kernel
theorem dX5_isOpenOn_17 : decode cX5_isOpenOn 17 = .ok (.ifCond .ne 7, 3) := by decide +kernel
theorem dX5_isOpenOn_20 : decode cX5_isOpenOn 20 = .ok (.iconst 1, 1) := by decide +kernel
theorem dX5_isOpenOn_21 : decode cX5_isOpenOn 21 = .ok (.goto 4, 3) := by decide +kernel
theorem dX5_isOpenOn_24 : decode cX5_isOpenOn 24 = .ok (.iconst 0, 1) := by decide +kernel
theorem dX5_isOpenOn_25 : decode cX5_isOpenOn 25 = .ok (.ireturn, 1) := by decide +kernel
theorem dX5_openDuties_0 : decode cX5_openDuties 0 = .ok (.iconst 0, 1) := by decide +kernel
theorem dX5_openDuties_1 : decode cX5_openDuties 1 = .ok (.istore_n 2, 1) := by decide +kernel
theorem dX5_openDuties_2 : decode cX5_openDuties 2 = .ok (.iconst 0, 1) := by decide +kernel
theorem dX5_openDuties_3 : decode cX5_openDuties 3 = .ok (.istore_n 3, 1) := by decide +kernel
theorem dX5_openDuties_4 : decode cX5_openDuties 4 = .ok (.iload_n 3, 1) := by decide +kernel
theorem dX5_openDuties_5 : decode cX5_openDuties 5 = .ok (.aload_n 0, 1) := by decide +kernel
theorem dX5_openDuties_6 : decode cX5_openDuties 6 = .ok (.getfield 137, 3) := by decide +kernel
theorem dX5_openDuties_9 : decode cX5_openDuties 9 = .ok (.if_icmp .ge 21, 3) := by decide +kernel
theorem dX5_openDuties_12 : decode cX5_openDuties 12 = .ok (.aload_n 0, 1) := by decide +kernel
theorem dX5_openDuties_13 : decode cX5_openDuties 13 = .ok (.iload_n 3, 1) := by decide +kernel
theorem dX5_openDuties_14 : decode cX5_openDuties 14 = .ok (.iload_n 1, 1) := by decide +kernel
theorem dX5_openDuties_15 : decode cX5_openDuties 15 = .ok (.invokevirtual 295, 3) := by decide +kernel
theorem dX5_openDuties_18 : decode cX5_openDuties 18 = .ok (.ifCond .eq 6, 3) := by decide +kernel
theorem dX5_openDuties_21 : decode cX5_openDuties 21 = .ok (.iinc 2 1, 3) := by decide +kernel
theorem dX5_openDuties_24 : decode cX5_openDuties 24 = .ok (.iinc 3 1, 3) := by decide +kernel
theorem dX5_openDuties_27 : decode cX5_openDuties 27 = .ok (.goto (-23), 3) := by decide +kernel
theorem dX5_openDuties_30 : decode cX5_openDuties 30 = .ok (.iload_n 2, 1) := by decide +kernel
theorem dX5_openDuties_31 : decode cX5_openDuties 31 = .ok (.ireturn, 1) := by decide +kernel
theorem dX5_weekPay_0 : decode cX5_weekPay 0 = .ok (.iconst 0, 1) := by decide +kernel
theorem dX5_weekPay_1 : decode cX5_weekPay 1 = .ok (.istore_n 2, 1) := by decide +kernel
theorem dX5_weekPay_2 : decode cX5_weekPay 2 = .ok (.iconst 0, 1) := by decide +kernel
theorem dX5_weekPay_3 : decode cX5_weekPay 3 = .ok (.istore_n 3, 1) := by decide +kernel
theorem dX5_weekPay_4 : decode cX5_weekPay 4 = .ok (.iload_n 3, 1) := by decide +kernel
theorem dX5_weekPay_5 : decode cX5_weekPay 5 = .ok (.bipush 7, 2) := by decide +kernel
theorem dX5_weekPay_7 : decode cX5_weekPay 7 = .ok (.if_icmp .ge 25, 3) := by decide +kernel
theorem dX5_weekPay_10 : decode cX5_weekPay 10 = .ok (.iload_n 2, 1) := by decide +kernel
theorem dX5_weekPay_11 : decode cX5_weekPay 11 = .ok (.aload_n 0, 1) := by decide +kernel
theorem dX5_weekPay_12 : decode cX5_weekPay 12 = .ok (.aload_n 0, 1) := by decide +kernel
theorem dX5_weekPay_13 : decode cX5_weekPay 13 = .ok (.iload_n 1, 1) := by decide +kernel
theorem dX5_weekPay_14 : decode cX5_weekPay 14 = .ok (.iload_n 3, 1) := by decide +kernel
theorem dX5_weekPay_15 : decode cX5_weekPay 15 = .ok (.invokevirtual 288, 3) := by decide +kernel
theorem dX5_weekPay_18 : decode cX5_weekPay 18 = .ok (.invokevirtual 164, 3) := by decide +kernel
theorem dX5_weekPay_21 : decode cX5_weekPay 21 = .ok (.getfield 255, 3) := by decide +kernel
theorem dX5_weekPay_24 : decode cX5_weekPay 24 = .ok (.iadd, 1) := by decide +kernel
theorem dX5_weekPay_25 : decode cX5_weekPay 25 = .ok (.istore_n 2, 1) := by decide +kernel
theorem dX5_weekPay_26 : decode cX5_weekPay 26 = .ok (.iinc 3 1, 3) := by decide +kernel
theorem dX5_weekPay_29 : decode cX5_weekPay 29 = .ok (.goto (-25), 3) := by decide +kernel
theorem dX5_weekPay_32 : decode cX5_weekPay 32 = .ok (.iload_n 2, 1) := by decide +kernel
theorem dX5_weekPay_33 : decode cX5_weekPay 33 = .ok (.ireturn, 1) := by decide +kernel
theorem dX5_reasonAgainst_0 : decode cX5_reasonAgainst 0 = .ok (.aload_n 0, 1) := by decide +kernel
theorem dX5_reasonAgainst_1 : decode cX5_reasonAgainst 1 = .ok (.iload_n 3, 1) := by decide +kernel
theorem dX5_reasonAgainst_2 : decode cX5_reasonAgainst 2 = .ok (.invokevirtual 164, 3) := by decide +kernel
theorem dX5_reasonAgainst_5 : decode cX5_reasonAgainst 5 = .ok (.astore 4, 2) := by decide +kernel
theorem dX5_reasonAgainst_7 : decode cX5_reasonAgainst 7 = .ok (.aload 4, 2) := by decide +kernel
theorem dX5_reasonAgainst_9 : decode cX5_reasonAgainst 9 = .ok (.getfield 197, 3) := by decide +kernel
theorem dX5_reasonAgainst_12 : decode cX5_reasonAgainst 12 = .ok (.ifCond .ne 5, 3) := by decide +kernel
theorem dX5_reasonAgainst_15 : decode cX5_reasonAgainst 15 = .ok (.iconst 1, 1) := by decide +kernel
theorem dX5_reasonAgainst_16 : decode cX5_reasonAgainst 16 = .ok (.ireturn, 1) := by decide +kernel
theorem dX5_reasonAgainst_17 : decode cX5_reasonAgainst 17 = .ok (.aload 4, 2) := by decide +kernel
theorem dX5_reasonAgainst_19 : decode cX5_reasonAgainst 19 = .ok (.getfield 336, 3) := by decide +kernel
theorem dX5_reasonAgainst_22 : decode cX5_reasonAgainst 22 = .ok (.ifCond .ne 5, 3) := by decide +kernel
theorem dX5_reasonAgainst_25 : decode cX5_reasonAgainst 25 = .ok (.iconst 2, 1) := by decide +kernel
theorem dX5_reasonAgainst_26 : decode cX5_reasonAgainst 26 = .ok (.ireturn, 1) := by decide +kernel
theorem dX5_reasonAgainst_27 : decode cX5_reasonAgainst 27 = .ok (.aload_n 0, 1) := by decide +kernel
theorem dX5_reasonAgainst_28 : decode cX5_reasonAgainst 28 = .ok (.iload_n 3, 1) := by decide +kernel
theorem dX5_reasonAgainst_29 : decode cX5_reasonAgainst 29 = .ok (.iload_n 2, 1) := by decide +kernel
theorem dX5_reasonAgainst_30 : decode cX5_reasonAgainst 30 = .ok (.invokevirtual 365, 3) := by decide +kernel
theorem dX5_reasonAgainst_33 : decode cX5_reasonAgainst 33 = .ok (.ifCond .eq 5, 3) := by decide +kernel
theorem dX5_reasonAgainst_36 : decode cX5_reasonAgainst 36 = .ok (.iconst 3, 1) := by decide +kernel
theorem dX5_reasonAgainst_37 : decode cX5_reasonAgainst 37 = .ok (.ireturn, 1) := by decide +kernel
theorem dX5_reasonAgainst_38 : decode cX5_reasonAgainst 38 = .ok (.aload_n 0, 1) := by decide +kernel
theorem dX5_reasonAgainst_39 : decode cX5_reasonAgainst 39 = .ok (.iload_n 1, 1) := by decide +kernel
theorem dX5_reasonAgainst_40 : decode cX5_reasonAgainst 40 = .ok (.iload_n 2, 1) := by decide +kernel
theorem dX5_reasonAgainst_41 : decode cX5_reasonAgainst 41 = .ok (.invokevirtual 288, 3) := by decide +kernel
theorem dX5_reasonAgainst_44 : decode cX5_reasonAgainst 44 = .ok (.iconst (-1), 1) := by decide +kernel
theorem dX5_reasonAgainst_45 : decode cX5_reasonAgainst 45 = .ok (.if_icmp .eq 5, 3) := by decide +kernel
theorem dX5_reasonAgainst_48 : decode cX5_reasonAgainst 48 = .ok (.iconst 4, 1) := by decide +kernel
theorem dX5_reasonAgainst_49 : decode cX5_reasonAgainst 49 = .ok (.ireturn, 1) := by decide +kernel
theorem dX5_reasonAgainst_50 : decode cX5_reasonAgainst 50 = .ok (.aload_n 0, 1) := by decide +kernel
theorem dX5_reasonAgainst_51 : decode cX5_reasonAgainst 51 = .ok (.iload_n 1, 1) := by decide +kernel
theorem dX5_reasonAgainst_52 : decode cX5_reasonAgainst 52 = .ok (.iload_n 2, 1) := by decide +kernel
theorem dX5_reasonAgainst_53 : decode cX5_reasonAgainst 53 = .ok (.invokevirtual 368, 3) := by decide +kernel
theorem dX5_reasonAgainst_56 : decode cX5_reasonAgainst 56 = .ok (.bipush 6, 2) := by decide +kernel
theorem dX5_reasonAgainst_58 : decode cX5_reasonAgainst 58 = .ok (.if_icmp .lt 5, 3) := by decide +kernel
theorem dX5_reasonAgainst_61 : decode cX5_reasonAgainst 61 = .ok (.iconst 5, 1) := by decide +kernel
theorem dX5_reasonAgainst_62 : decode cX5_reasonAgainst 62 = .ok (.ireturn, 1) := by decide +kernel
theorem dX5_reasonAgainst_63 : decode cX5_reasonAgainst 63 = .ok (.aload_n 0, 1) := by decide +kernel
theorem dX5_reasonAgainst_64 : decode cX5_reasonAgainst 64 = .ok (.iload_n 1, 1) := by decide +kernel
theorem dX5_reasonAgainst_65 : decode cX5_reasonAgainst 65 = .ok (.invokevirtual 283, 3) := by decide +kernel
theorem dX5_reasonAgainst_68 : decode cX5_reasonAgainst 68 = .ok (.aload 4, 2) := by decide +kernel
theorem dX5_reasonAgainst_70 : decode cX5_reasonAgainst 70 = .ok (.getfield 255, 3) := by decide +kernel
theorem dX5_reasonAgainst_73 : decode cX5_reasonAgainst 73 = .ok (.iadd, 1) := by decide +kernel
theorem dX5_reasonAgainst_74 : decode cX5_reasonAgainst 74 = .ok (.sipush 2880, 3) := by decide +kernel
theorem dX5_reasonAgainst_77 : decode cX5_reasonAgainst 77 = .ok (.if_icmp .le 6, 3) := by decide +kernel
theorem dX5_reasonAgainst_80 : decode cX5_reasonAgainst 80 = .ok (.bipush 6, 2) := by decide +kernel
theorem dX5_reasonAgainst_82 : decode cX5_reasonAgainst 82 = .ok (.ireturn, 1) := by decide +kernel
theorem dX5_reasonAgainst_83 : decode cX5_reasonAgainst 83 = .ok (.aload_n 0, 1) := by decide +kernel
theorem dX5_reasonAgainst_84 : decode cX5_reasonAgainst 84 = .ok (.iload_n 1, 1) := by decide +kernel
theorem dX5_reasonAgainst_85 : decode cX5_reasonAgainst 85 = .ok (.iload_n 2, 1) := by decide +kernel
theorem dX5_reasonAgainst_86 : decode cX5_reasonAgainst 86 = .ok (.iload_n 3, 1) := by decide +kernel
theorem dX5_reasonAgainst_87 : decode cX5_reasonAgainst 87 = .ok (.invokevirtual 371, 3) := by decide +kernel
theorem dX5_reasonAgainst_90 : decode cX5_reasonAgainst 90 = .ok (.ifCond .eq 7, 3) := by decide +kernel
theorem dX5_reasonAgainst_93 : decode cX5_reasonAgainst 93 = .ok (.iconst 0, 1) := by decide +kernel
theorem dX5_reasonAgainst_94 : decode cX5_reasonAgainst 94 = .ok (.goto 5, 3) := by decide +kernel
theorem dX5_reasonAgainst_97 : decode cX5_reasonAgainst 97 = .ok (.bipush 7, 2) := by decide +kernel
theorem dX5_reasonAgainst_99 : decode cX5_reasonAgainst 99 = .ok (.ireturn, 1) := by decide +kernel
theorem dX5_daysInARow_0 : decode cX5_daysInARow 0 = .ok (.iload_n 2, 1) := by decide +kernel
theorem dX5_daysInARow_1 : decode cX5_daysInARow 1 = .ok (.istore_n 3, 1) := by decide +kernel
theorem dX5_daysInARow_2 : decode cX5_daysInARow 2 = .ok (.iload_n 3, 1) := by decide +kernel
theorem dX5_daysInARow_3 : decode cX5_daysInARow 3 = .ok (.ifCond .le 21, 3) := by decide +kernel
theorem dX5_daysInARow_6 : decode cX5_daysInARow 6 = .ok (.aload_n 0, 1) := by decide +kernel
theorem dX5_daysInARow_7 : decode cX5_daysInARow 7 = .ok (.iload_n 1, 1) := by decide +kernel
theorem dX5_daysInARow_8 : decode cX5_daysInARow 8 = .ok (.iload_n 3, 1) := by decide +kernel
theorem dX5_daysInARow_9 : decode cX5_daysInARow 9 = .ok (.iconst 1, 1) := by decide +kernel
theorem dX5_daysInARow_10 : decode cX5_daysInARow 10 = .ok (.isub, 1) := by decide +kernel
theorem dX5_daysInARow_11 : decode cX5_daysInARow 11 = .ok (.invokevirtual 288, 3) := by decide +kernel
theorem dX5_daysInARow_14 : decode cX5_daysInARow 14 = .ok (.iconst (-1), 1) := by decide +kernel
theorem dX5_daysInARow_15 : decode cX5_daysInARow 15 = .ok (.if_icmp .eq 9, 3) := by decide +kernel
theorem dX5_daysInARow_18 : decode cX5_daysInARow 18 = .ok (.iinc 3 (-1), 3) := by decide +kernel
theorem dX5_daysInARow_21 : decode cX5_daysInARow 21 = .ok (.goto (-19), 3) := by decide +kernel
theorem dX5_daysInARow_24 : decode cX5_daysInARow 24 = .ok (.iload_n 2, 1) := by decide +kernel
theorem dX5_daysInARow_25 : decode cX5_daysInARow 25 = .ok (.istore 4, 2) := by decide +kernel
theorem dX5_daysInARow_27 : decode cX5_daysInARow 27 = .ok (.iload 4, 2) := by decide +kernel
theorem dX5_daysInARow_29 : decode cX5_daysInARow 29 = .ok (.bipush 6, 2) := by decide +kernel
theorem dX5_daysInARow_31 : decode cX5_daysInARow 31 = .ok (.if_icmp .ge 22, 3) := by decide +kernel
theorem dX5_daysInARow_34 : decode cX5_daysInARow 34 = .ok (.aload_n 0, 1) := by decide +kernel
theorem dX5_daysInARow_35 : decode cX5_daysInARow 35 = .ok (.iload_n 1, 1) := by decide +kernel
theorem dX5_daysInARow_36 : decode cX5_daysInARow 36 = .ok (.iload 4, 2) := by decide +kernel
theorem dX5_daysInARow_38 : decode cX5_daysInARow 38 = .ok (.iconst 1, 1) := by decide +kernel
theorem dX5_daysInARow_39 : decode cX5_daysInARow 39 = .ok (.iadd, 1) := by decide +kernel
theorem dX5_daysInARow_40 : decode cX5_daysInARow 40 = .ok (.invokevirtual 288, 3) := by decide +kernel
theorem dX5_daysInARow_43 : decode cX5_daysInARow 43 = .ok (.iconst (-1), 1) := by decide +kernel
theorem dX5_daysInARow_44 : decode cX5_daysInARow 44 = .ok (.if_icmp .eq 9, 3) := by decide +kernel
theorem dX5_daysInARow_47 : decode cX5_daysInARow 47 = .ok (.iinc 4 1, 3) := by decide +kernel
theorem dX5_daysInARow_50 : decode cX5_daysInARow 50 = .ok (.goto (-23), 3) := by decide +kernel
theorem dX5_daysInARow_53 : decode cX5_daysInARow 53 = .ok (.iload 4, 2) := by decide +kernel
theorem dX5_daysInARow_55 : decode cX5_daysInARow 55 = .ok (.iload_n 3, 1) := by decide +kernel
theorem dX5_daysInARow_56 : decode cX5_daysInARow 56 = .ok (.isub, 1) := by decide +kernel
theorem dX5_daysInARow_57 : decode cX5_daysInARow 57 = .ok (.iconst 1, 1) := by decide +kernel
theorem dX5_daysInARow_58 : decode cX5_daysInARow 58 = .ok (.iadd, 1) := by decide +kernel
theorem dX5_daysInARow_59 : decode cX5_daysInARow 59 = .ok (.ireturn, 1) := by decide +kernel
theorem dX5_hasRest_0 : decode cX5_hasRest 0 = .ok (.aload_n 0, 1) := by decide +kernel
theorem dX5_hasRest_1 : decode cX5_hasRest 1 = .ok (.iload_n 1, 1) := by decide +kernel
theorem dX5_hasRest_2 : decode cX5_hasRest 2 = .ok (.iload_n 2, 1) := by decide +kernel
theorem dX5_hasRest_3 : decode cX5_hasRest 3 = .ok (.iconst 1, 1) := by decide +kernel
theorem dX5_hasRest_4 : decode cX5_hasRest 4 = .ok (.isub, 1) := by decide +kernel
theorem dX5_hasRest_5 : decode cX5_hasRest 5 = .ok (.invokevirtual 288, 3) := by decide +kernel
theorem dX5_hasRest_8 : decode cX5_hasRest 8 = .ok (.istore 4, 2) := by decide +kernel
theorem dX5_hasRest_10 : decode cX5_hasRest 10 = .ok (.iload 4, 2) := by decide +kernel
theorem dX5_hasRest_12 : decode cX5_hasRest 12 = .ok (.iconst (-1), 1) := by decide +kernel
theorem dX5_hasRest_13 : decode cX5_hasRest 13 = .ok (.if_icmp .eq 22, 3) := by decide +kernel
theorem dX5_hasRest_16 : decode cX5_hasRest 16 = .ok (.aload_n 0, 1) := by decide +kernel
theorem dX5_hasRest_17 : decode cX5_hasRest 17 = .ok (.iload 4, 2) := by decide +kernel
theorem dX5_hasRest_19 : decode cX5_hasRest 19 = .ok (.iload_n 3, 1) := by decide +kernel
theorem dX5_hasRest_20 : decode cX5_hasRest 20 = .ok (.invokevirtual 311, 3) := by decide +kernel
theorem dX5_hasRest_23 : decode cX5_hasRest 23 = .ok (.aload_n 0, 1) := by decide +kernel
theorem dX5_hasRest_24 : decode cX5_hasRest 24 = .ok (.getfield 19, 3) := by decide +kernel
theorem dX5_hasRest_27 : decode cX5_hasRest 27 = .ok (.getfield 130, 3) := by decide +kernel
theorem dX5_hasRest_30 : decode cX5_hasRest 30 = .ok (.if_icmp .ge 5, 3) := by decide +kernel
theorem dX5_hasRest_33 : decode cX5_hasRest 33 = .ok (.iconst 0, 1) := by decide +kernel
theorem dX5_hasRest_34 : decode cX5_hasRest 34 = .ok (.ireturn, 1) := by decide +kernel
theorem dX5_hasRest_35 : decode cX5_hasRest 35 = .ok (.aload_n 0, 1) := by decide +kernel
theorem dX5_hasRest_36 : decode cX5_hasRest 36 = .ok (.iload_n 1, 1) := by decide +kernel
theorem dX5_hasRest_37 : decode cX5_hasRest 37 = .ok (.iload_n 2, 1) := by decide +kernel
theorem dX5_hasRest_38 : decode cX5_hasRest 38 = .ok (.iconst 1, 1) := by decide +kernel
theorem dX5_hasRest_39 : decode cX5_hasRest 39 = .ok (.iadd, 1) := by decide +kernel
theorem dX5_hasRest_40 : decode cX5_hasRest 40 = .ok (.invokevirtual 288, 3) := by decide +kernel
theorem dX5_hasRest_43 : decode cX5_hasRest 43 = .ok (.istore 5, 2) := by decide +kernel
theorem dX5_hasRest_45 : decode cX5_hasRest 45 = .ok (.iload 5, 2) := by decide +kernel
theorem dX5_hasRest_47 : decode cX5_hasRest 47 = .ok (.iconst (-1), 1) := by decide +kernel
theorem dX5_hasRest_48 : decode cX5_hasRest 48 = .ok (.if_icmp .eq 20, 3) := by decide +kernel
theorem dX5_hasRest_51 : decode cX5_hasRest 51 = .ok (.aload_n 0, 1) := by decide +kernel
theorem dX5_hasRest_52 : decode cX5_hasRest 52 = .ok (.iload_n 3, 1) := by decide +kernel
theorem dX5_hasRest_53 : decode cX5_hasRest 53 = .ok (.iload 5, 2) := by decide +kernel
theorem dX5_hasRest_55 : decode cX5_hasRest 55 = .ok (.invokevirtual 311, 3) := by decide +kernel
theorem dX5_hasRest_58 : decode cX5_hasRest 58 = .ok (.aload_n 0, 1) := by decide +kernel
theorem dX5_hasRest_59 : decode cX5_hasRest 59 = .ok (.getfield 19, 3) := by decide +kernel
theorem dX5_hasRest_62 : decode cX5_hasRest 62 = .ok (.getfield 130, 3) := by decide +kernel
theorem dX5_hasRest_65 : decode cX5_hasRest 65 = .ok (.if_icmp .lt 7, 3) := by decide +kernel
theorem dX5_hasRest_68 : decode cX5_hasRest 68 = .ok (.iconst 1, 1) := by decide +kernel
theorem dX5_hasRest_69 : decode cX5_hasRest 69 = .ok (.goto 4, 3) := by decide +kernel
theorem dX5_hasRest_72 : decode cX5_hasRest 72 = .ok (.iconst 0, 1) := by decide +kernel
theorem dX5_hasRest_73 : decode cX5_hasRest 73 = .ok (.ireturn, 1) := by decide +kernel
theorem dX5_restBetween_0 : decode cX5_restBetween 0 = .ok (.aload_n 0, 1) := by decide +kernel
theorem dX5_restBetween_1 : decode cX5_restBetween 1 = .ok (.iload_n 2, 1) := by decide +kernel
theorem dX5_restBetween_2 : decode cX5_restBetween 2 = .ok (.invokevirtual 164, 3) := by decide +kernel
theorem dX5_restBetween_5 : decode cX5_restBetween 5 = .ok (.getfield 298, 3) := by decide +kernel
theorem dX5_restBetween_8 : decode cX5_restBetween 8 = .ok (.sipush 1440, 3) := by decide +kernel
theorem dX5_restBetween_11 : decode cX5_restBetween 11 = .ok (.iadd, 1) := by decide +kernel
theorem dX5_restBetween_12 : decode cX5_restBetween 12 = .ok (.aload_n 0, 1) := by decide +kernel
theorem dX5_restBetween_13 : decode cX5_restBetween 13 = .ok (.iload_n 1, 1) := by decide +kernel
theorem dX5_restBetween_14 : decode cX5_restBetween 14 = .ok (.invokevirtual 164, 3) := by decide +kernel
theorem dX5_restBetween_17 : decode cX5_restBetween 17 = .ok (.getfield 327, 3) := by decide +kernel
theorem dX5_restBetween_20 : decode cX5_restBetween 20 = .ok (.isub, 1) := by decide +kernel
theorem dX5_restBetween_21 : decode cX5_restBetween 21 = .ok (.ireturn, 1) := by decide +kernel
theorem dX5_fillWith_0 : decode cX5_fillWith 0 = .ok (.aload_n 0, 1) := by decide +kernel
theorem dX5_fillWith_1 : decode cX5_fillWith 1 = .ok (.iload_n 2, 1) := by decide +kernel
theorem dX5_fillWith_2 : decode cX5_fillWith 2 = .ok (.iload_n 1, 1) := by decide +kernel
theorem dX5_fillWith_3 : decode cX5_fillWith 3 = .ok (.invokevirtual 374, 3) := by decide +kernel
theorem dX5_fillWith_6 : decode cX5_fillWith 6 = .ok (.istore_n 3, 1) := by decide +kernel
theorem dX5_fillWith_7 : decode cX5_fillWith 7 = .ok (.iload_n 3, 1) := by decide +kernel
theorem dX5_fillWith_8 : decode cX5_fillWith 8 = .ok (.iconst (-1), 1) := by decide +kernel
theorem dX5_fillWith_9 : decode cX5_fillWith 9 = .ok (.if_icmp .eq 10, 3) := by decide +kernel
theorem dX5_fillWith_12 : decode cX5_fillWith 12 = .ok (.aload_n 0, 1) := by decide +kernel
theorem dX5_fillWith_13 : decode cX5_fillWith 13 = .ok (.iload_n 3, 1) := by decide +kernel
theorem dX5_fillWith_14 : decode cX5_fillWith 14 = .ok (.iload_n 2, 1) := by decide +kernel
theorem dX5_fillWith_15 : decode cX5_fillWith 15 = .ok (.iload_n 1, 1) := by decide +kernel
theorem dX5_fillWith_16 : decode cX5_fillWith 16 = .ok (.invokevirtual 280, 3) := by decide +kernel
theorem dX5_fillWith_19 : decode cX5_fillWith 19 = .ok (.return_, 1) := by decide +kernel
theorem dX5_cheapestDriver_0 : decode cX5_cheapestDriver 0 = .ok (.iconst (-1), 1) := by decide +kernel
theorem dX5_cheapestDriver_1 : decode cX5_cheapestDriver 1 = .ok (.istore_n 3, 1) := by decide +kernel
theorem dX5_cheapestDriver_2 : decode cX5_cheapestDriver 2 = .ok (.iconst 0, 1) := by decide +kernel
theorem dX5_cheapestDriver_3 : decode cX5_cheapestDriver 3 = .ok (.istore 4, 2) := by decide +kernel
theorem dX5_cheapestDriver_5 : decode cX5_cheapestDriver 5 = .ok (.iconst 0, 1) := by decide +kernel
theorem dX5_cheapestDriver_6 : decode cX5_cheapestDriver 6 = .ok (.istore 5, 2) := by decide +kernel
theorem dX5_cheapestDriver_8 : decode cX5_cheapestDriver 8 = .ok (.iload 5, 2) := by decide +kernel
theorem dX5_cheapestDriver_10 : decode cX5_cheapestDriver 10 = .ok (.aload_n 0, 1) := by decide +kernel
theorem dX5_cheapestDriver_11 : decode cX5_cheapestDriver 11 = .ok (.getfield 140, 3) := by decide +kernel
theorem dX5_cheapestDriver_14 : decode cX5_cheapestDriver 14 = .ok (.if_icmp .ge 47, 3) := by decide +kernel
theorem dX5_cheapestDriver_17 : decode cX5_cheapestDriver 17 = .ok (.aload_n 0, 1) := by decide +kernel
theorem dX5_cheapestDriver_18 : decode cX5_cheapestDriver 18 = .ok (.iload 5, 2) := by decide +kernel
theorem dX5_cheapestDriver_20 : decode cX5_cheapestDriver 20 = .ok (.iload_n 1, 1) := by decide +kernel
theorem dX5_cheapestDriver_21 : decode cX5_cheapestDriver 21 = .ok (.iload_n 2, 1) := by decide +kernel
theorem dX5_cheapestDriver_22 : decode cX5_cheapestDriver 22 = .ok (.invokevirtual 274, 3) := by decide +kernel
theorem dX5_cheapestDriver_25 : decode cX5_cheapestDriver 25 = .ok (.ifCond .ne 30, 3) := by decide +kernel
theorem dX5_cheapestDriver_28 : decode cX5_cheapestDriver 28 = .ok (.aload_n 0, 1) := by decide +kernel
theorem dX5_cheapestDriver_29 : decode cX5_cheapestDriver 29 = .ok (.iload 5, 2) := by decide +kernel
theorem dX5_cheapestDriver_31 : decode cX5_cheapestDriver 31 = .ok (.invokevirtual 283, 3) := by decide +kernel
theorem dX5_cheapestDriver_34 : decode cX5_cheapestDriver 34 = .ok (.istore 6, 2) := by decide +kernel
theorem dX5_cheapestDriver_36 : decode cX5_cheapestDriver 36 = .ok (.iload_n 3, 1) := by decide +kernel
theorem dX5_cheapestDriver_37 : decode cX5_cheapestDriver 37 = .ok (.iconst (-1), 1) := by decide +kernel
theorem dX5_cheapestDriver_38 : decode cX5_cheapestDriver 38 = .ok (.if_icmp .eq 10, 3) := by decide +kernel
theorem dX5_cheapestDriver_41 : decode cX5_cheapestDriver 41 = .ok (.iload 6, 2) := by decide +kernel
theorem dX5_cheapestDriver_43 : decode cX5_cheapestDriver 43 = .ok (.iload 4, 2) := by decide +kernel
theorem dX5_cheapestDriver_45 : decode cX5_cheapestDriver 45 = .ok (.if_icmp .ge 10, 3) := by decide +kernel
theorem dX5_cheapestDriver_48 : decode cX5_cheapestDriver 48 = .ok (.iload 5, 2) := by decide +kernel
theorem dX5_cheapestDriver_50 : decode cX5_cheapestDriver 50 = .ok (.istore_n 3, 1) := by decide +kernel
theorem dX5_cheapestDriver_51 : decode cX5_cheapestDriver 51 = .ok (.iload 6, 2) := by decide +kernel
theorem dX5_cheapestDriver_53 : decode cX5_cheapestDriver 53 = .ok (.istore 4, 2) := by decide +kernel
theorem dX5_cheapestDriver_55 : decode cX5_cheapestDriver 55 = .ok (.iinc 5 1, 3) := by decide +kernel
theorem dX5_cheapestDriver_58 : decode cX5_cheapestDriver 58 = .ok (.goto (-50), 3) := by decide +kernel
theorem dX5_cheapestDriver_61 : decode cX5_cheapestDriver 61 = .ok (.iload_n 3, 1) := by decide +kernel
theorem dX5_cheapestDriver_62 : decode cX5_cheapestDriver 62 = .ok (.ireturn, 1) := by decide +kernel
end
section
theorem dX6_init_0 : decode cX6_init 0 = .ok (.aload_n 0, 1) := by decide +kernel
theorem dX6_init_1 : decode cX6_init 1 = .ok (.invokespecial 1, 3) := by decide +kernel
theorem dX6_init_4 : decode cX6_init 4 = .ok (.aload_n 0, 1) := by decide +kernel
theorem dX6_init_5 : decode cX6_init 5 = .ok (.bipush 36, 2) := by decide +kernel
theorem dX6_init_7 : decode cX6_init 7 = .ok (.newarray .int, 2) := by decide +kernel
theorem dX6_init_9 : decode cX6_init 9 = .ok (.putfield 9, 3) := by decide +kernel
theorem dX6_init_12 : decode cX6_init 12 = .ok (.aload_n 0, 1) := by decide +kernel
theorem dX6_init_13 : decode cX6_init 13 = .ok (.bipush 40, 2) := by decide +kernel
theorem dX6_init_15 : decode cX6_init 15 = .ok (.newarray .int, 2) := by decide +kernel
theorem dX6_init_17 : decode cX6_init 17 = .ok (.putfield 13, 3) := by decide +kernel
theorem dX6_init_20 : decode cX6_init 20 = .ok (.aload_n 0, 1) := by decide +kernel
theorem dX6_init_21 : decode cX6_init 21 = .ok (.bipush 40, 2) := by decide +kernel
theorem dX6_init_23 : decode cX6_init 23 = .ok (.newarray .int, 2) := by decide +kernel
theorem dX6_init_25 : decode cX6_init 25 = .ok (.putfield 16, 3) := by decide +kernel
theorem dX6_init_28 : decode cX6_init 28 = .ok (.aload_n 0, 1) := by decide +kernel
theorem dX6_init_29 : decode cX6_init 29 = .ok (.bipush 40, 2) := by decide +kernel
theorem dX6_init_31 : decode cX6_init 31 = .ok (.newarray .int, 2) := by decide +kernel
theorem dX6_init_33 : decode cX6_init 33 = .ok (.putfield 19, 3) := by decide +kernel
theorem dX6_init_36 : decode cX6_init 36 = .ok (.aload_n 0, 1) := by decide +kernel
theorem dX6_init_37 : decode cX6_init 37 = .ok (.bipush 40, 2) := by decide +kernel
theorem dX6_init_39 : decode cX6_init 39 = .ok (.newarray .int, 2) := by decide +kernel
theorem dX6_init_41 : decode cX6_init 41 = .ok (.putfield 22, 3) := by decide +kernel
theorem dX6_init_44 : decode cX6_init 44 = .ok (.aload_n 0, 1) := by decide +kernel
theorem dX6_init_45 : decode cX6_init 45 = .ok (.bipush 40, 2) := by decide +kernel
theorem dX6_init_47 : decode cX6_init 47 = .ok (.newarray .int, 2) := by decide +kernel
theorem dX6_init_49 : decode cX6_init 49 = .ok (.putfield 25, 3) := by decide +kernel
theorem dX6_init_52 : decode cX6_init 52 = .ok (.aload_n 0, 1) := by decide +kernel
theorem dX6_init_53 : decode cX6_init 53 = .ok (.bipush 56, 2) := by decide +kernel
theorem dX6_init_55 : decode cX6_init 55 = .ok (.newarray .int, 2) := by decide +kernel
theorem dX6_init_57 : decode cX6_init 57 = .ok (.putfield 28, 3) := by decide +kernel
theorem dX6_init_60 : decode cX6_init 60 = .ok (.aload_n 0, 1) := by decide +kernel
theorem dX6_init_61 : decode cX6_init 61 = .ok (.sipush 270, 3) := by decide +kernel
theorem dX6_init_64 : decode cX6_init 64 = .ok (.putfield 31, 3) := by decide +kernel
theorem dX6_init_67 : decode cX6_init 67 = .ok (.aload_n 0, 1) := by decide +kernel
theorem dX6_init_68 : decode cX6_init 68 = .ok (.sipush 720, 3) := by decide +kernel
theorem dX6_init_71 : decode cX6_init 71 = .ok (.putfield 35, 3) := by decide +kernel
theorem dX6_init_74 : decode cX6_init 74 = .ok (.aload_n 0, 1) := by decide +kernel
theorem dX6_init_75 : decode cX6_init 75 = .ok (.bipush 30, 2) := by decide +kernel
theorem dX6_init_77 : decode cX6_init 77 = .ok (.putfield 38, 3) := by decide +kernel
theorem dX6_init_80 : decode cX6_init 80 = .ok (.aload_n 0, 1) := by decide +kernel
theorem dX6_init_81 : decode cX6_init 81 = .ok (.sipush 660, 3) := by decide +kernel
theorem dX6_init_84 : decode cX6_init 84 = .ok (.putfield 41, 3) := by decide +kernel
theorem dX6_init_87 : decode cX6_init 87 = .ok (.aload_n 0, 1) := by decide +kernel
theorem dX6_init_88 : decode cX6_init 88 = .ok (.bipush 40, 2) := by decide +kernel
theorem dX6_init_90 : decode cX6_init 90 = .ok (.newarray .int, 2) := by decide +kernel
theorem dX6_init_92 : decode cX6_init 92 = .ok (.putfield 44, 3) := by decide +kernel
theorem dX6_init_95 : decode cX6_init 95 = .ok (.iconst 0, 1) := by decide +kernel
theorem dX6_init_96 : decode cX6_init 96 = .ok (.istore_n 1, 1) := by decide +kernel
theorem dX6_init_97 : decode cX6_init 97 = .ok (.iload_n 1, 1) := by decide +kernel
theorem dX6_init_98 : decode cX6_init 98 = .ok (.bipush 36, 2) := by decide +kernel
theorem dX6_init_100 : decode cX6_init 100 = .ok (.if_icmp .ge 32, 3) := by decide +kernel
theorem dX6_init_103 : decode cX6_init 103 = .ok (.aload_n 0, 1) := by decide +kernel
theorem dX6_init_104 : decode cX6_init 104 = .ok (.getfield 9, 3) := by decide +kernel
theorem dX6_init_107 : decode cX6_init 107 = .ok (.iload_n 1, 1) := by decide +kernel
theorem dX6_init_108 : decode cX6_init 108 = .ok (.iload_n 1, 1) := by decide +kernel
theorem dX6_init_109 : decode cX6_init 109 = .ok (.bipush 6, 2) := by decide +kernel
theorem dX6_init_111 : decode cX6_init 111 = .ok (.idiv, 1) := by decide +kernel
theorem dX6_init_112 : decode cX6_init 112 = .ok (.iload_n 1, 1) := by decide +kernel
theorem dX6_init_113 : decode cX6_init 113 = .ok (.bipush 6, 2) := by decide +kernel
theorem dX6_init_115 : decode cX6_init 115 = .ok (.irem, 1) := by decide +kernel
theorem dX6_init_116 : decode cX6_init 116 = .ok (.if_icmp .ne 7, 3) := by decide +kernel
theorem dX6_init_119 : decode cX6_init 119 = .ok (.iconst 0, 1) := by decide +kernel
theorem dX6_init_120 : decode cX6_init 120 = .ok (.goto 5, 3) := by decide +kernel
theorem dX6_init_123 : decode cX6_init 123 = .ok (.bipush 15, 2) := by decide +kernel
theorem dX6_init_125 : decode cX6_init 125 = .ok (.iastore, 1) := by decide +kernel
theorem dX6_init_126 : decode cX6_init 126 = .ok (.iinc 1 1, 3) := by decide +kernel
theorem dX6_init_129 : decode cX6_init 129 = .ok (.goto (-32), 3) := by decide +kernel
theorem dX6_init_132 : decode cX6_init 132 = .ok (.iconst 0, 1) := by decide +kernel
theorem dX6_init_133 : decode cX6_init 133 = .ok (.istore_n 1, 1) := by decide +kernel
theorem dX6_init_134 : decode cX6_init 134 = .ok (.iload_n 1, 1) := by decide +kernel
theorem dX6_init_135 : decode cX6_init 135 = .ok (.bipush 56, 2) := by decide +kernel
theorem dX6_init_137 : decode cX6_init 137 = .ok (.if_icmp .ge 16, 3) := by decide +kernel
theorem dX6_init_140 : decode cX6_init 140 = .ok (.aload_n 0, 1) := by decide +kernel
theorem dX6_init_141 : decode cX6_init 141 = .ok (.getfield 28, 3) := by decide +kernel
theorem dX6_init_144 : decode cX6_init 144 = .ok (.iload_n 1, 1) := by decide +kernel
theorem dX6_init_145 : decode cX6_init 145 = .ok (.iconst (-1), 1) := by decide +kernel
theorem dX6_init_146 : decode cX6_init 146 = .ok (.iastore, 1) := by decide +kernel
theorem dX6_init_147 : decode cX6_init 147 = .ok (.iinc 1 1, 3) := by decide +kernel
theorem dX6_init_150 : decode cX6_init 150 = .ok (.goto (-16), 3) := by decide +kernel
theorem dX6_init_153 : decode cX6_init 153 = .ok (.return_, 1) := by decide +kernel
theorem dX6_thrown_0 : decode cX6_thrown 0 = .ok (.aload_n 0, 1) := by decide +kernel
theorem dX6_thrown_1 : decode cX6_thrown 1 = .ok (.getfield 47, 3) := by decide +kernel
theorem dX6_thrown_4 : decode cX6_thrown 4 = .ok (.ireturn, 1) := by decide +kernel
theorem dX6_no_0 : decode cX6_no 0 = .ok (.aload_n 0, 1) := by decide +kernel
theorem dX6_no_1 : decode cX6_no 1 = .ok (.iload_n 1, 1) := by decide +kernel
theorem dX6_no_2 : decode cX6_no 2 = .ok (.putfield 47, 3) := by decide +kernel
theorem dX6_no_5 : decode cX6_no 5 = .ok (.iconst 0, 1) := by decide +kernel
theorem dX6_no_6 : decode cX6_no 6 = .ok (.ireturn, 1) := by decide +kernel
theorem dX6_isIn_0 : decode cX6_isIn 0 = .ok (.iload_n 0, 1) := by decide +kernel
theorem dX6_isIn_1 : decode cX6_isIn 1 = .ok (.iload_n 1, 1) := by decide +kernel
theorem dX6_isIn_2 : decode cX6_isIn 2 = .ok (.if_icmp .lt 12, 3) := by decide +kernel
theorem dX6_isIn_5 : decode cX6_isIn 5 = .ok (.iload_n 0, 1) := by decide +kernel
theorem dX6_isIn_6 : decode cX6_isIn 6 = .ok (.iload_n 2, 1) := by decide +kernel
theorem dX6_isIn_7 : decode cX6_isIn 7 = .ok (.if_icmp .gt 7, 3) := by decide +kernel
theorem dX6_isIn_10 : decode cX6_isIn 10 = .ok (.iconst 1, 1) := by decide +kernel
theorem dX6_isIn_11 : decode cX6_isIn 11 = .ok (.goto 4, 3) := by decide +kernel
theorem dX6_isIn_14 : decode cX6_isIn 14 = .ok (.iconst 0, 1) := by decide +kernel
theorem dX6_isIn_15 : decode cX6_isIn 15 = .ok (.ireturn, 1) := by decide +kernel
theorem dX6_isTrip_0 : decode cX6_isTrip 0 = .ok (.iload_n 1, 1) := by decide +kernel
theorem dX6_isTrip_1 : decode cX6_isTrip 1 = .ok (.iconst 0, 1) := by decide +kernel
theorem dX6_isTrip_2 : decode cX6_isTrip 2 = .ok (.aload_n 0, 1) := by decide +kernel
theorem dX6_isTrip_3 : decode cX6_isTrip 3 = .ok (.getfield 50, 3) := by decide +kernel
theorem dX6_isTrip_6 : decode cX6_isTrip 6 = .ok (.iconst 1, 1) := by decide +kernel
theorem dX6_isTrip_7 : decode cX6_isTrip 7 = .ok (.isub, 1) := by decide +kernel
theorem dX6_isTrip_8 : decode cX6_isTrip 8 = .ok (.invokestatic 53, 3) := by decide +kernel
theorem dX6_isTrip_11 : decode cX6_isTrip 11 = .ok (.ireturn, 1) := by decide +kernel
theorem dX6_isDuty_0 : decode cX6_isDuty 0 = .ok (.iload_n 1, 1) := by decide +kernel
theorem dX6_isDuty_1 : decode cX6_isDuty 1 = .ok (.iconst 0, 1) := by decide +kernel
theorem dX6_isDuty_2 : decode cX6_isDuty 2 = .ok (.aload_n 0, 1) := by decide +kernel
theorem dX6_isDuty_3 : decode cX6_isDuty 3 = .ok (.getfield 57, 3) := by decide +kernel
theorem dX6_isDuty_6 : decode cX6_isDuty 6 = .ok (.iconst 1, 1) := by decide +kernel
theorem dX6_isDuty_7 : decode cX6_isDuty 7 = .ok (.isub, 1) := by decide +kernel
theorem dX6_isDuty_8 : decode cX6_isDuty 8 = .ok (.invokestatic 53, 3) := by decide +kernel
theorem dX6_isDuty_11 : decode cX6_isDuty 11 = .ok (.ireturn, 1) := by decide +kernel
theorem dX6_isPoint_0 : decode cX6_isPoint 0 = .ok (.iload_n 0, 1) := by decide +kernel
theorem dX6_isPoint_1 : decode cX6_isPoint 1 = .ok (.iconst 0, 1) := by decide +kernel
theorem dX6_isPoint_2 : decode cX6_isPoint 2 = .ok (.iconst 5, 1) := by decide +kernel
theorem dX6_isPoint_3 : decode cX6_isPoint 3 = .ok (.invokestatic 53, 3) := by decide +kernel
theorem dX6_isPoint_6 : decode cX6_isPoint 6 = .ok (.ireturn, 1) := by decide +kernel
theorem dX6_setWay_0 : decode cX6_setWay 0 = .ok (.aload_n 0, 1) := by decide +kernel
theorem dX6_setWay_1 : decode cX6_setWay 1 = .ok (.iconst 0, 1) := by decide +kernel
theorem dX6_setWay_2 : decode cX6_setWay 2 = .ok (.putfield 47, 3) := by decide +kernel
theorem dX6_setWay_5 : decode cX6_setWay 5 = .ok (.iload_n 1, 1) := by decide +kernel
theorem dX6_setWay_6 : decode cX6_setWay 6 = .ok (.invokestatic 60, 3) := by decide +kernel
theorem dX6_setWay_9 : decode cX6_setWay 9 = .ok (.ifCond .eq 10, 3) := by decide +kernel
theorem dX6_setWay_12 : decode cX6_setWay 12 = .ok (.iload_n 2, 1) := by decide +kernel
theorem dX6_setWay_13 : decode cX6_setWay 13 = .ok (.invokestatic 60, 3) := by decide +kernel
theorem dX6_setWay_16 : decode cX6_setWay 16 = .ok (.ifCond .ne 9, 3) := by decide +kernel
theorem dX6_setWay_19 : decode cX6_setWay 19 = .ok (.aload_n 0, 1) := by decide +kernel
theorem dX6_setWay_20 : decode cX6_setWay 20 = .ok (.iconst 1, 1) := by decide +kernel
theorem dX6_setWay_21 : decode cX6_setWay 21 = .ok (.invokevirtual 64, 3) := by decide +kernel
theorem dX6_setWay_24 : decode cX6_setWay 24 = .ok (.ireturn, 1) := by decide +kernel
theorem dX6_setWay_25 : decode cX6_setWay 25 = .ok (.iload_n 1, 1) := by decide +kernel
theorem dX6_setWay_26 : decode cX6_setWay 26 = .ok (.iload_n 2, 1) := by decide +kernel
theorem dX6_setWay_27 : decode cX6_setWay 27 = .ok (.if_icmp .eq 13, 3) := by decide +kernel
theorem dX6_setWay_30 : decode cX6_setWay 30 = .ok (.iload_n 3, 1) := by decide +kernel
theorem dX6_setWay_31 : decode cX6_setWay 31 = .ok (.iconst 1, 1) := by decide +kernel
theorem dX6_setWay_32 : decode cX6_setWay 32 = .ok (.bipush 90, 2) := by decide +kernel
theorem dX6_setWay_34 : decode cX6_setWay 34 = .ok (.invokestatic 53, 3) := by decide +kernel
theorem dX6_setWay_37 : decode cX6_setWay 37 = .ok (.ifCond .ne 9, 3) := by decide +kernel
theorem dX6_setWay_40 : decode cX6_setWay 40 = .ok (.aload_n 0, 1) := by decide +kernel
theorem dX6_setWay_41 : decode cX6_setWay 41 = .ok (.iconst 2, 1) := by decide +kernel
theorem dX6_setWay_42 : decode cX6_setWay 42 = .ok (.invokevirtual 64, 3) := by decide +kernel
theorem dX6_setWay_45 : decode cX6_setWay 45 = .ok (.ireturn, 1) := by decide +kernel
theorem dX6_setWay_46 : decode cX6_setWay 46 = .ok (.aload_n 0, 1) := by decide +kernel
theorem dX6_setWay_47 : decode cX6_setWay 47 = .ok (.getfield 9, 3) := by decide +kernel
theorem dX6_setWay_50 : decode cX6_setWay 50 = .ok (.bipush 6, 2) := by decide +kernel
theorem dX6_setWay_52 : decode cX6_setWay 52 = .ok (.iload_n 1, 1) := by decide +kernel
theorem dX6_setWay_53 : decode cX6_setWay 53 = .ok (.imul, 1) := by decide +kernel
theorem dX6_setWay_54 : decode cX6_setWay 54 = .ok (.iload_n 2, 1) := by decide +kernel
theorem dX6_setWay_55 : decode cX6_setWay 55 = .ok (.iadd, 1) := by decide +kernel
theorem dX6_setWay_56 : decode cX6_setWay 56 = .ok (.iaload, 1) := by decide +kernel
theorem dX6_setWay_57 : decode cX6_setWay 57 = .ok (.istore 4, 2) := by decide +kernel
theorem dX6_setWay_59 : decode cX6_setWay 59 = .ok (.aload_n 0, 1) := by decide +kernel
theorem dX6_setWay_60 : decode cX6_setWay 60 = .ok (.getfield 9, 3) := by decide +kernel
theorem dX6_setWay_63 : decode cX6_setWay 63 = .ok (.bipush 6, 2) := by decide +kernel
theorem dX6_setWay_65 : decode cX6_setWay 65 = .ok (.iload_n 1, 1) := by decide +kernel
theorem dX6_setWay_66 : decode cX6_setWay 66 = .ok (.imul, 1) := by decide +kernel
theorem dX6_setWay_67 : decode cX6_setWay 67 = .ok (.iload_n 2, 1) := by decide +kernel
theorem dX6_setWay_68 : decode cX6_setWay 68 = .ok (.iadd, 1) := by decide +kernel
theorem dX6_setWay_69 : decode cX6_setWay 69 = .ok (.iload_n 3, 1) := by decide +kernel
theorem dX6_setWay_70 : decode cX6_setWay 70 = .ok (.iastore, 1) := by decide +kernel
theorem dX6_setWay_71 : decode cX6_setWay 71 = .ok (.aload_n 0, 1) := by decide +kernel
theorem dX6_setWay_72 : decode cX6_setWay 72 = .ok (.getfield 9, 3) := by decide +kernel
theorem dX6_setWay_75 : decode cX6_setWay 75 = .ok (.bipush 6, 2) := by decide +kernel
theorem dX6_setWay_77 : decode cX6_setWay 77 = .ok (.iload_n 2, 1) := by decide +kernel
theorem dX6_setWay_78 : decode cX6_setWay 78 = .ok (.imul, 1) := by decide +kernel
theorem dX6_setWay_79 : decode cX6_setWay 79 = .ok (.iload_n 1, 1) := by decide +kernel
theorem dX6_setWay_80 : decode cX6_setWay 80 = .ok (.iadd, 1) := by decide +kernel
theorem dX6_setWay_81 : decode cX6_setWay 81 = .ok (.iload_n 3, 1) := by decide +kernel
theorem dX6_setWay_82 : decode cX6_setWay 82 = .ok (.iastore, 1) := by decide +kernel
theorem dX6_setWay_83 : decode cX6_setWay 83 = .ok (.iload 4, 2) := by decide +kernel
theorem dX6_setWay_85 : decode cX6_setWay 85 = .ok (.ireturn, 1) := by decide +kernel
theorem dX6_addTrip_0 : decode cX6_addTrip 0 = .ok (.aload_n 0, 1) := by decide +kernel
theorem dX6_addTrip_1 : decode cX6_addTrip 1 = .ok (.iconst 0, 1) := by decide +kernel
theorem dX6_addTrip_2 : decode cX6_addTrip 2 = .ok (.putfield 47, 3) := by decide +kernel
theorem dX6_addTrip_5 : decode cX6_addTrip 5 = .ok (.iload_n 1, 1) := by decide +kernel
theorem dX6_addTrip_6 : decode cX6_addTrip 6 = .ok (.invokestatic 60, 3) := by decide +kernel
theorem dX6_addTrip_9 : decode cX6_addTrip 9 = .ok (.ifCond .eq 10, 3) := by decide +kernel
theorem dX6_addTrip_12 : decode cX6_addTrip 12 = .ok (.iload_n 2, 1) := by decide +kernel
theorem dX6_addTrip_13 : decode cX6_addTrip 13 = .ok (.invokestatic 60, 3) := by decide +kernel
theorem dX6_addTrip_16 : decode cX6_addTrip 16 = .ok (.ifCond .ne 9, 3) := by decide +kernel
theorem dX6_addTrip_19 : decode cX6_addTrip 19 = .ok (.aload_n 0, 1) := by decide +kernel
theorem dX6_addTrip_20 : decode cX6_addTrip 20 = .ok (.iconst 1, 1) := by decide +kernel
theorem dX6_addTrip_21 : decode cX6_addTrip 21 = .ok (.invokevirtual 64, 3) := by decide +kernel
theorem dX6_addTrip_24 : decode cX6_addTrip 24 = .ok (.ireturn, 1) := by decide +kernel
theorem dX6_addTrip_25 : decode cX6_addTrip 25 = .ok (.iload_n 3, 1) := by decide +kernel
theorem dX6_addTrip_26 : decode cX6_addTrip 26 = .ok (.ifCond .lt 29, 3) := by decide +kernel
theorem dX6_addTrip_29 : decode cX6_addTrip 29 = .ok (.iload 4, 2) := by decide +kernel
theorem dX6_addTrip_31 : decode cX6_addTrip 31 = .ok (.iconst 0, 1) := by decide +kernel
theorem dX6_addTrip_32 : decode cX6_addTrip 32 = .ok (.sipush 1799, 3) := by decide +kernel
theorem dX6_addTrip_35 : decode cX6_addTrip 35 = .ok (.invokestatic 53, 3) := by decide +kernel
theorem dX6_addTrip_38 : decode cX6_addTrip 38 = .ok (.ifCond .eq 17, 3) := by decide +kernel
theorem dX6_addTrip_41 : decode cX6_addTrip 41 = .ok (.iload 4, 2) := by decide +kernel
theorem dX6_addTrip_43 : decode cX6_addTrip 43 = .ok (.iload_n 3, 1) := by decide +kernel
theorem dX6_addTrip_44 : decode cX6_addTrip 44 = .ok (.isub, 1) := by decide +kernel
theorem dX6_addTrip_45 : decode cX6_addTrip 45 = .ok (.iconst 1, 1) := by decide +kernel
theorem dX6_addTrip_46 : decode cX6_addTrip 46 = .ok (.sipush 240, 3) := by decide +kernel
theorem dX6_addTrip_49 : decode cX6_addTrip 49 = .ok (.invokestatic 53, 3) := by decide +kernel
theorem dX6_addTrip_52 : decode cX6_addTrip 52 = .ok (.ifCond .ne 9, 3) := by decide +kernel
theorem dX6_addTrip_55 : decode cX6_addTrip 55 = .ok (.aload_n 0, 1) := by decide +kernel
theorem dX6_addTrip_56 : decode cX6_addTrip 56 = .ok (.iconst 2, 1) := by decide +kernel
theorem dX6_addTrip_57 : decode cX6_addTrip 57 = .ok (.invokevirtual 64, 3) := by decide +kernel
theorem dX6_addTrip_60 : decode cX6_addTrip 60 = .ok (.ireturn, 1) := by decide +kernel
theorem dX6_addTrip_61 : decode cX6_addTrip 61 = .ok (.aload_n 0, 1) := by decide +kernel
theorem dX6_addTrip_62 : decode cX6_addTrip 62 = .ok (.getfield 50, 3) := by decide +kernel
theorem dX6_addTrip_65 : decode cX6_addTrip 65 = .ok (.bipush 40, 2) := by decide +kernel
theorem dX6_addTrip_67 : decode cX6_addTrip 67 = .ok (.if_icmp .ne 9, 3) := by decide +kernel
theorem dX6_addTrip_70 : decode cX6_addTrip 70 = .ok (.aload_n 0, 1) := by decide +kernel
theorem dX6_addTrip_71 : decode cX6_addTrip 71 = .ok (.iconst 3, 1) := by decide +kernel
theorem dX6_addTrip_72 : decode cX6_addTrip 72 = .ok (.invokevirtual 64, 3) := by decide +kernel
theorem dX6_addTrip_75 : decode cX6_addTrip 75 = .ok (.ireturn, 1) := by decide +kernel
theorem dX6_addTrip_76 : decode cX6_addTrip 76 = .ok (.aload_n 0, 1) := by decide +kernel
theorem dX6_addTrip_77 : decode cX6_addTrip 77 = .ok (.getfield 13, 3) := by decide +kernel
theorem dX6_addTrip_80 : decode cX6_addTrip 80 = .ok (.aload_n 0, 1) := by decide +kernel
theorem dX6_addTrip_81 : decode cX6_addTrip 81 = .ok (.getfield 50, 3) := by decide +kernel
theorem dX6_addTrip_84 : decode cX6_addTrip 84 = .ok (.iload_n 1, 1) := by decide +kernel
theorem dX6_addTrip_85 : decode cX6_addTrip 85 = .ok (.iastore, 1) := by decide +kernel
theorem dX6_addTrip_86 : decode cX6_addTrip 86 = .ok (.aload_n 0, 1) := by decide +kernel
theorem dX6_addTrip_87 : decode cX6_addTrip 87 = .ok (.getfield 16, 3) := by decide +kernel
theorem dX6_addTrip_90 : decode cX6_addTrip 90 = .ok (.aload_n 0, 1) := by decide +kernel
theorem dX6_addTrip_91 : decode cX6_addTrip 91 = .ok (.getfield 50, 3) := by decide +kernel
theorem dX6_addTrip_94 : decode cX6_addTrip 94 = .ok (.iload_n 2, 1) := by decide +kernel
theorem dX6_addTrip_95 : decode cX6_addTrip 95 = .ok (.iastore, 1) := by decide +kernel
theorem dX6_addTrip_96 : decode cX6_addTrip 96 = .ok (.aload_n 0, 1) := by decide +kernel
theorem dX6_addTrip_97 : decode cX6_addTrip 97 = .ok (.getfield 19, 3) := by decide +kernel
theorem dX6_addTrip_100 : decode cX6_addTrip 100 = .ok (.aload_n 0, 1) := by decide +kernel
theorem dX6_addTrip_101 : decode cX6_addTrip 101 = .ok (.getfield 50, 3) := by decide +kernel
theorem dX6_addTrip_104 : decode cX6_addTrip 104 = .ok (.iload_n 3, 1) := by decide +kernel
theorem dX6_addTrip_105 : decode cX6_addTrip 105 = .ok (.iastore, 1) := by decide +kernel
theorem dX6_addTrip_106 : decode cX6_addTrip 106 = .ok (.aload_n 0, 1) := by decide +kernel
theorem dX6_addTrip_107 : decode cX6_addTrip 107 = .ok (.getfield 22, 3) := by decide +kernel
theorem dX6_addTrip_110 : decode cX6_addTrip 110 = .ok (.aload_n 0, 1) := by decide +kernel
theorem dX6_addTrip_111 : decode cX6_addTrip 111 = .ok (.getfield 50, 3) := by decide +kernel
theorem dX6_addTrip_114 : decode cX6_addTrip 114 = .ok (.iload 4, 2) := by decide +kernel
theorem dX6_addTrip_116 : decode cX6_addTrip 116 = .ok (.iastore, 1) := by decide +kernel
theorem dX6_addTrip_117 : decode cX6_addTrip 117 = .ok (.aload_n 0, 1) := by decide +kernel
theorem dX6_addTrip_118 : decode cX6_addTrip 118 = .ok (.getfield 25, 3) := by decide +kernel
theorem dX6_addTrip_121 : decode cX6_addTrip 121 = .ok (.aload_n 0, 1) := by decide +kernel
theorem dX6_addTrip_122 : decode cX6_addTrip 122 = .ok (.getfield 50, 3) := by decide +kernel
theorem dX6_addTrip_125 : decode cX6_addTrip 125 = .ok (.iconst (-1), 1) := by decide +kernel
theorem dX6_addTrip_126 : decode cX6_addTrip 126 = .ok (.iastore, 1) := by decide +kernel
theorem dX6_addTrip_127 : decode cX6_addTrip 127 = .ok (.aload_n 0, 1) := by decide +kernel
theorem dX6_addTrip_128 : decode cX6_addTrip 128 = .ok (.dup, 1) := by decide +kernel
theorem dX6_addTrip_129 : decode cX6_addTrip 129 = .ok (.getfield 50, 3) := by decide +kernel
theorem dX6_addTrip_132 : decode cX6_addTrip 132 = .ok (.iconst 1, 1) := by decide +kernel
theorem dX6_addTrip_133 : decode cX6_addTrip 133 = .ok (.iadd, 1) := by decide +kernel
theorem dX6_addTrip_134 : decode cX6_addTrip 134 = .ok (.putfield 50, 3) := by decide +kernel
theorem dX6_addTrip_137 : decode cX6_addTrip 137 = .ok (.aload_n 0, 1) := by decide +kernel
theorem dX6_addTrip_138 : decode cX6_addTrip 138 = .ok (.getfield 50, 3) := by decide +kernel
theorem dX6_addTrip_141 : decode cX6_addTrip 141 = .ok (.iconst 1, 1) := by decide +kernel
theorem dX6_addTrip_142 : decode cX6_addTrip 142 = .ok (.isub, 1) := by decide +kernel
theorem dX6_addTrip_143 : decode cX6_addTrip 143 = .ok (.ireturn, 1) := by decide +kernel
theorem dX6_trip_0 : decode cX6_trip 0 = .ok (.aload_n 0, 1) := by decide +kernel
theorem dX6_trip_1 : decode cX6_trip 1 = .ok (.iconst 0, 1) := by decide +kernel
theorem dX6_trip_2 : decode cX6_trip 2 = .ok (.putfield 47, 3) := by decide +kernel
theorem dX6_trip_5 : decode cX6_trip 5 = .ok (.aload_n 0, 1) := by decide +kernel
theorem dX6_trip_6 : decode cX6_trip 6 = .ok (.iload_n 1, 1) := by decide +kernel
theorem dX6_trip_7 : decode cX6_trip 7 = .ok (.invokevirtual 68, 3) := by decide +kernel
theorem dX6_trip_10 : decode cX6_trip 10 = .ok (.ifCond .eq 12, 3) := by decide +kernel
theorem dX6_trip_13 : decode cX6_trip 13 = .ok (.iload_n 2, 1) := by decide +kernel
theorem dX6_trip_14 : decode cX6_trip 14 = .ok (.iconst 0, 1) := by decide +kernel
theorem dX6_trip_15 : decode cX6_trip 15 = .ok (.iconst 4, 1) := by decide +kernel
theorem dX6_trip_16 : decode cX6_trip 16 = .ok (.invokestatic 53, 3) := by decide +kernel
theorem dX6_trip_19 : decode cX6_trip 19 = .ok (.ifCond .ne 9, 3) := by decide +kernel
theorem dX6_trip_22 : decode cX6_trip 22 = .ok (.aload_n 0, 1) := by decide +kernel
theorem dX6_trip_23 : decode cX6_trip 23 = .ok (.iconst 1, 1) := by decide +kernel
theorem dX6_trip_24 : decode cX6_trip 24 = .ok (.invokevirtual 64, 3) := by decide +kernel
theorem dX6_trip_27 : decode cX6_trip 27 = .ok (.ireturn, 1) := by decide +kernel
theorem dX6_trip_28 : decode cX6_trip 28 = .ok (.iload_n 2, 1) := by decide +kernel
theorem dX6_trip_29 : decode cX6_trip 29 = .ok (.ifCond .ne 12, 3) := by decide +kernel
theorem dX6_trip_32 : decode cX6_trip 32 = .ok (.aload_n 0, 1) := by decide +kernel
theorem dX6_trip_33 : decode cX6_trip 33 = .ok (.getfield 13, 3) := by decide +kernel
theorem dX6_trip_36 : decode cX6_trip 36 = .ok (.iload_n 1, 1) := by decide +kernel
theorem dX6_trip_37 : decode cX6_trip 37 = .ok (.iaload, 1) := by decide +kernel
theorem dX6_trip_38 : decode cX6_trip 38 = .ok (.goto 51, 3) := by decide +kernel
theorem dX6_trip_41 : decode cX6_trip 41 = .ok (.iload_n 2, 1) := by decide +kernel
theorem dX6_trip_42 : decode cX6_trip 42 = .ok (.iconst 1, 1) := by decide +kernel
theorem dX6_trip_43 : decode cX6_trip 43 = .ok (.if_icmp .ne 12, 3) := by decide +kernel
theorem dX6_trip_46 : decode cX6_trip 46 = .ok (.aload_n 0, 1) := by decide +kernel
theorem dX6_trip_47 : decode cX6_trip 47 = .ok (.getfield 16, 3) := by decide +kernel
theorem dX6_trip_50 : decode cX6_trip 50 = .ok (.iload_n 1, 1) := by decide +kernel
theorem dX6_trip_51 : decode cX6_trip 51 = .ok (.iaload, 1) := by decide +kernel
theorem dX6_trip_52 : decode cX6_trip 52 = .ok (.goto 37, 3) := by decide +kernel
theorem dX6_trip_55 : decode cX6_trip 55 = .ok (.iload_n 2, 1) := by decide +kernel
theorem dX6_trip_56 : decode cX6_trip 56 = .ok (.iconst 2, 1) := by decide +kernel
theorem dX6_trip_57 : decode cX6_trip 57 = .ok (.if_icmp .ne 12, 3) := by decide +kernel
theorem dX6_trip_60 : decode cX6_trip 60 = .ok (.aload_n 0, 1) := by decide +kernel
theorem dX6_trip_61 : decode cX6_trip 61 = .ok (.getfield 19, 3) := by decide +kernel
theorem dX6_trip_64 : decode cX6_trip 64 = .ok (.iload_n 1, 1) := by decide +kernel
theorem dX6_trip_65 : decode cX6_trip 65 = .ok (.iaload, 1) := by decide +kernel
theorem dX6_trip_66 : decode cX6_trip 66 = .ok (.goto 23, 3) := by decide +kernel
theorem dX6_trip_69 : decode cX6_trip 69 = .ok (.iload_n 2, 1) := by decide +kernel
theorem dX6_trip_70 : decode cX6_trip 70 = .ok (.iconst 3, 1) := by decide +kernel
theorem dX6_trip_71 : decode cX6_trip 71 = .ok (.if_icmp .ne 12, 3) := by decide +kernel
theorem dX6_trip_74 : decode cX6_trip 74 = .ok (.aload_n 0, 1) := by decide +kernel
theorem dX6_trip_75 : decode cX6_trip 75 = .ok (.getfield 22, 3) := by decide +kernel
theorem dX6_trip_78 : decode cX6_trip 78 = .ok (.iload_n 1, 1) := by decide +kernel
theorem dX6_trip_79 : decode cX6_trip 79 = .ok (.iaload, 1) := by decide +kernel
theorem dX6_trip_80 : decode cX6_trip 80 = .ok (.goto 9, 3) := by decide +kernel
theorem dX6_trip_83 : decode cX6_trip 83 = .ok (.aload_n 0, 1) := by decide +kernel
theorem dX6_trip_84 : decode cX6_trip 84 = .ok (.getfield 25, 3) := by decide +kernel
theorem dX6_trip_87 : decode cX6_trip 87 = .ok (.iload_n 1, 1) := by decide +kernel
theorem dX6_trip_88 : decode cX6_trip 88 = .ok (.iaload, 1) := by decide +kernel
theorem dX6_trip_89 : decode cX6_trip 89 = .ok (.ireturn, 1) := by decide +kernel
theorem dX6_setRules_0 : decode cX6_setRules 0 = .ok (.aload_n 0, 1) := by decide +kernel
theorem dX6_setRules_1 : decode cX6_setRules 1 = .ok (.iconst 0, 1) := by decide +kernel
theorem dX6_setRules_2 : decode cX6_setRules 2 = .ok (.putfield 47, 3) := by decide +kernel
theorem dX6_setRules_5 : decode cX6_setRules 5 = .ok (.iload_n 1, 1) := by decide +kernel
theorem dX6_setRules_6 : decode cX6_setRules 6 = .ok (.bipush 60, 2) := by decide +kernel
theorem dX6_setRules_8 : decode cX6_setRules 8 = .ok (.sipush 600, 3) := by decide +kernel
theorem dX6_setRules_11 : decode cX6_setRules 11 = .ok (.invokestatic 53, 3) := by decide +kernel
theorem dX6_setRules_14 : decode cX6_setRules 14 = .ok (.ifCond .eq 39, 3) := by decide +kernel
theorem dX6_setRules_17 : decode cX6_setRules 17 = .ok (.iload_n 2, 1) := by decide +kernel
theorem dX6_setRules_18 : decode cX6_setRules 18 = .ok (.sipush 240, 3) := by decide +kernel
theorem dX6_setRules_21 : decode cX6_setRules 21 = .ok (.sipush 1000, 3) := by decide +kernel
theorem dX6_setRules_24 : decode cX6_setRules 24 = .ok (.invokestatic 53, 3) := by decide +kernel
theorem dX6_setRules_27 : decode cX6_setRules 27 = .ok (.ifCond .eq 26, 3) := by decide +kernel
theorem dX6_setRules_30 : decode cX6_setRules 30 = .ok (.iload_n 3, 1) := by decide +kernel
theorem dX6_setRules_31 : decode cX6_setRules 31 = .ok (.bipush 10, 2) := by decide +kernel
theorem dX6_setRules_33 : decode cX6_setRules 33 = .ok (.bipush 90, 2) := by decide +kernel
theorem dX6_setRules_35 : decode cX6_setRules 35 = .ok (.invokestatic 53, 3) := by decide +kernel
theorem dX6_setRules_38 : decode cX6_setRules 38 = .ok (.ifCond .eq 15, 3) := by decide +kernel
theorem dX6_setRules_41 : decode cX6_setRules 41 = .ok (.iload 4, 2) := by decide +kernel
theorem dX6_setRules_43 : decode cX6_setRules 43 = .ok (.iconst 0, 1) := by decide +kernel
theorem dX6_setRules_44 : decode cX6_setRules 44 = .ok (.sipush 900, 3) := by decide +kernel
theorem dX6_setRules_47 : decode cX6_setRules 47 = .ok (.invokestatic 53, 3) := by decide +kernel
theorem dX6_setRules_50 : decode cX6_setRules 50 = .ok (.ifCond .ne 9, 3) := by decide +kernel
theorem dX6_setRules_53 : decode cX6_setRules 53 = .ok (.aload_n 0, 1) := by decide +kernel
theorem dX6_setRules_54 : decode cX6_setRules 54 = .ok (.iconst 1, 1) := by decide +kernel
theorem dX6_setRules_55 : decode cX6_setRules 55 = .ok (.invokevirtual 64, 3) := by decide +kernel
theorem dX6_setRules_58 : decode cX6_setRules 58 = .ok (.ireturn, 1) := by decide +kernel
theorem dX6_setRules_59 : decode cX6_setRules 59 = .ok (.aload_n 0, 1) := by decide +kernel
theorem dX6_setRules_60 : decode cX6_setRules 60 = .ok (.iload_n 1, 1) := by decide +kernel
theorem dX6_setRules_61 : decode cX6_setRules 61 = .ok (.putfield 31, 3) := by decide +kernel
theorem dX6_setRules_64 : decode cX6_setRules 64 = .ok (.aload_n 0, 1) := by decide +kernel
theorem dX6_setRules_65 : decode cX6_setRules 65 = .ok (.iload_n 2, 1) := by decide +kernel
theorem dX6_setRules_66 : decode cX6_setRules 66 = .ok (.putfield 35, 3) := by decide +kernel
theorem dX6_setRules_69 : decode cX6_setRules 69 = .ok (.aload_n 0, 1) := by decide +kernel
theorem dX6_setRules_70 : decode cX6_setRules 70 = .ok (.iload_n 3, 1) := by decide +kernel
theorem dX6_setRules_71 : decode cX6_setRules 71 = .ok (.putfield 38, 3) := by decide +kernel
theorem dX6_setRules_74 : decode cX6_setRules 74 = .ok (.aload_n 0, 1) := by decide +kernel
theorem dX6_setRules_75 : decode cX6_setRules 75 = .ok (.iload 4, 2) := by decide +kernel
theorem dX6_setRules_77 : decode cX6_setRules 77 = .ok (.putfield 41, 3) := by decide +kernel
theorem dX6_setRules_80 : decode cX6_setRules 80 = .ok (.iconst 0, 1) := by decide +kernel
theorem dX6_setRules_81 : decode cX6_setRules 81 = .ok (.istore 5, 2) := by decide +kernel
theorem dX6_setRules_83 : decode cX6_setRules 83 = .ok (.iconst 0, 1) := by decide +kernel
theorem dX6_setRules_84 : decode cX6_setRules 84 = .ok (.istore 6, 2) := by decide +kernel
theorem dX6_setRules_86 : decode cX6_setRules 86 = .ok (.iload 6, 2) := by decide +kernel
theorem dX6_setRules_88 : decode cX6_setRules 88 = .ok (.aload_n 0, 1) := by decide +kernel
theorem dX6_setRules_89 : decode cX6_setRules 89 = .ok (.getfield 57, 3) := by decide +kernel
theorem dX6_setRules_92 : decode cX6_setRules 92 = .ok (.if_icmp .ge 28, 3) := by decide +kernel
theorem dX6_setRules_95 : decode cX6_setRules 95 = .ok (.iload 5, 2) := by decide +kernel
theorem dX6_setRules_97 : decode cX6_setRules 97 = .ok (.aload_n 0, 1) := by decide +kernel
theorem dX6_setRules_98 : decode cX6_setRules 98 = .ok (.iload 6, 2) := by decide +kernel
theorem dX6_setRules_100 : decode cX6_setRules 100 = .ok (.invokevirtual 71, 3) := by decide +kernel
theorem dX6_setRules_103 : decode cX6_setRules 103 = .ok (.ifCond .eq 7, 3) := by decide +kernel
theorem dX6_setRules_106 : decode cX6_setRules 106 = .ok (.iconst 0, 1) := by decide +kernel
theorem dX6_setRules_107 : decode cX6_setRules 107 = .ok (.goto 4, 3) := by decide +kernel
theorem dX6_setRules_110 : decode cX6_setRules 110 = .ok (.iconst 1, 1) := by decide +kernel
theorem dX6_setRules_111 : decode cX6_setRules 111 = .ok (.iadd, 1) := by decide +kernel
theorem dX6_setRules_112 : decode cX6_setRules 112 = .ok (.istore 5, 2) := by decide +kernel
theorem dX6_setRules_114 : decode cX6_setRules 114 = .ok (.iinc 6 1, 3) := by decide +kernel
theorem dX6_setRules_117 : decode cX6_setRules 117 = .ok (.goto (-31), 3) := by decide +kernel
theorem dX6_setRules_120 : decode cX6_setRules 120 = .ok (.iload 5, 2) := by decide +kernel
theorem dX6_setRules_122 : decode cX6_setRules 122 = .ok (.ireturn, 1) := by decide +kernel
theorem dX6_freeTrips_0 : decode cX6_freeTrips 0 = .ok (.iconst 0, 1) := by decide +kernel
theorem dX6_freeTrips_1 : decode cX6_freeTrips 1 = .ok (.istore_n 1, 1) := by decide +kernel
theorem dX6_freeTrips_2 : decode cX6_freeTrips 2 = .ok (.iconst 0, 1) := by decide +kernel
theorem dX6_freeTrips_3 : decode cX6_freeTrips 3 = .ok (.istore_n 2, 1) := by decide +kernel
theorem dX6_freeTrips_4 : decode cX6_freeTrips 4 = .ok (.iload_n 2, 1) := by decide +kernel
theorem dX6_freeTrips_5 : decode cX6_freeTrips 5 = .ok (.aload_n 0, 1) := by decide +kernel
theorem dX6_freeTrips_6 : decode cX6_freeTrips 6 = .ok (.getfield 50, 3) := by decide +kernel
theorem dX6_freeTrips_9 : decode cX6_freeTrips 9 = .ok (.if_icmp .ge 27, 3) := by decide +kernel
theorem dX6_freeTrips_12 : decode cX6_freeTrips 12 = .ok (.iload_n 1, 1) := by decide +kernel
theorem dX6_freeTrips_13 : decode cX6_freeTrips 13 = .ok (.aload_n 0, 1) := by decide +kernel
theorem dX6_freeTrips_14 : decode cX6_freeTrips 14 = .ok (.getfield 25, 3) := by decide +kernel
theorem dX6_freeTrips_17 : decode cX6_freeTrips 17 = .ok (.iload_n 2, 1) := by decide +kernel
theorem dX6_freeTrips_18 : decode cX6_freeTrips 18 = .ok (.iaload, 1) := by decide +kernel
theorem dX6_freeTrips_19 : decode cX6_freeTrips 19 = .ok (.iconst (-1), 1) := by decide +kernel
theorem dX6_freeTrips_20 : decode cX6_freeTrips 20 = .ok (.if_icmp .ne 7, 3) := by decide +kernel
theorem dX6_freeTrips_23 : decode cX6_freeTrips 23 = .ok (.iconst 1, 1) := by decide +kernel
theorem dX6_freeTrips_24 : decode cX6_freeTrips 24 = .ok (.goto 4, 3) := by decide +kernel
theorem dX6_freeTrips_27 : decode cX6_freeTrips 27 = .ok (.iconst 0, 1) := by decide +kernel
theorem dX6_freeTrips_28 : decode cX6_freeTrips 28 = .ok (.iadd, 1) := by decide +kernel
theorem dX6_freeTrips_29 : decode cX6_freeTrips 29 = .ok (.istore_n 1, 1) := by decide +kernel
theorem dX6_freeTrips_30 : decode cX6_freeTrips 30 = .ok (.iinc 2 1, 3) := by decide +kernel
theorem dX6_freeTrips_33 : decode cX6_freeTrips 33 = .ok (.goto (-29), 3) := by decide +kernel
theorem dX6_freeTrips_36 : decode cX6_freeTrips 36 = .ok (.iload_n 1, 1) := by decide +kernel
theorem dX6_freeTrips_37 : decode cX6_freeTrips 37 = .ok (.ireturn, 1) := by decide +kernel
theorem dX6_count_0 : decode cX6_count 0 = .ok (.aload_n 0, 1) := by decide +kernel
theorem dX6_count_1 : decode cX6_count 1 = .ok (.iconst 0, 1) := by decide +kernel
theorem dX6_count_2 : decode cX6_count 2 = .ok (.putfield 47, 3) := by decide +kernel
theorem dX6_count_5 : decode cX6_count 5 = .ok (.iload_n 1, 1) := by decide +kernel
theorem dX6_count_6 : decode cX6_count 6 = .ok (.iconst 0, 1) := by decide +kernel
theorem dX6_count_7 : decode cX6_count 7 = .ok (.iconst 3, 1) := by decide +kernel
theorem dX6_count_8 : decode cX6_count 8 = .ok (.invokestatic 53, 3) := by decide +kernel
theorem dX6_count_11 : decode cX6_count 11 = .ok (.ifCond .ne 9, 3) := by decide +kernel
theorem dX6_count_14 : decode cX6_count 14 = .ok (.aload_n 0, 1) := by decide +kernel
theorem dX6_count_15 : decode cX6_count 15 = .ok (.iconst 1, 1) := by decide +kernel
theorem dX6_count_16 : decode cX6_count 16 = .ok (.invokevirtual 64, 3) := by decide +kernel
theorem dX6_count_19 : decode cX6_count 19 = .ok (.ireturn, 1) := by decide +kernel
theorem dX6_count_20 : decode cX6_count 20 = .ok (.iload_n 1, 1) := by decide +kernel
theorem dX6_count_21 : decode cX6_count 21 = .ok (.ifCond .ne 10, 3) := by decide +kernel
theorem dX6_count_24 : decode cX6_count 24 = .ok (.aload_n 0, 1) := by decide +kernel
theorem dX6_count_25 : decode cX6_count 25 = .ok (.getfield 50, 3) := by decide +kernel
theorem dX6_count_28 : decode cX6_count 28 = .ok (.goto 31, 3) := by decide +kernel
theorem dX6_count_31 : decode cX6_count 31 = .ok (.iload_n 1, 1) := by decide +kernel
theorem dX6_count_32 : decode cX6_count 32 = .ok (.iconst 1, 1) := by decide +kernel
theorem dX6_count_33 : decode cX6_count 33 = .ok (.if_icmp .ne 10, 3) := by decide +kernel
theorem dX6_count_36 : decode cX6_count 36 = .ok (.aload_n 0, 1) := by decide +kernel
theorem dX6_count_37 : decode cX6_count 37 = .ok (.getfield 57, 3) := by decide +kernel
theorem dX6_count_40 : decode cX6_count 40 = .ok (.goto 19, 3) := by decide +kernel
theorem dX6_count_43 : decode cX6_count 43 = .ok (.iload_n 1, 1) := by decide +kernel
theorem dX6_count_44 : decode cX6_count 44 = .ok (.iconst 2, 1) := by decide +kernel
theorem dX6_count_45 : decode cX6_count 45 = .ok (.if_icmp .ne 10, 3) := by decide +kernel
theorem dX6_count_48 : decode cX6_count 48 = .ok (.aload_n 0, 1) := by decide +kernel
theorem dX6_count_49 : decode cX6_count 49 = .ok (.getfield 74, 3) := by decide +kernel
theorem dX6_count_52 : decode cX6_count 52 = .ok (.goto 7, 3) := by decide +kernel
theorem dX6_count_55 : decode cX6_count 55 = .ok (.aload_n 0, 1) := by decide +kernel
theorem dX6_count_56 : decode cX6_count 56 = .ok (.invokevirtual 77, 3) := by decide +kernel
theorem dX6_count_59 : decode cX6_count 59 = .ok (.ireturn, 1) := by decide +kernel
theorem dX6_way_0 : decode cX6_way 0 = .ok (.aload_n 0, 1) := by decide +kernel
theorem dX6_way_1 : decode cX6_way 1 = .ok (.getfield 9, 3) := by decide +kernel
theorem dX6_way_4 : decode cX6_way 4 = .ok (.bipush 6, 2) := by decide +kernel
theorem dX6_way_6 : decode cX6_way 6 = .ok (.iload_n 1, 1) := by decide +kernel
theorem dX6_way_7 : decode cX6_way 7 = .ok (.imul, 1) := by decide +kernel
theorem dX6_way_8 : decode cX6_way 8 = .ok (.iload_n 2, 1) := by decide +kernel
theorem dX6_way_9 : decode cX6_way 9 = .ok (.iadd, 1) := by decide +kernel
theorem dX6_way_10 : decode cX6_way 10 = .ok (.iaload, 1) := by decide +kernel
theorem dX6_way_11 : decode cX6_way 11 = .ok (.ireturn, 1) := by decide +kernel
theorem dX6_sort_0 : decode cX6_sort 0 = .ok (.aload_n 0, 1) := by decide +kernel
theorem dX6_sort_1 : decode cX6_sort 1 = .ok (.iconst 0, 1) := by decide +kernel
theorem dX6_sort_2 : decode cX6_sort 2 = .ok (.putfield 81, 3) := by decide +kernel
theorem dX6_sort_5 : decode cX6_sort 5 = .ok (.iconst 0, 1) := by decide +kernel
theorem dX6_sort_6 : decode cX6_sort 6 = .ok (.istore_n 2, 1) := by decide +kernel
theorem dX6_sort_7 : decode cX6_sort 7 = .ok (.iload_n 2, 1) := by decide +kernel
theorem dX6_sort_8 : decode cX6_sort 8 = .ok (.aload_n 0, 1) := by decide +kernel
theorem dX6_sort_9 : decode cX6_sort 9 = .ok (.getfield 50, 3) := by decide +kernel
theorem dX6_sort_12 : decode cX6_sort 12 = .ok (.if_icmp .ge 90, 3) := by decide +kernel
theorem dX6_sort_15 : decode cX6_sort 15 = .ok (.aload_n 0, 1) := by decide +kernel
theorem dX6_sort_16 : decode cX6_sort 16 = .ok (.getfield 25, 3) := by decide +kernel
theorem dX6_sort_19 : decode cX6_sort 19 = .ok (.iload_n 2, 1) := by decide +kernel
theorem dX6_sort_20 : decode cX6_sort 20 = .ok (.iaload, 1) := by decide +kernel
theorem dX6_sort_21 : decode cX6_sort 21 = .ok (.iload_n 1, 1) := by decide +kernel
theorem dX6_sort_22 : decode cX6_sort 22 = .ok (.if_icmp .eq 6, 3) := by decide +kernel
theorem dX6_sort_25 : decode cX6_sort 25 = .ok (.goto 71, 3) := by decide +kernel
theorem dX6_sort_28 : decode cX6_sort 28 = .ok (.aload_n 0, 1) := by decide +kernel
theorem dX6_sort_29 : decode cX6_sort 29 = .ok (.getfield 81, 3) := by decide +kernel
theorem dX6_sort_32 : decode cX6_sort 32 = .ok (.istore_n 3, 1) := by decide +kernel
theorem dX6_sort_33 : decode cX6_sort 33 = .ok (.iload_n 3, 1) := by decide +kernel
theorem dX6_sort_34 : decode cX6_sort 34 = .ok (.ifCond .le 45, 3) := by decide +kernel
theorem dX6_sort_37 : decode cX6_sort 37 = .ok (.aload_n 0, 1) := by decide +kernel
theorem dX6_sort_38 : decode cX6_sort 38 = .ok (.getfield 19, 3) := by decide +kernel
theorem dX6_sort_41 : decode cX6_sort 41 = .ok (.aload_n 0, 1) := by decide +kernel
theorem dX6_sort_42 : decode cX6_sort 42 = .ok (.getfield 44, 3) := by decide +kernel
theorem dX6_sort_45 : decode cX6_sort 45 = .ok (.iload_n 3, 1) := by decide +kernel
theorem dX6_sort_46 : decode cX6_sort 46 = .ok (.iconst 1, 1) := by decide +kernel
theorem dX6_sort_47 : decode cX6_sort 47 = .ok (.isub, 1) := by decide +kernel
theorem dX6_sort_48 : decode cX6_sort 48 = .ok (.iaload, 1) := by decide +kernel
theorem dX6_sort_49 : decode cX6_sort 49 = .ok (.iaload, 1) := by decide +kernel
theorem dX6_sort_50 : decode cX6_sort 50 = .ok (.aload_n 0, 1) := by decide +kernel
theorem dX6_sort_51 : decode cX6_sort 51 = .ok (.getfield 19, 3) := by decide +kernel
theorem dX6_sort_54 : decode cX6_sort 54 = .ok (.iload_n 2, 1) := by decide +kernel
theorem dX6_sort_55 : decode cX6_sort 55 = .ok (.iaload, 1) := by decide +kernel
theorem dX6_sort_56 : decode cX6_sort 56 = .ok (.if_icmp .le 23, 3) := by decide +kernel
theorem dX6_sort_59 : decode cX6_sort 59 = .ok (.aload_n 0, 1) := by decide +kernel
theorem dX6_sort_60 : decode cX6_sort 60 = .ok (.getfield 44, 3) := by decide +kernel
theorem dX6_sort_63 : decode cX6_sort 63 = .ok (.iload_n 3, 1) := by decide +kernel
theorem dX6_sort_64 : decode cX6_sort 64 = .ok (.aload_n 0, 1) := by decide +kernel
theorem dX6_sort_65 : decode cX6_sort 65 = .ok (.getfield 44, 3) := by decide +kernel
theorem dX6_sort_68 : decode cX6_sort 68 = .ok (.iload_n 3, 1) := by decide +kernel
theorem dX6_sort_69 : decode cX6_sort 69 = .ok (.iconst 1, 1) := by decide +kernel
theorem dX6_sort_70 : decode cX6_sort 70 = .ok (.isub, 1) := by decide +kernel
theorem dX6_sort_71 : decode cX6_sort 71 = .ok (.iaload, 1) := by decide +kernel
theorem dX6_sort_72 : decode cX6_sort 72 = .ok (.iastore, 1) := by decide +kernel
theorem dX6_sort_73 : decode cX6_sort 73 = .ok (.iinc 3 (-1), 3) := by decide +kernel
theorem dX6_sort_76 : decode cX6_sort 76 = .ok (.goto (-43), 3) := by decide +kernel
theorem dX6_sort_79 : decode cX6_sort 79 = .ok (.aload_n 0, 1) := by decide +kernel
theorem dX6_sort_80 : decode cX6_sort 80 = .ok (.getfield 44, 3) := by decide +kernel
theorem dX6_sort_83 : decode cX6_sort 83 = .ok (.iload_n 3, 1) := by decide +kernel
theorem dX6_sort_84 : decode cX6_sort 84 = .ok (.iload_n 2, 1) := by decide +kernel
theorem dX6_sort_85 : decode cX6_sort 85 = .ok (.iastore, 1) := by decide +kernel
theorem dX6_sort_86 : decode cX6_sort 86 = .ok (.aload_n 0, 1) := by decide +kernel
theorem dX6_sort_87 : decode cX6_sort 87 = .ok (.dup, 1) := by decide +kernel
theorem dX6_sort_88 : decode cX6_sort 88 = .ok (.getfield 81, 3) := by decide +kernel
theorem dX6_sort_91 : decode cX6_sort 91 = .ok (.iconst 1, 1) := by decide +kernel
theorem dX6_sort_92 : decode cX6_sort 92 = .ok (.iadd, 1) := by decide +kernel
theorem dX6_sort_93 : decode cX6_sort 93 = .ok (.putfield 81, 3) := by decide +kernel
theorem dX6_sort_96 : decode cX6_sort 96 = .ok (.iinc 2 1, 3) := by decide +kernel
theorem dX6_sort_99 : decode cX6_sort 99 = .ok (.goto (-92), 3) := by decide +kernel
theorem dX6_sort_102 : decode cX6_sort 102 = .ok (.return_, 1) := by decide +kernel
theorem dX6_look_0 : decode cX6_look 0 = .ok (.aload_n 0, 1) := by decide +kernel
theorem dX6_look_1 : decode cX6_look 1 = .ok (.iload_n 1, 1) := by decide +kernel
theorem dX6_look_2 : decode cX6_look 2 = .ok (.invokevirtual 84, 3) := by decide +kernel
theorem dX6_look_5 : decode cX6_look 5 = .ok (.aload_n 0, 1) := by decide +kernel
theorem dX6_look_6 : decode cX6_look 6 = .ok (.iconst 0, 1) := by decide +kernel
theorem dX6_look_7 : decode cX6_look 7 = .ok (.putfield 88, 3) := by decide +kernel
theorem dX6_look_10 : decode cX6_look 10 = .ok (.aload_n 0, 1) := by decide +kernel
theorem dX6_look_11 : decode cX6_look 11 = .ok (.iconst 0, 1) := by decide +kernel
theorem dX6_look_12 : decode cX6_look 12 = .ok (.putfield 91, 3) := by decide +kernel
theorem dX6_look_15 : decode cX6_look 15 = .ok (.aload_n 0, 1) := by decide +kernel
theorem dX6_look_16 : decode cX6_look 16 = .ok (.iconst 0, 1) := by decide +kernel
theorem dX6_look_17 : decode cX6_look 17 = .ok (.putfield 94, 3) := by decide +kernel
theorem dX6_look_20 : decode cX6_look 20 = .ok (.aload_n 0, 1) := by decide +kernel
theorem dX6_look_21 : decode cX6_look 21 = .ok (.iconst 0, 1) := by decide +kernel
theorem dX6_look_22 : decode cX6_look 22 = .ok (.putfield 97, 3) := by decide +kernel
theorem dX6_look_25 : decode cX6_look 25 = .ok (.aload_n 0, 1) := by decide +kernel
theorem dX6_look_26 : decode cX6_look 26 = .ok (.iconst 0, 1) := by decide +kernel
theorem dX6_look_27 : decode cX6_look 27 = .ok (.putfield 100, 3) := by decide +kernel
theorem dX6_look_30 : decode cX6_look 30 = .ok (.aload_n 0, 1) := by decide +kernel
theorem dX6_look_31 : decode cX6_look 31 = .ok (.iconst 0, 1) := by decide +kernel
theorem dX6_look_32 : decode cX6_look 32 = .ok (.putfield 103, 3) := by decide +kernel
theorem dX6_look_35 : decode cX6_look 35 = .ok (.aload_n 0, 1) := by decide +kernel
theorem dX6_look_36 : decode cX6_look 36 = .ok (.iconst 1, 1) := by decide +kernel
theorem dX6_look_37 : decode cX6_look 37 = .ok (.putfield 106, 3) := by decide +kernel
theorem dX6_look_40 : decode cX6_look 40 = .ok (.aload_n 0, 1) := by decide +kernel
theorem dX6_look_41 : decode cX6_look 41 = .ok (.getfield 81, 3) := by decide +kernel
theorem dX6_look_44 : decode cX6_look 44 = .ok (.ifCond .ne 5, 3) := by decide +kernel
theorem dX6_look_47 : decode cX6_look 47 = .ok (.iconst 1, 1) := by decide +kernel
theorem dX6_look_48 : decode cX6_look 48 = .ok (.ireturn, 1) := by decide +kernel
theorem dX6_look_49 : decode cX6_look 49 = .ok (.aload_n 0, 1) := by decide +kernel
theorem dX6_look_50 : decode cX6_look 50 = .ok (.aload_n 0, 1) := by decide +kernel
theorem dX6_look_51 : decode cX6_look 51 = .ok (.getfield 19, 3) := by decide +kernel
theorem dX6_look_54 : decode cX6_look 54 = .ok (.aload_n 0, 1) := by decide +kernel
theorem dX6_look_55 : decode cX6_look 55 = .ok (.getfield 44, 3) := by decide +kernel
theorem dX6_look_58 : decode cX6_look 58 = .ok (.iconst 0, 1) := by decide +kernel
theorem dX6_look_59 : decode cX6_look 59 = .ok (.iaload, 1) := by decide +kernel
theorem dX6_look_60 : decode cX6_look 60 = .ok (.iaload, 1) := by decide +kernel
theorem dX6_look_61 : decode cX6_look 61 = .ok (.aload_n 0, 1) := by decide +kernel
theorem dX6_look_62 : decode cX6_look 62 = .ok (.iconst 0, 1) := by decide +kernel
theorem dX6_look_63 : decode cX6_look 63 = .ok (.aload_n 0, 1) := by decide +kernel
theorem dX6_look_64 : decode cX6_look 64 = .ok (.getfield 13, 3) := by decide +kernel
theorem dX6_look_67 : decode cX6_look 67 = .ok (.aload_n 0, 1) := by decide +kernel
theorem dX6_look_68 : decode cX6_look 68 = .ok (.getfield 44, 3) := by decide +kernel
theorem dX6_look_71 : decode cX6_look 71 = .ok (.iconst 0, 1) := by decide +kernel
theorem dX6_look_72 : decode cX6_look 72 = .ok (.iaload, 1) := by decide +kernel
theorem dX6_look_73 : decode cX6_look 73 = .ok (.iaload, 1) := by decide +kernel
theorem dX6_look_74 : decode cX6_look 74 = .ok (.invokevirtual 110, 3) := by decide +kernel
theorem dX6_look_77 : decode cX6_look 77 = .ok (.isub, 1) := by decide +kernel
theorem dX6_look_78 : decode cX6_look 78 = .ok (.bipush 10, 2) := by decide +kernel
theorem dX6_look_80 : decode cX6_look 80 = .ok (.isub, 1) := by decide +kernel
theorem dX6_look_81 : decode cX6_look 81 = .ok (.putfield 88, 3) := by decide +kernel
theorem dX6_look_84 : decode cX6_look 84 = .ok (.aload_n 0, 1) := by decide +kernel
theorem dX6_look_85 : decode cX6_look 85 = .ok (.aload_n 0, 1) := by decide +kernel
theorem dX6_look_86 : decode cX6_look 86 = .ok (.getfield 22, 3) := by decide +kernel
theorem dX6_look_89 : decode cX6_look 89 = .ok (.aload_n 0, 1) := by decide +kernel
theorem dX6_look_90 : decode cX6_look 90 = .ok (.getfield 44, 3) := by decide +kernel
theorem dX6_look_93 : decode cX6_look 93 = .ok (.aload_n 0, 1) := by decide +kernel
theorem dX6_look_94 : decode cX6_look 94 = .ok (.getfield 81, 3) := by decide +kernel
theorem dX6_look_97 : decode cX6_look 97 = .ok (.iconst 1, 1) := by decide +kernel
theorem dX6_look_98 : decode cX6_look 98 = .ok (.isub, 1) := by decide +kernel
theorem dX6_look_99 : decode cX6_look 99 = .ok (.iaload, 1) := by decide +kernel
theorem dX6_look_100 : decode cX6_look 100 = .ok (.iaload, 1) := by decide +kernel
theorem dX6_look_101 : decode cX6_look 101 = .ok (.aload_n 0, 1) := by decide +kernel
theorem dX6_look_102 : decode cX6_look 102 = .ok (.aload_n 0, 1) := by decide +kernel
theorem dX6_look_103 : decode cX6_look 103 = .ok (.getfield 16, 3) := by decide +kernel
theorem dX6_look_106 : decode cX6_look 106 = .ok (.aload_n 0, 1) := by decide +kernel
theorem dX6_look_107 : decode cX6_look 107 = .ok (.getfield 44, 3) := by decide +kernel
theorem dX6_look_110 : decode cX6_look 110 = .ok (.aload_n 0, 1) := by decide +kernel
theorem dX6_look_111 : decode cX6_look 111 = .ok (.getfield 81, 3) := by decide +kernel
theorem dX6_look_114 : decode cX6_look 114 = .ok (.iconst 1, 1) := by decide +kernel
theorem dX6_look_115 : decode cX6_look 115 = .ok (.isub, 1) := by decide +kernel
theorem dX6_look_116 : decode cX6_look 116 = .ok (.iaload, 1) := by decide +kernel
theorem dX6_look_117 : decode cX6_look 117 = .ok (.iaload, 1) := by decide +kernel
theorem dX6_look_118 : decode cX6_look 118 = .ok (.iconst 0, 1) := by decide +kernel
theorem dX6_look_119 : decode cX6_look 119 = .ok (.invokevirtual 110, 3) := by decide +kernel
theorem dX6_look_122 : decode cX6_look 122 = .ok (.iadd, 1) := by decide +kernel
theorem dX6_look_123 : decode cX6_look 123 = .ok (.iconst 5, 1) := by decide +kernel
theorem dX6_look_124 : decode cX6_look 124 = .ok (.iadd, 1) := by decide +kernel
theorem dX6_look_125 : decode cX6_look 125 = .ok (.putfield 91, 3) := by decide +kernel
theorem dX6_look_128 : decode cX6_look 128 = .ok (.aload_n 0, 1) := by decide +kernel
theorem dX6_look_129 : decode cX6_look 129 = .ok (.aload_n 0, 1) := by decide +kernel
theorem dX6_look_130 : decode cX6_look 130 = .ok (.getfield 91, 3) := by decide +kernel
theorem dX6_look_133 : decode cX6_look 133 = .ok (.aload_n 0, 1) := by decide +kernel
theorem dX6_look_134 : decode cX6_look 134 = .ok (.getfield 88, 3) := by decide +kernel
theorem dX6_look_137 : decode cX6_look 137 = .ok (.isub, 1) := by decide +kernel
theorem dX6_look_138 : decode cX6_look 138 = .ok (.putfield 94, 3) := by decide +kernel
theorem dX6_look_141 : decode cX6_look 141 = .ok (.aload_n 0, 1) := by decide +kernel
theorem dX6_look_142 : decode cX6_look 142 = .ok (.iconst 0, 1) := by decide +kernel
theorem dX6_look_143 : decode cX6_look 143 = .ok (.aload_n 0, 1) := by decide +kernel
theorem dX6_look_144 : decode cX6_look 144 = .ok (.getfield 13, 3) := by decide +kernel
theorem dX6_look_147 : decode cX6_look 147 = .ok (.aload_n 0, 1) := by decide +kernel
theorem dX6_look_148 : decode cX6_look 148 = .ok (.getfield 44, 3) := by decide +kernel
theorem dX6_look_151 : decode cX6_look 151 = .ok (.iconst 0, 1) := by decide +kernel
theorem dX6_look_152 : decode cX6_look 152 = .ok (.iaload, 1) := by decide +kernel
theorem dX6_look_153 : decode cX6_look 153 = .ok (.iaload, 1) := by decide +kernel
theorem dX6_look_154 : decode cX6_look 154 = .ok (.invokevirtual 110, 3) := by decide +kernel
theorem dX6_look_157 : decode cX6_look 157 = .ok (.istore_n 2, 1) := by decide +kernel
theorem dX6_look_158 : decode cX6_look 158 = .ok (.iconst 0, 1) := by decide +kernel
theorem dX6_look_159 : decode cX6_look 159 = .ok (.istore_n 3, 1) := by decide +kernel
theorem dX6_look_160 : decode cX6_look 160 = .ok (.iload_n 3, 1) := by decide +kernel
theorem dX6_look_161 : decode cX6_look 161 = .ok (.aload_n 0, 1) := by decide +kernel
theorem dX6_look_162 : decode cX6_look 162 = .ok (.getfield 81, 3) := by decide +kernel
theorem dX6_look_165 : decode cX6_look 165 = .ok (.if_icmp .ge 232, 3) := by decide +kernel
theorem dX6_look_168 : decode cX6_look 168 = .ok (.iload_n 2, 1) := by decide +kernel
theorem dX6_look_169 : decode cX6_look 169 = .ok (.aload_n 0, 1) := by decide +kernel
theorem dX6_look_170 : decode cX6_look 170 = .ok (.getfield 22, 3) := by decide +kernel
theorem dX6_look_173 : decode cX6_look 173 = .ok (.aload_n 0, 1) := by decide +kernel
theorem dX6_look_174 : decode cX6_look 174 = .ok (.getfield 44, 3) := by decide +kernel
theorem dX6_look_177 : decode cX6_look 177 = .ok (.iload_n 3, 1) := by decide +kernel
theorem dX6_look_178 : decode cX6_look 178 = .ok (.iaload, 1) := by decide +kernel
theorem dX6_look_179 : decode cX6_look 179 = .ok (.iaload, 1) := by decide +kernel
theorem dX6_look_180 : decode cX6_look 180 = .ok (.aload_n 0, 1) := by decide +kernel
theorem dX6_look_181 : decode cX6_look 181 = .ok (.getfield 19, 3) := by decide +kernel
theorem dX6_look_184 : decode cX6_look 184 = .ok (.aload_n 0, 1) := by decide +kernel
theorem dX6_look_185 : decode cX6_look 185 = .ok (.getfield 44, 3) := by decide +kernel
theorem dX6_look_188 : decode cX6_look 188 = .ok (.iload_n 3, 1) := by decide +kernel
theorem dX6_look_189 : decode cX6_look 189 = .ok (.iaload, 1) := by decide +kernel
theorem dX6_look_190 : decode cX6_look 190 = .ok (.iaload, 1) := by decide +kernel
theorem dX6_look_191 : decode cX6_look 191 = .ok (.isub, 1) := by decide +kernel
theorem dX6_look_192 : decode cX6_look 192 = .ok (.iadd, 1) := by decide +kernel
theorem dX6_look_193 : decode cX6_look 193 = .ok (.istore_n 2, 1) := by decide +kernel
theorem dX6_look_194 : decode cX6_look 194 = .ok (.iload_n 3, 1) := by decide +kernel
theorem dX6_look_195 : decode cX6_look 195 = .ok (.aload_n 0, 1) := by decide +kernel
theorem dX6_look_196 : decode cX6_look 196 = .ok (.getfield 81, 3) := by decide +kernel
theorem dX6_look_199 : decode cX6_look 199 = .ok (.iconst 1, 1) := by decide +kernel
theorem dX6_look_200 : decode cX6_look 200 = .ok (.isub, 1) := by decide +kernel
theorem dX6_look_201 : decode cX6_look 201 = .ok (.if_icmp .ne 7, 3) := by decide +kernel
theorem dX6_look_204 : decode cX6_look 204 = .ok (.iconst 1, 1) := by decide +kernel
theorem dX6_look_205 : decode cX6_look 205 = .ok (.goto 4, 3) := by decide +kernel
theorem dX6_look_208 : decode cX6_look 208 = .ok (.iconst 0, 1) := by decide +kernel
theorem dX6_look_209 : decode cX6_look 209 = .ok (.istore 4, 2) := by decide +kernel
theorem dX6_look_211 : decode cX6_look 211 = .ok (.iload 4, 2) := by decide +kernel
theorem dX6_look_213 : decode cX6_look 213 = .ok (.ifCond .eq 22, 3) := by decide +kernel
theorem dX6_look_216 : decode cX6_look 216 = .ok (.aload_n 0, 1) := by decide +kernel
theorem dX6_look_217 : decode cX6_look 217 = .ok (.aload_n 0, 1) := by decide +kernel
theorem dX6_look_218 : decode cX6_look 218 = .ok (.getfield 16, 3) := by decide +kernel
theorem dX6_look_221 : decode cX6_look 221 = .ok (.aload_n 0, 1) := by decide +kernel
theorem dX6_look_222 : decode cX6_look 222 = .ok (.getfield 44, 3) := by decide +kernel
theorem dX6_look_225 : decode cX6_look 225 = .ok (.iload_n 3, 1) := by decide +kernel
theorem dX6_look_226 : decode cX6_look 226 = .ok (.iaload, 1) := by decide +kernel
theorem dX6_look_227 : decode cX6_look 227 = .ok (.iaload, 1) := by decide +kernel
theorem dX6_look_228 : decode cX6_look 228 = .ok (.iconst 0, 1) := by decide +kernel
theorem dX6_look_229 : decode cX6_look 229 = .ok (.invokevirtual 110, 3) := by decide +kernel
theorem dX6_look_232 : decode cX6_look 232 = .ok (.goto 31, 3) := by decide +kernel
theorem dX6_look_235 : decode cX6_look 235 = .ok (.aload_n 0, 1) := by decide +kernel
theorem dX6_look_236 : decode cX6_look 236 = .ok (.aload_n 0, 1) := by decide +kernel
theorem dX6_look_237 : decode cX6_look 237 = .ok (.getfield 16, 3) := by decide +kernel
theorem dX6_look_240 : decode cX6_look 240 = .ok (.aload_n 0, 1) := by decide +kernel
theorem dX6_look_241 : decode cX6_look 241 = .ok (.getfield 44, 3) := by decide +kernel
theorem dX6_look_244 : decode cX6_look 244 = .ok (.iload_n 3, 1) := by decide +kernel
theorem dX6_look_245 : decode cX6_look 245 = .ok (.iaload, 1) := by decide +kernel
theorem dX6_look_246 : decode cX6_look 246 = .ok (.iaload, 1) := by decide +kernel
theorem dX6_look_247 : decode cX6_look 247 = .ok (.aload_n 0, 1) := by decide +kernel
theorem dX6_look_248 : decode cX6_look 248 = .ok (.getfield 13, 3) := by decide +kernel
theorem dX6_look_251 : decode cX6_look 251 = .ok (.aload_n 0, 1) := by decide +kernel
theorem dX6_look_252 : decode cX6_look 252 = .ok (.getfield 44, 3) := by decide +kernel
theorem dX6_look_255 : decode cX6_look 255 = .ok (.iload_n 3, 1) := by decide +kernel
theorem dX6_look_256 : decode cX6_look 256 = .ok (.iconst 1, 1) := by decide +kernel
theorem dX6_look_257 : decode cX6_look 257 = .ok (.iadd, 1) := by decide +kernel
theorem dX6_look_258 : decode cX6_look 258 = .ok (.iaload, 1) := by decide +kernel
theorem dX6_look_259 : decode cX6_look 259 = .ok (.iaload, 1) := by decide +kernel
theorem dX6_look_260 : decode cX6_look 260 = .ok (.invokevirtual 110, 3) := by decide +kernel
theorem dX6_look_263 : decode cX6_look 263 = .ok (.istore 5, 2) := by decide +kernel
theorem dX6_look_265 : decode cX6_look 265 = .ok (.iload 4, 2) := by decide +kernel
theorem dX6_look_267 : decode cX6_look 267 = .ok (.ifCond .eq 7, 3) := by decide +kernel
theorem dX6_look_270 : decode cX6_look 270 = .ok (.iconst 0, 1) := by decide +kernel
theorem dX6_look_271 : decode cX6_look 271 = .ok (.goto 31, 3) := by decide +kernel
theorem dX6_look_274 : decode cX6_look 274 = .ok (.aload_n 0, 1) := by decide +kernel
theorem dX6_look_275 : decode cX6_look 275 = .ok (.getfield 19, 3) := by decide +kernel
theorem dX6_look_278 : decode cX6_look 278 = .ok (.aload_n 0, 1) := by decide +kernel
theorem dX6_look_279 : decode cX6_look 279 = .ok (.getfield 44, 3) := by decide +kernel
theorem dX6_look_282 : decode cX6_look 282 = .ok (.iload_n 3, 1) := by decide +kernel
theorem dX6_look_283 : decode cX6_look 283 = .ok (.iconst 1, 1) := by decide +kernel
theorem dX6_look_284 : decode cX6_look 284 = .ok (.iadd, 1) := by decide +kernel
theorem dX6_look_285 : decode cX6_look 285 = .ok (.iaload, 1) := by decide +kernel
theorem dX6_look_286 : decode cX6_look 286 = .ok (.iaload, 1) := by decide +kernel
theorem dX6_look_287 : decode cX6_look 287 = .ok (.aload_n 0, 1) := by decide +kernel
theorem dX6_look_288 : decode cX6_look 288 = .ok (.getfield 22, 3) := by decide +kernel
theorem dX6_look_291 : decode cX6_look 291 = .ok (.aload_n 0, 1) := by decide +kernel
theorem dX6_look_292 : decode cX6_look 292 = .ok (.getfield 44, 3) := by decide +kernel
theorem dX6_look_295 : decode cX6_look 295 = .ok (.iload_n 3, 1) := by decide +kernel
theorem dX6_look_296 : decode cX6_look 296 = .ok (.iaload, 1) := by decide +kernel
theorem dX6_look_297 : decode cX6_look 297 = .ok (.iaload, 1) := by decide +kernel
theorem dX6_look_298 : decode cX6_look 298 = .ok (.isub, 1) := by decide +kernel
theorem dX6_look_299 : decode cX6_look 299 = .ok (.iload 5, 2) := by decide +kernel
theorem dX6_look_301 : decode cX6_look 301 = .ok (.isub, 1) := by decide +kernel
theorem dX6_look_302 : decode cX6_look 302 = .ok (.istore 6, 2) := by decide +kernel
theorem dX6_look_304 : decode cX6_look 304 = .ok (.iload 4, 2) := by decide +kernel
theorem dX6_look_306 : decode cX6_look 306 = .ok (.ifCond .ne 16, 3) := by decide +kernel
theorem dX6_look_309 : decode cX6_look 309 = .ok (.iload 6, 2) := by decide +kernel
theorem dX6_look_311 : decode cX6_look 311 = .ok (.aload_n 0, 1) := by decide +kernel
theorem dX6_look_312 : decode cX6_look 312 = .ok (.getfield 38, 3) := by decide +kernel
theorem dX6_look_315 : decode cX6_look 315 = .ok (.if_icmp .lt 7, 3) := by decide +kernel
theorem dX6_look_318 : decode cX6_look 318 = .ok (.iconst 1, 1) := by decide +kernel
theorem dX6_look_319 : decode cX6_look 319 = .ok (.goto 4, 3) := by decide +kernel
theorem dX6_look_322 : decode cX6_look 322 = .ok (.iconst 0, 1) := by decide +kernel
theorem dX6_look_323 : decode cX6_look 323 = .ok (.istore 7, 2) := by decide +kernel
theorem dX6_look_325 : decode cX6_look 325 = .ok (.aload_n 0, 1) := by decide +kernel
theorem dX6_look_326 : decode cX6_look 326 = .ok (.aload_n 0, 1) := by decide +kernel
theorem dX6_look_327 : decode cX6_look 327 = .ok (.getfield 106, 3) := by decide +kernel
theorem dX6_look_330 : decode cX6_look 330 = .ok (.ifCond .eq 12, 3) := by decide +kernel
theorem dX6_look_333 : decode cX6_look 333 = .ok (.iload 6, 2) := by decide +kernel
theorem dX6_look_335 : decode cX6_look 335 = .ok (.ifCond .lt 7, 3) := by decide +kernel
theorem dX6_look_338 : decode cX6_look 338 = .ok (.iconst 1, 1) := by decide +kernel
theorem dX6_look_339 : decode cX6_look 339 = .ok (.goto 4, 3) := by decide +kernel
theorem dX6_look_342 : decode cX6_look 342 = .ok (.iconst 0, 1) := by decide +kernel
theorem dX6_look_343 : decode cX6_look 343 = .ok (.putfield 106, 3) := by decide +kernel
theorem dX6_look_346 : decode cX6_look 346 = .ok (.iload 7, 2) := by decide +kernel
theorem dX6_look_348 : decode cX6_look 348 = .ok (.ifCond .eq 38, 3) := by decide +kernel
theorem dX6_look_351 : decode cX6_look 351 = .ok (.aload_n 0, 1) := by decide +kernel
theorem dX6_look_352 : decode cX6_look 352 = .ok (.dup, 1) := by decide +kernel
theorem dX6_look_353 : decode cX6_look 353 = .ok (.getfield 100, 3) := by decide +kernel
theorem dX6_look_356 : decode cX6_look 356 = .ok (.iconst 1, 1) := by decide +kernel
theorem dX6_look_357 : decode cX6_look 357 = .ok (.iadd, 1) := by decide +kernel
theorem dX6_look_358 : decode cX6_look 358 = .ok (.putfield 100, 3) := by decide +kernel
theorem dX6_look_361 : decode cX6_look 361 = .ok (.aload_n 0, 1) := by decide +kernel
theorem dX6_look_362 : decode cX6_look 362 = .ok (.dup, 1) := by decide +kernel
theorem dX6_look_363 : decode cX6_look 363 = .ok (.getfield 94, 3) := by decide +kernel
theorem dX6_look_366 : decode cX6_look 366 = .ok (.iload 6, 2) := by decide +kernel
theorem dX6_look_368 : decode cX6_look 368 = .ok (.isub, 1) := by decide +kernel
theorem dX6_look_369 : decode cX6_look 369 = .ok (.putfield 94, 3) := by decide +kernel
theorem dX6_look_372 : decode cX6_look 372 = .ok (.aload_n 0, 1) := by decide +kernel
theorem dX6_look_373 : decode cX6_look 373 = .ok (.aload_n 0, 1) := by decide +kernel
theorem dX6_look_374 : decode cX6_look 374 = .ok (.getfield 103, 3) := by decide +kernel
theorem dX6_look_377 : decode cX6_look 377 = .ok (.iload_n 2, 1) := by decide +kernel
theorem dX6_look_378 : decode cX6_look 378 = .ok (.invokestatic 114, 3) := by decide +kernel
theorem dX6_look_381 : decode cX6_look 381 = .ok (.putfield 103, 3) := by decide +kernel
theorem dX6_look_384 : decode cX6_look 384 = .ok (.iconst 0, 1) := by decide +kernel
theorem dX6_look_385 : decode cX6_look 385 = .ok (.istore_n 2, 1) := by decide +kernel
theorem dX6_look_386 : decode cX6_look 386 = .ok (.iload_n 2, 1) := by decide +kernel
theorem dX6_look_387 : decode cX6_look 387 = .ok (.iload 5, 2) := by decide +kernel
theorem dX6_look_389 : decode cX6_look 389 = .ok (.iadd, 1) := by decide +kernel
theorem dX6_look_390 : decode cX6_look 390 = .ok (.istore_n 2, 1) := by decide +kernel
theorem dX6_look_391 : decode cX6_look 391 = .ok (.iinc 3 1, 3) := by decide +kernel
theorem dX6_look_394 : decode cX6_look 394 = .ok (.goto (-234), 3) := by decide +kernel
theorem dX6_look_397 : decode cX6_look 397 = .ok (.aload_n 0, 1) := by decide +kernel
theorem dX6_look_398 : decode cX6_look 398 = .ok (.aload_n 0, 1) := by decide +kernel
theorem dX6_look_399 : decode cX6_look 399 = .ok (.getfield 103, 3) := by decide +kernel
theorem dX6_look_402 : decode cX6_look 402 = .ok (.iload_n 2, 1) := by decide +kernel
theorem dX6_look_403 : decode cX6_look 403 = .ok (.invokestatic 114, 3) := by decide +kernel
theorem dX6_look_406 : decode cX6_look 406 = .ok (.putfield 103, 3) := by decide +kernel
theorem dX6_look_409 : decode cX6_look 409 = .ok (.aload_n 0, 1) := by decide +kernel
theorem dX6_look_410 : decode cX6_look 410 = .ok (.sipush 360, 3) := by decide +kernel
theorem dX6_look_413 : decode cX6_look 413 = .ok (.aload_n 0, 1) := by decide +kernel
theorem dX6_look_414 : decode cX6_look 414 = .ok (.getfield 94, 3) := by decide +kernel
theorem dX6_look_417 : decode cX6_look 417 = .ok (.invokestatic 114, 3) := by decide +kernel
theorem dX6_look_420 : decode cX6_look 420 = .ok (.iconst 0, 1) := by decide +kernel
theorem dX6_look_421 : decode cX6_look 421 = .ok (.aload_n 0, 1) := by decide +kernel
theorem dX6_look_422 : decode cX6_look 422 = .ok (.getfield 94, 3) := by decide +kernel
theorem dX6_look_425 : decode cX6_look 425 = .ok (.sipush 480, 3) := by decide +kernel
theorem dX6_look_428 : decode cX6_look 428 = .ok (.isub, 1) := by decide +kernel
theorem dX6_look_429 : decode cX6_look 429 = .ok (.invokestatic 114, 3) := by decide +kernel
theorem dX6_look_432 : decode cX6_look 432 = .ok (.iconst 2, 1) := by decide +kernel
theorem dX6_look_433 : decode cX6_look 433 = .ok (.idiv, 1) := by decide +kernel
theorem dX6_look_434 : decode cX6_look 434 = .ok (.iadd, 1) := by decide +kernel
theorem dX6_look_435 : decode cX6_look 435 = .ok (.putfield 97, 3) := by decide +kernel
theorem dX6_look_438 : decode cX6_look 438 = .ok (.aload_n 0, 1) := by decide +kernel
theorem dX6_look_439 : decode cX6_look 439 = .ok (.aload_n 0, 1) := by decide +kernel
theorem dX6_look_440 : decode cX6_look 440 = .ok (.getfield 106, 3) := by decide +kernel
theorem dX6_look_443 : decode cX6_look 443 = .ok (.ifCond .eq 34, 3) := by decide +kernel
theorem dX6_look_446 : decode cX6_look 446 = .ok (.aload_n 0, 1) := by decide +kernel
theorem dX6_look_447 : decode cX6_look 447 = .ok (.getfield 103, 3) := by decide +kernel
theorem dX6_look_450 : decode cX6_look 450 = .ok (.aload_n 0, 1) := by decide +kernel
theorem dX6_look_451 : decode cX6_look 451 = .ok (.getfield 31, 3) := by decide +kernel
theorem dX6_look_454 : decode cX6_look 454 = .ok (.if_icmp .gt 23, 3) := by decide +kernel
theorem dX6_look_457 : decode cX6_look 457 = .ok (.aload_n 0, 1) := by decide +kernel
theorem dX6_look_458 : decode cX6_look 458 = .ok (.getfield 91, 3) := by decide +kernel
theorem dX6_look_461 : decode cX6_look 461 = .ok (.aload_n 0, 1) := by decide +kernel
theorem dX6_look_462 : decode cX6_look 462 = .ok (.getfield 88, 3) := by decide +kernel
theorem dX6_look_465 : decode cX6_look 465 = .ok (.isub, 1) := by decide +kernel
theorem dX6_look_466 : decode cX6_look 466 = .ok (.aload_n 0, 1) := by decide +kernel
theorem dX6_look_467 : decode cX6_look 467 = .ok (.getfield 35, 3) := by decide +kernel
theorem dX6_look_470 : decode cX6_look 470 = .ok (.if_icmp .gt 7, 3) := by decide +kernel
theorem dX6_look_473 : decode cX6_look 473 = .ok (.iconst 1, 1) := by decide +kernel
theorem dX6_look_474 : decode cX6_look 474 = .ok (.goto 4, 3) := by decide +kernel
theorem dX6_look_477 : decode cX6_look 477 = .ok (.iconst 0, 1) := by decide +kernel
theorem dX6_look_478 : decode cX6_look 478 = .ok (.putfield 106, 3) := by decide +kernel
theorem dX6_look_481 : decode cX6_look 481 = .ok (.aload_n 0, 1) := by decide +kernel
theorem dX6_look_482 : decode cX6_look 482 = .ok (.getfield 106, 3) := by decide +kernel
theorem dX6_look_485 : decode cX6_look 485 = .ok (.ireturn, 1) := by decide +kernel
theorem dX6_payOf_0 : decode cX6_payOf 0 = .ok (.aload_n 0, 1) := by decide +kernel
theorem dX6_payOf_1 : decode cX6_payOf 1 = .ok (.iload_n 1, 1) := by decide +kernel
theorem dX6_payOf_2 : decode cX6_payOf 2 = .ok (.invokevirtual 71, 3) := by decide +kernel
theorem dX6_payOf_5 : decode cX6_payOf 5 = .ok (.pop, 1) := by decide +kernel
theorem dX6_payOf_6 : decode cX6_payOf 6 = .ok (.aload_n 0, 1) := by decide +kernel
theorem dX6_payOf_7 : decode cX6_payOf 7 = .ok (.getfield 97, 3) := by decide +kernel
theorem dX6_payOf_10 : decode cX6_payOf 10 = .ok (.ireturn, 1) := by decide +kernel
theorem dX6_isFixed_0 : decode cX6_isFixed 0 = .ok (.iconst 0, 1) := by decide +kernel
theorem dX6_isFixed_1 : decode cX6_isFixed 1 = .ok (.istore_n 2, 1) := by decide +kernel
theorem dX6_isFixed_2 : decode cX6_isFixed 2 = .ok (.iconst 0, 1) := by decide +kernel
theorem dX6_isFixed_3 : decode cX6_isFixed 3 = .ok (.istore_n 3, 1) := by decide +kernel
theorem dX6_isFixed_4 : decode cX6_isFixed 4 = .ok (.iload_n 3, 1) := by decide +kernel
theorem dX6_isFixed_5 : decode cX6_isFixed 5 = .ok (.bipush 7, 2) := by decide +kernel
theorem dX6_isFixed_7 : decode cX6_isFixed 7 = .ok (.aload_n 0, 1) := by decide +kernel
theorem dX6_isFixed_8 : decode cX6_isFixed 8 = .ok (.getfield 74, 3) := by decide +kernel
theorem dX6_isFixed_11 : decode cX6_isFixed 11 = .ok (.imul, 1) := by decide +kernel
theorem dX6_isFixed_12 : decode cX6_isFixed 12 = .ok (.if_icmp .ge 29, 3) := by decide +kernel
theorem dX6_isFixed_15 : decode cX6_isFixed 15 = .ok (.iload_n 2, 1) := by decide +kernel
theorem dX6_isFixed_16 : decode cX6_isFixed 16 = .ok (.ifCond .ne 13, 3) := by decide +kernel
theorem dX6_isFixed_19 : decode cX6_isFixed 19 = .ok (.aload_n 0, 1) := by decide +kernel
theorem dX6_isFixed_20 : decode cX6_isFixed 20 = .ok (.getfield 28, 3) := by decide +kernel
theorem dX6_isFixed_23 : decode cX6_isFixed 23 = .ok (.iload_n 3, 1) := by decide +kernel
theorem dX6_isFixed_24 : decode cX6_isFixed 24 = .ok (.iaload, 1) := by decide +kernel
theorem dX6_isFixed_25 : decode cX6_isFixed 25 = .ok (.iload_n 1, 1) := by decide +kernel
theorem dX6_isFixed_26 : decode cX6_isFixed 26 = .ok (.if_icmp .ne 7, 3) := by decide +kernel
theorem dX6_isFixed_29 : decode cX6_isFixed 29 = .ok (.iconst 1, 1) := by decide +kernel
theorem dX6_isFixed_30 : decode cX6_isFixed 30 = .ok (.goto 4, 3) := by decide +kernel
theorem dX6_isFixed_33 : decode cX6_isFixed 33 = .ok (.iconst 0, 1) := by decide +kernel
theorem dX6_isFixed_34 : decode cX6_isFixed 34 = .ok (.istore_n 2, 1) := by decide +kernel
theorem dX6_isFixed_35 : decode cX6_isFixed 35 = .ok (.iinc 3 1, 3) := by decide +kernel
theorem dX6_isFixed_38 : decode cX6_isFixed 38 = .ok (.goto (-34), 3) := by decide +kernel
theorem dX6_isFixed_41 : decode cX6_isFixed 41 = .ok (.iload_n 2, 1) := by decide +kernel
theorem dX6_isFixed_42 : decode cX6_isFixed 42 = .ok (.ireturn, 1) := by decide +kernel
theorem dX6_addDuty_0 : decode cX6_addDuty 0 = .ok (.aload_n 0, 1) := by decide +kernel
theorem dX6_addDuty_1 : decode cX6_addDuty 1 = .ok (.iconst 0, 1) := by decide +kernel
theorem dX6_addDuty_2 : decode cX6_addDuty 2 = .ok (.putfield 47, 3) := by decide +kernel
theorem dX6_addDuty_5 : decode cX6_addDuty 5 = .ok (.aload_n 0, 1) := by decide +kernel
theorem dX6_addDuty_6 : decode cX6_addDuty 6 = .ok (.getfield 57, 3) := by decide +kernel
theorem dX6_addDuty_9 : decode cX6_addDuty 9 = .ok (.bipush 12, 2) := by decide +kernel
theorem dX6_addDuty_11 : decode cX6_addDuty 11 = .ok (.if_icmp .ne 9, 3) := by decide +kernel
theorem dX6_addDuty_14 : decode cX6_addDuty 14 = .ok (.aload_n 0, 1) := by decide +kernel
theorem dX6_addDuty_15 : decode cX6_addDuty 15 = .ok (.iconst 1, 1) := by decide +kernel
theorem dX6_addDuty_16 : decode cX6_addDuty 16 = .ok (.invokevirtual 64, 3) := by decide +kernel
theorem dX6_addDuty_19 : decode cX6_addDuty 19 = .ok (.ireturn, 1) := by decide +kernel
theorem dX6_addDuty_20 : decode cX6_addDuty 20 = .ok (.aload_n 0, 1) := by decide +kernel
theorem dX6_addDuty_21 : decode cX6_addDuty 21 = .ok (.dup, 1) := by decide +kernel
theorem dX6_addDuty_22 : decode cX6_addDuty 22 = .ok (.getfield 57, 3) := by decide +kernel
theorem dX6_addDuty_25 : decode cX6_addDuty 25 = .ok (.iconst 1, 1) := by decide +kernel
theorem dX6_addDuty_26 : decode cX6_addDuty 26 = .ok (.iadd, 1) := by decide +kernel
theorem dX6_addDuty_27 : decode cX6_addDuty 27 = .ok (.putfield 57, 3) := by decide +kernel
theorem dX6_addDuty_30 : decode cX6_addDuty 30 = .ok (.aload_n 0, 1) := by decide +kernel
theorem dX6_addDuty_31 : decode cX6_addDuty 31 = .ok (.getfield 57, 3) := by decide +kernel
theorem dX6_addDuty_34 : decode cX6_addDuty 34 = .ok (.iconst 1, 1) := by decide +kernel
theorem dX6_addDuty_35 : decode cX6_addDuty 35 = .ok (.isub, 1) := by decide +kernel
theorem dX6_addDuty_36 : decode cX6_addDuty 36 = .ok (.ireturn, 1) := by decide +kernel
theorem dX6_hasDeparture_0 : decode cX6_hasDeparture 0 = .ok (.iconst 0, 1) := by decide +kernel
theorem dX6_hasDeparture_1 : decode cX6_hasDeparture 1 = .ok (.istore_n 3, 1) := by decide +kernel
theorem dX6_hasDeparture_2 : decode cX6_hasDeparture 2 = .ok (.iconst 0, 1) := by decide +kernel
theorem dX6_hasDeparture_3 : decode cX6_hasDeparture 3 = .ok (.istore 4, 2) := by decide +kernel
theorem dX6_hasDeparture_5 : decode cX6_hasDeparture 5 = .ok (.iload 4, 2) := by decide +kernel
theorem dX6_hasDeparture_7 : decode cX6_hasDeparture 7 = .ok (.aload_n 0, 1) := by decide +kernel
theorem dX6_hasDeparture_8 : decode cX6_hasDeparture 8 = .ok (.getfield 50, 3) := by decide +kernel
theorem dX6_hasDeparture_11 : decode cX6_hasDeparture 11 = .ok (.if_icmp .ge 46, 3) := by decide +kernel
theorem dX6_hasDeparture_14 : decode cX6_hasDeparture 14 = .ok (.iload_n 3, 1) := by decide +kernel
theorem dX6_hasDeparture_15 : decode cX6_hasDeparture 15 = .ok (.ifCond .ne 30, 3) := by decide +kernel
theorem dX6_hasDeparture_18 : decode cX6_hasDeparture 18 = .ok (.aload_n 0, 1) := by decide +kernel
theorem dX6_hasDeparture_19 : decode cX6_hasDeparture 19 = .ok (.getfield 25, 3) := by decide +kernel
theorem dX6_hasDeparture_22 : decode cX6_hasDeparture 22 = .ok (.iload 4, 2) := by decide +kernel
theorem dX6_hasDeparture_24 : decode cX6_hasDeparture 24 = .ok (.iaload, 1) := by decide +kernel
theorem dX6_hasDeparture_25 : decode cX6_hasDeparture 25 = .ok (.iload_n 1, 1) := by decide +kernel
theorem dX6_hasDeparture_26 : decode cX6_hasDeparture 26 = .ok (.if_icmp .ne 23, 3) := by decide +kernel
theorem dX6_hasDeparture_29 : decode cX6_hasDeparture 29 = .ok (.aload_n 0, 1) := by decide +kernel
theorem dX6_hasDeparture_30 : decode cX6_hasDeparture 30 = .ok (.getfield 19, 3) := by decide +kernel
theorem dX6_hasDeparture_33 : decode cX6_hasDeparture 33 = .ok (.iload 4, 2) := by decide +kernel
theorem dX6_hasDeparture_35 : decode cX6_hasDeparture 35 = .ok (.iaload, 1) := by decide +kernel
theorem dX6_hasDeparture_36 : decode cX6_hasDeparture 36 = .ok (.aload_n 0, 1) := by decide +kernel
theorem dX6_hasDeparture_37 : decode cX6_hasDeparture 37 = .ok (.getfield 19, 3) := by decide +kernel
theorem dX6_hasDeparture_40 : decode cX6_hasDeparture 40 = .ok (.iload_n 2, 1) := by decide +kernel
theorem dX6_hasDeparture_41 : decode cX6_hasDeparture 41 = .ok (.iaload, 1) := by decide +kernel
theorem dX6_hasDeparture_42 : decode cX6_hasDeparture 42 = .ok (.if_icmp .ne 7, 3) := by decide +kernel
theorem dX6_hasDeparture_45 : decode cX6_hasDeparture 45 = .ok (.iconst 1, 1) := by decide +kernel
theorem dX6_hasDeparture_46 : decode cX6_hasDeparture 46 = .ok (.goto 4, 3) := by decide +kernel
theorem dX6_hasDeparture_49 : decode cX6_hasDeparture 49 = .ok (.iconst 0, 1) := by decide +kernel
theorem dX6_hasDeparture_50 : decode cX6_hasDeparture 50 = .ok (.istore_n 3, 1) := by decide +kernel
theorem dX6_hasDeparture_51 : decode cX6_hasDeparture 51 = .ok (.iinc 4 1, 3) := by decide +kernel
theorem dX6_hasDeparture_54 : decode cX6_hasDeparture 54 = .ok (.goto (-49), 3) := by decide +kernel
theorem dX6_hasDeparture_57 : decode cX6_hasDeparture 57 = .ok (.iload_n 3, 1) := by decide +kernel
theorem dX6_hasDeparture_58 : decode cX6_hasDeparture 58 = .ok (.ireturn, 1) := by decide +kernel
theorem dX6_canPut_0 : decode cX6_canPut 0 = .ok (.aload_n 0, 1) := by decide +kernel
theorem dX6_canPut_1 : decode cX6_canPut 1 = .ok (.getfield 25, 3) := by decide +kernel
theorem dX6_canPut_4 : decode cX6_canPut 4 = .ok (.iload_n 2, 1) := by decide +kernel
theorem dX6_canPut_5 : decode cX6_canPut 5 = .ok (.iaload, 1) := by decide +kernel
theorem dX6_canPut_6 : decode cX6_canPut 6 = .ok (.iconst (-1), 1) := by decide +kernel
theorem dX6_canPut_7 : decode cX6_canPut 7 = .ok (.if_icmp .ne 20, 3) := by decide +kernel
theorem dX6_canPut_10 : decode cX6_canPut 10 = .ok (.aload_n 0, 1) := by decide +kernel
theorem dX6_canPut_11 : decode cX6_canPut 11 = .ok (.iload_n 1, 1) := by decide +kernel
theorem dX6_canPut_12 : decode cX6_canPut 12 = .ok (.invokevirtual 119, 3) := by decide +kernel
theorem dX6_canPut_15 : decode cX6_canPut 15 = .ok (.ifCond .ne 12, 3) := by decide +kernel
theorem dX6_canPut_18 : decode cX6_canPut 18 = .ok (.aload_n 0, 1) := by decide +kernel
theorem dX6_canPut_19 : decode cX6_canPut 19 = .ok (.iload_n 1, 1) := by decide +kernel
theorem dX6_canPut_20 : decode cX6_canPut 20 = .ok (.iload_n 2, 1) := by decide +kernel
theorem dX6_canPut_21 : decode cX6_canPut 21 = .ok (.invokevirtual 122, 3) := by decide +kernel
theorem dX6_canPut_24 : decode cX6_canPut 24 = .ok (.ifCond .eq 5, 3) := by decide +kernel
theorem dX6_canPut_27 : decode cX6_canPut 27 = .ok (.iconst 0, 1) := by decide +kernel
theorem dX6_canPut_28 : decode cX6_canPut 28 = .ok (.ireturn, 1) := by decide +kernel
theorem dX6_canPut_29 : decode cX6_canPut 29 = .ok (.aload_n 0, 1) := by decide +kernel
theorem dX6_canPut_30 : decode cX6_canPut 30 = .ok (.getfield 25, 3) := by decide +kernel
theorem dX6_canPut_33 : decode cX6_canPut 33 = .ok (.iload_n 2, 1) := by decide +kernel
theorem dX6_canPut_34 : decode cX6_canPut 34 = .ok (.iload_n 1, 1) := by decide +kernel
theorem dX6_canPut_35 : decode cX6_canPut 35 = .ok (.iastore, 1) := by decide +kernel
theorem dX6_canPut_36 : decode cX6_canPut 36 = .ok (.aload_n 0, 1) := by decide +kernel
theorem dX6_canPut_37 : decode cX6_canPut 37 = .ok (.iload_n 1, 1) := by decide +kernel
theorem dX6_canPut_38 : decode cX6_canPut 38 = .ok (.invokevirtual 71, 3) := by decide +kernel
theorem dX6_canPut_41 : decode cX6_canPut 41 = .ok (.istore_n 3, 1) := by decide +kernel
theorem dX6_canPut_42 : decode cX6_canPut 42 = .ok (.aload_n 0, 1) := by decide +kernel
theorem dX6_canPut_43 : decode cX6_canPut 43 = .ok (.getfield 25, 3) := by decide +kernel
theorem dX6_canPut_46 : decode cX6_canPut 46 = .ok (.iload_n 2, 1) := by decide +kernel
theorem dX6_canPut_47 : decode cX6_canPut 47 = .ok (.iconst (-1), 1) := by decide +kernel
theorem dX6_canPut_48 : decode cX6_canPut 48 = .ok (.iastore, 1) := by decide +kernel
theorem dX6_canPut_49 : decode cX6_canPut 49 = .ok (.iload_n 3, 1) := by decide +kernel
theorem dX6_canPut_50 : decode cX6_canPut 50 = .ok (.ireturn, 1) := by decide +kernel
theorem dX6_put_0 : decode cX6_put 0 = .ok (.aload_n 0, 1) := by decide +kernel
theorem dX6_put_1 : decode cX6_put 1 = .ok (.iconst 0, 1) := by decide +kernel
theorem dX6_put_2 : decode cX6_put 2 = .ok (.putfield 47, 3) := by decide +kernel
theorem dX6_put_5 : decode cX6_put 5 = .ok (.aload_n 0, 1) := by decide +kernel
theorem dX6_put_6 : decode cX6_put 6 = .ok (.iload_n 1, 1) := by decide +kernel
theorem dX6_put_7 : decode cX6_put 7 = .ok (.invokevirtual 126, 3) := by decide +kernel
theorem dX6_put_10 : decode cX6_put 10 = .ok (.ifCond .eq 11, 3) := by decide +kernel
theorem dX6_put_13 : decode cX6_put 13 = .ok (.aload_n 0, 1) := by decide +kernel
theorem dX6_put_14 : decode cX6_put 14 = .ok (.iload_n 2, 1) := by decide +kernel
theorem dX6_put_15 : decode cX6_put 15 = .ok (.invokevirtual 68, 3) := by decide +kernel
theorem dX6_put_18 : decode cX6_put 18 = .ok (.ifCond .ne 9, 3) := by decide +kernel
theorem dX6_put_21 : decode cX6_put 21 = .ok (.aload_n 0, 1) := by decide +kernel
theorem dX6_put_22 : decode cX6_put 22 = .ok (.iconst 1, 1) := by decide +kernel
theorem dX6_put_23 : decode cX6_put 23 = .ok (.invokevirtual 64, 3) := by decide +kernel
theorem dX6_put_26 : decode cX6_put 26 = .ok (.ireturn, 1) := by decide +kernel
theorem dX6_put_27 : decode cX6_put 27 = .ok (.aload_n 0, 1) := by decide +kernel
theorem dX6_put_28 : decode cX6_put 28 = .ok (.iload_n 1, 1) := by decide +kernel
theorem dX6_put_29 : decode cX6_put 29 = .ok (.iload_n 2, 1) := by decide +kernel
theorem dX6_put_30 : decode cX6_put 30 = .ok (.invokevirtual 129, 3) := by decide +kernel
theorem dX6_put_33 : decode cX6_put 33 = .ok (.ifCond .ne 9, 3) := by decide +kernel
theorem dX6_put_36 : decode cX6_put 36 = .ok (.aload_n 0, 1) := by decide +kernel
theorem dX6_put_37 : decode cX6_put 37 = .ok (.iconst 2, 1) := by decide +kernel
theorem dX6_put_38 : decode cX6_put 38 = .ok (.invokevirtual 64, 3) := by decide +kernel
theorem dX6_put_41 : decode cX6_put 41 = .ok (.ireturn, 1) := by decide +kernel
theorem dX6_put_42 : decode cX6_put 42 = .ok (.aload_n 0, 1) := by decide +kernel
theorem dX6_put_43 : decode cX6_put 43 = .ok (.getfield 25, 3) := by decide +kernel
theorem dX6_put_46 : decode cX6_put 46 = .ok (.iload_n 2, 1) := by decide +kernel
theorem dX6_put_47 : decode cX6_put 47 = .ok (.iload_n 1, 1) := by decide +kernel
theorem dX6_put_48 : decode cX6_put 48 = .ok (.iastore, 1) := by decide +kernel
theorem dX6_put_49 : decode cX6_put 49 = .ok (.aload_n 0, 1) := by decide +kernel
theorem dX6_put_50 : decode cX6_put 50 = .ok (.iload_n 1, 1) := by decide +kernel
theorem dX6_put_51 : decode cX6_put 51 = .ok (.invokevirtual 84, 3) := by decide +kernel
theorem dX6_put_54 : decode cX6_put 54 = .ok (.iconst 0, 1) := by decide +kernel
theorem dX6_put_55 : decode cX6_put 55 = .ok (.istore_n 3, 1) := by decide +kernel
theorem dX6_put_56 : decode cX6_put 56 = .ok (.aload_n 0, 1) := by decide +kernel
theorem dX6_put_57 : decode cX6_put 57 = .ok (.getfield 44, 3) := by decide +kernel
theorem dX6_put_60 : decode cX6_put 60 = .ok (.iload_n 3, 1) := by decide +kernel
theorem dX6_put_61 : decode cX6_put 61 = .ok (.iaload, 1) := by decide +kernel
theorem dX6_put_62 : decode cX6_put 62 = .ok (.iload_n 2, 1) := by decide +kernel
theorem dX6_put_63 : decode cX6_put 63 = .ok (.if_icmp .eq 9, 3) := by decide +kernel
theorem dX6_put_66 : decode cX6_put 66 = .ok (.iinc 3 1, 3) := by decide +kernel
theorem dX6_put_69 : decode cX6_put 69 = .ok (.goto (-13), 3) := by decide +kernel
theorem dX6_put_72 : decode cX6_put 72 = .ok (.iload_n 3, 1) := by decide +kernel
theorem dX6_put_73 : decode cX6_put 73 = .ok (.ireturn, 1) := by decide +kernel
theorem dX6_takeOut_0 : decode cX6_takeOut 0 = .ok (.aload_n 0, 1) := by decide +kernel
theorem dX6_takeOut_1 : decode cX6_takeOut 1 = .ok (.iconst 0, 1) := by decide +kernel
theorem dX6_takeOut_2 : decode cX6_takeOut 2 = .ok (.putfield 47, 3) := by decide +kernel
theorem dX6_takeOut_5 : decode cX6_takeOut 5 = .ok (.aload_n 0, 1) := by decide +kernel
theorem dX6_takeOut_6 : decode cX6_takeOut 6 = .ok (.iload_n 1, 1) := by decide +kernel
theorem dX6_takeOut_7 : decode cX6_takeOut 7 = .ok (.invokevirtual 68, 3) := by decide +kernel
theorem dX6_takeOut_10 : decode cX6_takeOut 10 = .ok (.ifCond .ne 9, 3) := by decide +kernel
theorem dX6_takeOut_13 : decode cX6_takeOut 13 = .ok (.aload_n 0, 1) := by decide +kernel
theorem dX6_takeOut_14 : decode cX6_takeOut 14 = .ok (.iconst 1, 1) := by decide +kernel
theorem dX6_takeOut_15 : decode cX6_takeOut 15 = .ok (.invokevirtual 64, 3) := by decide +kernel
theorem dX6_takeOut_18 : decode cX6_takeOut 18 = .ok (.ireturn, 1) := by decide +kernel
theorem dX6_takeOut_19 : decode cX6_takeOut 19 = .ok (.aload_n 0, 1) := by decide +kernel
theorem dX6_takeOut_20 : decode cX6_takeOut 20 = .ok (.getfield 25, 3) := by decide +kernel
theorem dX6_takeOut_23 : decode cX6_takeOut 23 = .ok (.iload_n 1, 1) := by decide +kernel
theorem dX6_takeOut_24 : decode cX6_takeOut 24 = .ok (.iaload, 1) := by decide +kernel
theorem dX6_takeOut_25 : decode cX6_takeOut 25 = .ok (.istore_n 2, 1) := by decide +kernel
theorem dX6_takeOut_26 : decode cX6_takeOut 26 = .ok (.iload_n 2, 1) := by decide +kernel
theorem dX6_takeOut_27 : decode cX6_takeOut 27 = .ok (.iconst (-1), 1) := by decide +kernel
theorem dX6_takeOut_28 : decode cX6_takeOut 28 = .ok (.if_icmp .eq 11, 3) := by decide +kernel
theorem dX6_takeOut_31 : decode cX6_takeOut 31 = .ok (.aload_n 0, 1) := by decide +kernel
theorem dX6_takeOut_32 : decode cX6_takeOut 32 = .ok (.iload_n 2, 1) := by decide +kernel
theorem dX6_takeOut_33 : decode cX6_takeOut 33 = .ok (.invokevirtual 119, 3) := by decide +kernel
theorem dX6_takeOut_36 : decode cX6_takeOut 36 = .ok (.ifCond .eq 9, 3) := by decide +kernel
theorem dX6_takeOut_39 : decode cX6_takeOut 39 = .ok (.aload_n 0, 1) := by decide +kernel
theorem dX6_takeOut_40 : decode cX6_takeOut 40 = .ok (.iconst 2, 1) := by decide +kernel
theorem dX6_takeOut_41 : decode cX6_takeOut 41 = .ok (.invokevirtual 64, 3) := by decide +kernel
theorem dX6_takeOut_44 : decode cX6_takeOut 44 = .ok (.ireturn, 1) := by decide +kernel
theorem dX6_takeOut_45 : decode cX6_takeOut 45 = .ok (.aload_n 0, 1) := by decide +kernel
theorem dX6_takeOut_46 : decode cX6_takeOut 46 = .ok (.getfield 25, 3) := by decide +kernel
theorem dX6_takeOut_49 : decode cX6_takeOut 49 = .ok (.iload_n 1, 1) := by decide +kernel
theorem dX6_takeOut_50 : decode cX6_takeOut 50 = .ok (.iconst (-1), 1) := by decide +kernel
theorem dX6_takeOut_51 : decode cX6_takeOut 51 = .ok (.iastore, 1) := by decide +kernel
theorem dX6_takeOut_52 : decode cX6_takeOut 52 = .ok (.aload_n 0, 1) := by decide +kernel
theorem dX6_takeOut_53 : decode cX6_takeOut 53 = .ok (.iload_n 2, 1) := by decide +kernel
theorem dX6_takeOut_54 : decode cX6_takeOut 54 = .ok (.invokevirtual 71, 3) := by decide +kernel
theorem dX6_takeOut_57 : decode cX6_takeOut 57 = .ok (.ifCond .eq 5, 3) := by decide +kernel
theorem dX6_takeOut_60 : decode cX6_takeOut 60 = .ok (.iload_n 2, 1) := by decide +kernel
theorem dX6_takeOut_61 : decode cX6_takeOut 61 = .ok (.ireturn, 1) := by decide +kernel
theorem dX6_takeOut_62 : decode cX6_takeOut 62 = .ok (.aload_n 0, 1) := by decide +kernel
theorem dX6_takeOut_63 : decode cX6_takeOut 63 = .ok (.getfield 25, 3) := by decide +kernel
theorem dX6_takeOut_66 : decode cX6_takeOut 66 = .ok (.iload_n 1, 1) := by decide +kernel
theorem dX6_takeOut_67 : decode cX6_takeOut 67 = .ok (.iload_n 2, 1) := by decide +kernel
theorem dX6_takeOut_68 : decode cX6_takeOut 68 = .ok (.iastore, 1) := by decide +kernel
theorem dX6_takeOut_69 : decode cX6_takeOut 69 = .ok (.aload_n 0, 1) := by decide +kernel
theorem dX6_takeOut_70 : decode cX6_takeOut 70 = .ok (.iconst 2, 1) := by decide +kernel
theorem dX6_takeOut_71 : decode cX6_takeOut 71 = .ok (.invokevirtual 64, 3) := by decide +kernel
theorem dX6_takeOut_74 : decode cX6_takeOut 74 = .ok (.ireturn, 1) := by decide +kernel
theorem dX6_told_0 : decode cX6_told 0 = .ok (.aload_n 0, 1) := by decide +kernel
theorem dX6_told_1 : decode cX6_told 1 = .ok (.iload_n 1, 1) := by decide +kernel
theorem dX6_told_2 : decode cX6_told 2 = .ok (.invokevirtual 71, 3) := by decide +kernel
theorem dX6_told_5 : decode cX6_told 5 = .ok (.pop, 1) := by decide +kernel
theorem dX6_told_6 : decode cX6_told 6 = .ok (.bipush 9, 2) := by decide +kernel
theorem dX6_told_8 : decode cX6_told 8 = .ok (.newarray .int, 2) := by decide +kernel
theorem dX6_told_10 : decode cX6_told 10 = .ok (.dup, 1) := by decide +kernel
theorem dX6_told_11 : decode cX6_told 11 = .ok (.iconst 0, 1) := by decide +kernel
theorem dX6_told_12 : decode cX6_told 12 = .ok (.aload_n 0, 1) := by decide +kernel
theorem dX6_told_13 : decode cX6_told 13 = .ok (.getfield 81, 3) := by decide +kernel
theorem dX6_told_16 : decode cX6_told 16 = .ok (.iastore, 1) := by decide +kernel
theorem dX6_told_17 : decode cX6_told 17 = .ok (.dup, 1) := by decide +kernel
theorem dX6_told_18 : decode cX6_told 18 = .ok (.iconst 1, 1) := by decide +kernel
theorem dX6_told_19 : decode cX6_told 19 = .ok (.aload_n 0, 1) := by decide +kernel
theorem dX6_told_20 : decode cX6_told 20 = .ok (.getfield 88, 3) := by decide +kernel
theorem dX6_told_23 : decode cX6_told 23 = .ok (.iastore, 1) := by decide +kernel
theorem dX6_told_24 : decode cX6_told 24 = .ok (.dup, 1) := by decide +kernel
theorem dX6_told_25 : decode cX6_told 25 = .ok (.iconst 2, 1) := by decide +kernel
theorem dX6_told_26 : decode cX6_told 26 = .ok (.aload_n 0, 1) := by decide +kernel
theorem dX6_told_27 : decode cX6_told 27 = .ok (.getfield 91, 3) := by decide +kernel
theorem dX6_told_30 : decode cX6_told 30 = .ok (.iastore, 1) := by decide +kernel
theorem dX6_told_31 : decode cX6_told 31 = .ok (.dup, 1) := by decide +kernel
theorem dX6_told_32 : decode cX6_told 32 = .ok (.iconst 3, 1) := by decide +kernel
theorem dX6_told_33 : decode cX6_told 33 = .ok (.aload_n 0, 1) := by decide +kernel
theorem dX6_told_34 : decode cX6_told 34 = .ok (.getfield 94, 3) := by decide +kernel
theorem dX6_told_37 : decode cX6_told 37 = .ok (.iastore, 1) := by decide +kernel
theorem dX6_told_38 : decode cX6_told 38 = .ok (.dup, 1) := by decide +kernel
theorem dX6_told_39 : decode cX6_told 39 = .ok (.iconst 4, 1) := by decide +kernel
theorem dX6_told_40 : decode cX6_told 40 = .ok (.aload_n 0, 1) := by decide +kernel
theorem dX6_told_41 : decode cX6_told 41 = .ok (.getfield 97, 3) := by decide +kernel
theorem dX6_told_44 : decode cX6_told 44 = .ok (.iastore, 1) := by decide +kernel
theorem dX6_told_45 : decode cX6_told 45 = .ok (.dup, 1) := by decide +kernel
theorem dX6_told_46 : decode cX6_told 46 = .ok (.iconst 5, 1) := by decide +kernel
theorem dX6_told_47 : decode cX6_told 47 = .ok (.aload_n 0, 1) := by decide +kernel
theorem dX6_told_48 : decode cX6_told 48 = .ok (.getfield 100, 3) := by decide +kernel
theorem dX6_told_51 : decode cX6_told 51 = .ok (.iastore, 1) := by decide +kernel
theorem dX6_told_52 : decode cX6_told 52 = .ok (.dup, 1) := by decide +kernel
theorem dX6_told_53 : decode cX6_told 53 = .ok (.bipush 6, 2) := by decide +kernel
theorem dX6_told_55 : decode cX6_told 55 = .ok (.aload_n 0, 1) := by decide +kernel
theorem dX6_told_56 : decode cX6_told 56 = .ok (.getfield 103, 3) := by decide +kernel
theorem dX6_told_59 : decode cX6_told 59 = .ok (.iastore, 1) := by decide +kernel
theorem dX6_told_60 : decode cX6_told 60 = .ok (.dup, 1) := by decide +kernel
theorem dX6_told_61 : decode cX6_told 61 = .ok (.bipush 7, 2) := by decide +kernel
theorem dX6_told_63 : decode cX6_told 63 = .ok (.aload_n 0, 1) := by decide +kernel
theorem dX6_told_64 : decode cX6_told 64 = .ok (.getfield 106, 3) := by decide +kernel
theorem dX6_told_67 : decode cX6_told 67 = .ok (.ifCond .eq 7, 3) := by decide +kernel
theorem dX6_told_70 : decode cX6_told 70 = .ok (.iconst 1, 1) := by decide +kernel
theorem dX6_told_71 : decode cX6_told 71 = .ok (.goto 4, 3) := by decide +kernel
theorem dX6_told_74 : decode cX6_told 74 = .ok (.iconst 0, 1) := by decide +kernel
theorem dX6_told_75 : decode cX6_told 75 = .ok (.iastore, 1) := by decide +kernel
theorem dX6_told_76 : decode cX6_told 76 = .ok (.dup, 1) := by decide +kernel
theorem dX6_told_77 : decode cX6_told 77 = .ok (.bipush 8, 2) := by decide +kernel
theorem dX6_told_79 : decode cX6_told 79 = .ok (.aload_n 0, 1) := by decide +kernel
theorem dX6_told_80 : decode cX6_told 80 = .ok (.iload_n 1, 1) := by decide +kernel
theorem dX6_told_81 : decode cX6_told 81 = .ok (.invokevirtual 119, 3) := by decide +kernel
theorem dX6_told_84 : decode cX6_told 84 = .ok (.ifCond .eq 7, 3) := by decide +kernel
theorem dX6_told_87 : decode cX6_told 87 = .ok (.iconst 1, 1) := by decide +kernel
theorem dX6_told_88 : decode cX6_told 88 = .ok (.goto 4, 3) := by decide +kernel
theorem dX6_told_91 : decode cX6_told 91 = .ok (.iconst 0, 1) := by decide +kernel
theorem dX6_told_92 : decode cX6_told 92 = .ok (.iastore, 1) := by decide +kernel
theorem dX6_told_93 : decode cX6_told 93 = .ok (.astore_n 3, 1) := by decide +kernel
theorem dX6_told_94 : decode cX6_told 94 = .ok (.aload_n 3, 1) := by decide +kernel
theorem dX6_told_95 : decode cX6_told 95 = .ok (.iload_n 2, 1) := by decide +kernel
theorem dX6_told_96 : decode cX6_told 96 = .ok (.iaload, 1) := by decide +kernel
theorem dX6_told_97 : decode cX6_told 97 = .ok (.ireturn, 1) := by decide +kernel
theorem dX6_duty_0 : decode cX6_duty 0 = .ok (.aload_n 0, 1) := by decide +kernel
theorem dX6_duty_1 : decode cX6_duty 1 = .ok (.iconst 0, 1) := by decide +kernel
theorem dX6_duty_2 : decode cX6_duty 2 = .ok (.putfield 47, 3) := by decide +kernel
theorem dX6_duty_5 : decode cX6_duty 5 = .ok (.aload_n 0, 1) := by decide +kernel
theorem dX6_duty_6 : decode cX6_duty 6 = .ok (.iload_n 1, 1) := by decide +kernel
theorem dX6_duty_7 : decode cX6_duty 7 = .ok (.invokevirtual 126, 3) := by decide +kernel
theorem dX6_duty_10 : decode cX6_duty 10 = .ok (.ifCond .eq 22, 3) := by decide +kernel
theorem dX6_duty_13 : decode cX6_duty 13 = .ok (.iload_n 2, 1) := by decide +kernel
theorem dX6_duty_14 : decode cX6_duty 14 = .ok (.iconst 0, 1) := by decide +kernel
theorem dX6_duty_15 : decode cX6_duty 15 = .ok (.bipush 8, 2) := by decide +kernel
theorem dX6_duty_17 : decode cX6_duty 17 = .ok (.invokestatic 53, 3) := by decide +kernel
theorem dX6_duty_20 : decode cX6_duty 20 = .ok (.ifCond .eq 12, 3) := by decide +kernel
theorem dX6_duty_23 : decode cX6_duty 23 = .ok (.aload_n 0, 1) := by decide +kernel
theorem dX6_duty_24 : decode cX6_duty 24 = .ok (.iload_n 1, 1) := by decide +kernel
theorem dX6_duty_25 : decode cX6_duty 25 = .ok (.iload_n 2, 1) := by decide +kernel
theorem dX6_duty_26 : decode cX6_duty 26 = .ok (.invokevirtual 132, 3) := by decide +kernel
theorem dX6_duty_29 : decode cX6_duty 29 = .ok (.goto 8, 3) := by decide +kernel
theorem dX6_duty_32 : decode cX6_duty 32 = .ok (.aload_n 0, 1) := by decide +kernel
theorem dX6_duty_33 : decode cX6_duty 33 = .ok (.iconst 1, 1) := by decide +kernel
theorem dX6_duty_34 : decode cX6_duty 34 = .ok (.invokevirtual 64, 3) := by decide +kernel
theorem dX6_duty_37 : decode cX6_duty 37 = .ok (.ireturn, 1) := by decide +kernel
theorem dX6_tripAt_0 : decode cX6_tripAt 0 = .ok (.aload_n 0, 1) := by decide +kernel
theorem dX6_tripAt_1 : decode cX6_tripAt 1 = .ok (.iconst 0, 1) := by decide +kernel
theorem dX6_tripAt_2 : decode cX6_tripAt 2 = .ok (.putfield 47, 3) := by decide +kernel
theorem dX6_tripAt_5 : decode cX6_tripAt 5 = .ok (.aload_n 0, 1) := by decide +kernel
theorem dX6_tripAt_6 : decode cX6_tripAt 6 = .ok (.iload_n 1, 1) := by decide +kernel
theorem dX6_tripAt_7 : decode cX6_tripAt 7 = .ok (.invokevirtual 126, 3) := by decide +kernel
theorem dX6_tripAt_10 : decode cX6_tripAt 10 = .ok (.ifCond .ne 9, 3) := by decide +kernel
theorem dX6_tripAt_13 : decode cX6_tripAt 13 = .ok (.aload_n 0, 1) := by decide +kernel
theorem dX6_tripAt_14 : decode cX6_tripAt 14 = .ok (.iconst 1, 1) := by decide +kernel
theorem dX6_tripAt_15 : decode cX6_tripAt 15 = .ok (.invokevirtual 64, 3) := by decide +kernel
theorem dX6_tripAt_18 : decode cX6_tripAt 18 = .ok (.ireturn, 1) := by decide +kernel
theorem dX6_tripAt_19 : decode cX6_tripAt 19 = .ok (.aload_n 0, 1) := by decide +kernel
theorem dX6_tripAt_20 : decode cX6_tripAt 20 = .ok (.iload_n 1, 1) := by decide +kernel
theorem dX6_tripAt_21 : decode cX6_tripAt 21 = .ok (.invokevirtual 84, 3) := by decide +kernel
theorem dX6_tripAt_24 : decode cX6_tripAt 24 = .ok (.iload_n 2, 1) := by decide +kernel
theorem dX6_tripAt_25 : decode cX6_tripAt 25 = .ok (.iconst 0, 1) := by decide +kernel
theorem dX6_tripAt_26 : decode cX6_tripAt 26 = .ok (.aload_n 0, 1) := by decide +kernel
theorem dX6_tripAt_27 : decode cX6_tripAt 27 = .ok (.getfield 81, 3) := by decide +kernel
theorem dX6_tripAt_30 : decode cX6_tripAt 30 = .ok (.iconst 1, 1) := by decide +kernel
theorem dX6_tripAt_31 : decode cX6_tripAt 31 = .ok (.isub, 1) := by decide +kernel
theorem dX6_tripAt_32 : decode cX6_tripAt 32 = .ok (.invokestatic 53, 3) := by decide +kernel
theorem dX6_tripAt_35 : decode cX6_tripAt 35 = .ok (.ifCond .eq 12, 3) := by decide +kernel
theorem dX6_tripAt_38 : decode cX6_tripAt 38 = .ok (.aload_n 0, 1) := by decide +kernel
theorem dX6_tripAt_39 : decode cX6_tripAt 39 = .ok (.getfield 44, 3) := by decide +kernel
theorem dX6_tripAt_42 : decode cX6_tripAt 42 = .ok (.iload_n 2, 1) := by decide +kernel
theorem dX6_tripAt_43 : decode cX6_tripAt 43 = .ok (.iaload, 1) := by decide +kernel
theorem dX6_tripAt_44 : decode cX6_tripAt 44 = .ok (.goto 8, 3) := by decide +kernel
theorem dX6_tripAt_47 : decode cX6_tripAt 47 = .ok (.aload_n 0, 1) := by decide +kernel
theorem dX6_tripAt_48 : decode cX6_tripAt 48 = .ok (.iconst 1, 1) := by decide +kernel
theorem dX6_tripAt_49 : decode cX6_tripAt 49 = .ok (.invokevirtual 64, 3) := by decide +kernel
theorem dX6_tripAt_52 : decode cX6_tripAt 52 = .ok (.ireturn, 1) := by decide +kernel
theorem dX6_best_0 : decode cX6_best 0 = .ok (.iconst (-1), 1) := by decide +kernel
theorem dX6_best_1 : decode cX6_best 1 = .ok (.istore_n 2, 1) := by decide +kernel
theorem dX6_best_2 : decode cX6_best 2 = .ok (.iconst 0, 1) := by decide +kernel
theorem dX6_best_3 : decode cX6_best 3 = .ok (.istore_n 3, 1) := by decide +kernel
theorem dX6_best_4 : decode cX6_best 4 = .ok (.iconst 0, 1) := by decide +kernel
theorem dX6_best_5 : decode cX6_best 5 = .ok (.istore 4, 2) := by decide +kernel
theorem dX6_best_7 : decode cX6_best 7 = .ok (.iload 4, 2) := by decide +kernel
theorem dX6_best_9 : decode cX6_best 9 = .ok (.aload_n 0, 1) := by decide +kernel
theorem dX6_best_10 : decode cX6_best 10 = .ok (.getfield 57, 3) := by decide +kernel
theorem dX6_best_13 : decode cX6_best 13 = .ok (.if_icmp .ge 60, 3) := by decide +kernel
theorem dX6_best_16 : decode cX6_best 16 = .ok (.aload_n 0, 1) := by decide +kernel
theorem dX6_best_17 : decode cX6_best 17 = .ok (.iload 4, 2) := by decide +kernel
theorem dX6_best_19 : decode cX6_best 19 = .ok (.invokevirtual 135, 3) := by decide +kernel
theorem dX6_best_22 : decode cX6_best 22 = .ok (.istore 5, 2) := by decide +kernel
theorem dX6_best_24 : decode cX6_best 24 = .ok (.aload_n 0, 1) := by decide +kernel
theorem dX6_best_25 : decode cX6_best 25 = .ok (.iload 4, 2) := by decide +kernel
theorem dX6_best_27 : decode cX6_best 27 = .ok (.iload_n 1, 1) := by decide +kernel
theorem dX6_best_28 : decode cX6_best 28 = .ok (.invokevirtual 129, 3) := by decide +kernel
theorem dX6_best_31 : decode cX6_best 31 = .ok (.ifCond .ne 6, 3) := by decide +kernel
theorem dX6_best_34 : decode cX6_best 34 = .ok (.goto 33, 3) := by decide +kernel
theorem dX6_best_37 : decode cX6_best 37 = .ok (.iload_n 2, 1) := by decide +kernel
theorem dX6_best_38 : decode cX6_best 38 = .ok (.iconst (-1), 1) := by decide +kernel
theorem dX6_best_39 : decode cX6_best 39 = .ok (.if_icmp .eq 17, 3) := by decide +kernel
theorem dX6_best_42 : decode cX6_best 42 = .ok (.aload_n 0, 1) := by decide +kernel
theorem dX6_best_43 : decode cX6_best 43 = .ok (.getfield 97, 3) := by decide +kernel
theorem dX6_best_46 : decode cX6_best 46 = .ok (.iload 5, 2) := by decide +kernel
theorem dX6_best_48 : decode cX6_best 48 = .ok (.isub, 1) := by decide +kernel
theorem dX6_best_49 : decode cX6_best 49 = .ok (.iload_n 3, 1) := by decide +kernel
theorem dX6_best_50 : decode cX6_best 50 = .ok (.if_icmp .lt 6, 3) := by decide +kernel
theorem dX6_best_53 : decode cX6_best 53 = .ok (.goto 14, 3) := by decide +kernel
theorem dX6_best_56 : decode cX6_best 56 = .ok (.iload 4, 2) := by decide +kernel
theorem dX6_best_58 : decode cX6_best 58 = .ok (.istore_n 2, 1) := by decide +kernel
theorem dX6_best_59 : decode cX6_best 59 = .ok (.aload_n 0, 1) := by decide +kernel
theorem dX6_best_60 : decode cX6_best 60 = .ok (.getfield 97, 3) := by decide +kernel
theorem dX6_best_63 : decode cX6_best 63 = .ok (.iload 5, 2) := by decide +kernel
theorem dX6_best_65 : decode cX6_best 65 = .ok (.isub, 1) := by decide +kernel
theorem dX6_best_66 : decode cX6_best 66 = .ok (.istore_n 3, 1) := by decide +kernel
theorem dX6_best_67 : decode cX6_best 67 = .ok (.iinc 4 1, 3) := by decide +kernel
theorem dX6_best_70 : decode cX6_best 70 = .ok (.goto (-63), 3) := by decide +kernel
theorem dX6_best_73 : decode cX6_best 73 = .ok (.iload_n 2, 1) := by decide +kernel
theorem dX6_best_74 : decode cX6_best 74 = .ok (.ireturn, 1) := by decide +kernel
theorem dX6_bestFor_0 : decode cX6_bestFor 0 = .ok (.aload_n 0, 1) := by decide +kernel
theorem dX6_bestFor_1 : decode cX6_bestFor 1 = .ok (.iconst 0, 1) := by decide +kernel
theorem dX6_bestFor_2 : decode cX6_bestFor 2 = .ok (.putfield 47, 3) := by decide +kernel
theorem dX6_bestFor_5 : decode cX6_bestFor 5 = .ok (.aload_n 0, 1) := by decide +kernel
theorem dX6_bestFor_6 : decode cX6_bestFor 6 = .ok (.iload_n 1, 1) := by decide +kernel
theorem dX6_bestFor_7 : decode cX6_bestFor 7 = .ok (.invokevirtual 68, 3) := by decide +kernel
theorem dX6_bestFor_10 : decode cX6_bestFor 10 = .ok (.ifCond .eq 11, 3) := by decide +kernel
theorem dX6_bestFor_13 : decode cX6_bestFor 13 = .ok (.aload_n 0, 1) := by decide +kernel
theorem dX6_bestFor_14 : decode cX6_bestFor 14 = .ok (.iload_n 1, 1) := by decide +kernel
theorem dX6_bestFor_15 : decode cX6_bestFor 15 = .ok (.invokevirtual 138, 3) := by decide +kernel
theorem dX6_bestFor_18 : decode cX6_bestFor 18 = .ok (.goto 8, 3) := by decide +kernel
theorem dX6_bestFor_21 : decode cX6_bestFor 21 = .ok (.aload_n 0, 1) := by decide +kernel
theorem dX6_bestFor_22 : decode cX6_bestFor 22 = .ok (.iconst 1, 1) := by decide +kernel
theorem dX6_bestFor_23 : decode cX6_bestFor 23 = .ok (.invokevirtual 64, 3) := by decide +kernel
theorem dX6_bestFor_26 : decode cX6_bestFor 26 = .ok (.ireturn, 1) := by decide +kernel
theorem dX6_place_0 : decode cX6_place 0 = .ok (.aload_n 0, 1) := by decide +kernel
theorem dX6_place_1 : decode cX6_place 1 = .ok (.iload_n 1, 1) := by decide +kernel
theorem dX6_place_2 : decode cX6_place 2 = .ok (.invokevirtual 138, 3) := by decide +kernel
theorem dX6_place_5 : decode cX6_place 5 = .ok (.istore_n 2, 1) := by decide +kernel
theorem dX6_place_6 : decode cX6_place 6 = .ok (.iload_n 2, 1) := by decide +kernel
theorem dX6_place_7 : decode cX6_place 7 = .ok (.iconst (-1), 1) := by decide +kernel
theorem dX6_place_8 : decode cX6_place 8 = .ok (.if_icmp .ne 56, 3) := by decide +kernel
theorem dX6_place_11 : decode cX6_place 11 = .ok (.aload_n 0, 1) := by decide +kernel
theorem dX6_place_12 : decode cX6_place 12 = .ok (.getfield 57, 3) := by decide +kernel
theorem dX6_place_15 : decode cX6_place 15 = .ok (.bipush 12, 2) := by decide +kernel
theorem dX6_place_17 : decode cX6_place 17 = .ok (.if_icmp .ge 47, 3) := by decide +kernel
theorem dX6_place_20 : decode cX6_place 20 = .ok (.aload_n 0, 1) := by decide +kernel
theorem dX6_place_21 : decode cX6_place 21 = .ok (.dup, 1) := by decide +kernel
theorem dX6_place_22 : decode cX6_place 22 = .ok (.getfield 57, 3) := by decide +kernel
theorem dX6_place_25 : decode cX6_place 25 = .ok (.iconst 1, 1) := by decide +kernel
theorem dX6_place_26 : decode cX6_place 26 = .ok (.iadd, 1) := by decide +kernel
theorem dX6_place_27 : decode cX6_place 27 = .ok (.putfield 57, 3) := by decide +kernel
theorem dX6_place_30 : decode cX6_place 30 = .ok (.aload_n 0, 1) := by decide +kernel
theorem dX6_place_31 : decode cX6_place 31 = .ok (.aload_n 0, 1) := by decide +kernel
theorem dX6_place_32 : decode cX6_place 32 = .ok (.getfield 57, 3) := by decide +kernel
theorem dX6_place_35 : decode cX6_place 35 = .ok (.iconst 1, 1) := by decide +kernel
theorem dX6_place_36 : decode cX6_place 36 = .ok (.isub, 1) := by decide +kernel
theorem dX6_place_37 : decode cX6_place 37 = .ok (.iload_n 1, 1) := by decide +kernel
theorem dX6_place_38 : decode cX6_place 38 = .ok (.invokevirtual 129, 3) := by decide +kernel
theorem dX6_place_41 : decode cX6_place 41 = .ok (.ifCond .eq 13, 3) := by decide +kernel
theorem dX6_place_44 : decode cX6_place 44 = .ok (.aload_n 0, 1) := by decide +kernel
theorem dX6_place_45 : decode cX6_place 45 = .ok (.getfield 57, 3) := by decide +kernel
theorem dX6_place_48 : decode cX6_place 48 = .ok (.iconst 1, 1) := by decide +kernel
theorem dX6_place_49 : decode cX6_place 49 = .ok (.isub, 1) := by decide +kernel
theorem dX6_place_50 : decode cX6_place 50 = .ok (.istore_n 2, 1) := by decide +kernel
theorem dX6_place_51 : decode cX6_place 51 = .ok (.goto 13, 3) := by decide +kernel
theorem dX6_place_54 : decode cX6_place 54 = .ok (.aload_n 0, 1) := by decide +kernel
theorem dX6_place_55 : decode cX6_place 55 = .ok (.dup, 1) := by decide +kernel
theorem dX6_place_56 : decode cX6_place 56 = .ok (.getfield 57, 3) := by decide +kernel
theorem dX6_place_59 : decode cX6_place 59 = .ok (.iconst 1, 1) := by decide +kernel
theorem dX6_place_60 : decode cX6_place 60 = .ok (.isub, 1) := by decide +kernel
theorem dX6_place_61 : decode cX6_place 61 = .ok (.putfield 57, 3) := by decide +kernel
theorem dX6_place_64 : decode cX6_place 64 = .ok (.aload_n 0, 1) := by decide +kernel
theorem dX6_place_65 : decode cX6_place 65 = .ok (.getfield 25, 3) := by decide +kernel
theorem dX6_place_68 : decode cX6_place 68 = .ok (.iload_n 1, 1) := by decide +kernel
theorem dX6_place_69 : decode cX6_place 69 = .ok (.iload_n 2, 1) := by decide +kernel
theorem dX6_place_70 : decode cX6_place 70 = .ok (.iastore, 1) := by decide +kernel
theorem dX6_place_71 : decode cX6_place 71 = .ok (.return_, 1) := by decide +kernel
theorem dX6_plan_0 : decode cX6_plan 0 = .ok (.aload_n 0, 1) := by decide +kernel
theorem dX6_plan_1 : decode cX6_plan 1 = .ok (.iconst 0, 1) := by decide +kernel
theorem dX6_plan_2 : decode cX6_plan 2 = .ok (.putfield 47, 3) := by decide +kernel
theorem dX6_plan_5 : decode cX6_plan 5 = .ok (.bipush 40, 2) := by decide +kernel
theorem dX6_plan_7 : decode cX6_plan 7 = .ok (.newarray .boolean, 2) := by decide +kernel
theorem dX6_plan_9 : decode cX6_plan 9 = .ok (.astore_n 1, 1) := by decide +kernel
theorem dX6_plan_10 : decode cX6_plan 10 = .ok (.iconst 0, 1) := by decide +kernel
theorem dX6_plan_11 : decode cX6_plan 11 = .ok (.istore_n 2, 1) := by decide +kernel
theorem dX6_plan_12 : decode cX6_plan 12 = .ok (.iload_n 2, 1) := by decide +kernel
theorem dX6_plan_13 : decode cX6_plan 13 = .ok (.aload_n 0, 1) := by decide +kernel
theorem dX6_plan_14 : decode cX6_plan 14 = .ok (.getfield 50, 3) := by decide +kernel
theorem dX6_plan_17 : decode cX6_plan 17 = .ok (.if_icmp .ge 88, 3) := by decide +kernel
theorem dX6_plan_20 : decode cX6_plan 20 = .ok (.iconst (-1), 1) := by decide +kernel
theorem dX6_plan_21 : decode cX6_plan 21 = .ok (.istore_n 3, 1) := by decide +kernel
theorem dX6_plan_22 : decode cX6_plan 22 = .ok (.iconst 0, 1) := by decide +kernel
theorem dX6_plan_23 : decode cX6_plan 23 = .ok (.istore 4, 2) := by decide +kernel
theorem dX6_plan_25 : decode cX6_plan 25 = .ok (.iload 4, 2) := by decide +kernel
theorem dX6_plan_27 : decode cX6_plan 27 = .ok (.aload_n 0, 1) := by decide +kernel
theorem dX6_plan_28 : decode cX6_plan 28 = .ok (.getfield 50, 3) := by decide +kernel
theorem dX6_plan_31 : decode cX6_plan 31 = .ok (.if_icmp .ge 51, 3) := by decide +kernel
theorem dX6_plan_34 : decode cX6_plan 34 = .ok (.aload_n 1, 1) := by decide +kernel
theorem dX6_plan_35 : decode cX6_plan 35 = .ok (.iload 4, 2) := by decide +kernel
theorem dX6_plan_37 : decode cX6_plan 37 = .ok (.baload, 1) := by decide +kernel
theorem dX6_plan_38 : decode cX6_plan 38 = .ok (.ifCond .ne 38, 3) := by decide +kernel
theorem dX6_plan_41 : decode cX6_plan 41 = .ok (.aload_n 0, 1) := by decide +kernel
theorem dX6_plan_42 : decode cX6_plan 42 = .ok (.getfield 25, 3) := by decide +kernel
theorem dX6_plan_45 : decode cX6_plan 45 = .ok (.iload 4, 2) := by decide +kernel
theorem dX6_plan_47 : decode cX6_plan 47 = .ok (.iaload, 1) := by decide +kernel
theorem dX6_plan_48 : decode cX6_plan 48 = .ok (.iconst (-1), 1) := by decide +kernel
theorem dX6_plan_49 : decode cX6_plan 49 = .ok (.if_icmp .ne 27, 3) := by decide +kernel
theorem dX6_plan_52 : decode cX6_plan 52 = .ok (.iload_n 3, 1) := by decide +kernel
theorem dX6_plan_53 : decode cX6_plan 53 = .ok (.iconst (-1), 1) := by decide +kernel
theorem dX6_plan_54 : decode cX6_plan 54 = .ok (.if_icmp .eq 19, 3) := by decide +kernel
theorem dX6_plan_57 : decode cX6_plan 57 = .ok (.aload_n 0, 1) := by decide +kernel
theorem dX6_plan_58 : decode cX6_plan 58 = .ok (.getfield 19, 3) := by decide +kernel
theorem dX6_plan_61 : decode cX6_plan 61 = .ok (.iload 4, 2) := by decide +kernel
theorem dX6_plan_63 : decode cX6_plan 63 = .ok (.iaload, 1) := by decide +kernel
theorem dX6_plan_64 : decode cX6_plan 64 = .ok (.aload_n 0, 1) := by decide +kernel
theorem dX6_plan_65 : decode cX6_plan 65 = .ok (.getfield 19, 3) := by decide +kernel
theorem dX6_plan_68 : decode cX6_plan 68 = .ok (.iload_n 3, 1) := by decide +kernel
theorem dX6_plan_69 : decode cX6_plan 69 = .ok (.iaload, 1) := by decide +kernel
theorem dX6_plan_70 : decode cX6_plan 70 = .ok (.if_icmp .ge 6, 3) := by decide +kernel
theorem dX6_plan_73 : decode cX6_plan 73 = .ok (.iload 4, 2) := by decide +kernel
theorem dX6_plan_75 : decode cX6_plan 75 = .ok (.istore_n 3, 1) := by decide +kernel
theorem dX6_plan_76 : decode cX6_plan 76 = .ok (.iinc 4 1, 3) := by decide +kernel
theorem dX6_plan_79 : decode cX6_plan 79 = .ok (.goto (-54), 3) := by decide +kernel
theorem dX6_plan_82 : decode cX6_plan 82 = .ok (.iload_n 3, 1) := by decide +kernel
theorem dX6_plan_83 : decode cX6_plan 83 = .ok (.iconst (-1), 1) := by decide +kernel
theorem dX6_plan_84 : decode cX6_plan 84 = .ok (.if_icmp .ne 6, 3) := by decide +kernel
theorem dX6_plan_87 : decode cX6_plan 87 = .ok (.goto 18, 3) := by decide +kernel
theorem dX6_plan_90 : decode cX6_plan 90 = .ok (.aload_n 1, 1) := by decide +kernel
theorem dX6_plan_91 : decode cX6_plan 91 = .ok (.iload_n 3, 1) := by decide +kernel
theorem dX6_plan_92 : decode cX6_plan 92 = .ok (.iconst 1, 1) := by decide +kernel
theorem dX6_plan_93 : decode cX6_plan 93 = .ok (.bastore, 1) := by decide +kernel
theorem dX6_plan_94 : decode cX6_plan 94 = .ok (.aload_n 0, 1) := by decide +kernel
theorem dX6_plan_95 : decode cX6_plan 95 = .ok (.iload_n 3, 1) := by decide +kernel
theorem dX6_plan_96 : decode cX6_plan 96 = .ok (.invokevirtual 141, 3) := by decide +kernel
theorem dX6_plan_99 : decode cX6_plan 99 = .ok (.iinc 2 1, 3) := by decide +kernel
theorem dX6_plan_102 : decode cX6_plan 102 = .ok (.goto (-90), 3) := by decide +kernel
theorem dX6_plan_105 : decode cX6_plan 105 = .ok (.aload_n 0, 1) := by decide +kernel
theorem dX6_plan_106 : decode cX6_plan 106 = .ok (.invokevirtual 77, 3) := by decide +kernel
theorem dX6_plan_109 : decode cX6_plan 109 = .ok (.ireturn, 1) := by decide +kernel
theorem dX6_exchange_0 : decode cX6_exchange 0 = .ok (.iconst 0, 1) := by decide +kernel
theorem dX6_exchange_1 : decode cX6_exchange 1 = .ok (.istore 4, 2) := by decide +kernel
theorem dX6_exchange_3 : decode cX6_exchange 3 = .ok (.iload 4, 2) := by decide +kernel
theorem dX6_exchange_5 : decode cX6_exchange 5 = .ok (.aload_n 0, 1) := by decide +kernel
theorem dX6_exchange_6 : decode cX6_exchange 6 = .ok (.getfield 50, 3) := by decide +kernel
theorem dX6_exchange_9 : decode cX6_exchange 9 = .ok (.if_icmp .ge 79, 3) := by decide +kernel
theorem dX6_exchange_12 : decode cX6_exchange 12 = .ok (.aload_n 0, 1) := by decide +kernel
theorem dX6_exchange_13 : decode cX6_exchange 13 = .ok (.getfield 19, 3) := by decide +kernel
theorem dX6_exchange_16 : decode cX6_exchange 16 = .ok (.iload 4, 2) := by decide +kernel
theorem dX6_exchange_18 : decode cX6_exchange 18 = .ok (.iaload, 1) := by decide +kernel
theorem dX6_exchange_19 : decode cX6_exchange 19 = .ok (.iload_n 3, 1) := by decide +kernel
theorem dX6_exchange_20 : decode cX6_exchange 20 = .ok (.if_icmp .lt 62, 3) := by decide +kernel
theorem dX6_exchange_23 : decode cX6_exchange 23 = .ok (.aload_n 0, 1) := by decide +kernel
theorem dX6_exchange_24 : decode cX6_exchange 24 = .ok (.getfield 25, 3) := by decide +kernel
theorem dX6_exchange_27 : decode cX6_exchange 27 = .ok (.iload 4, 2) := by decide +kernel
theorem dX6_exchange_29 : decode cX6_exchange 29 = .ok (.iaload, 1) := by decide +kernel
theorem dX6_exchange_30 : decode cX6_exchange 30 = .ok (.iconst (-1), 1) := by decide +kernel
theorem dX6_exchange_31 : decode cX6_exchange 31 = .ok (.if_icmp .eq 51, 3) := by decide +kernel
theorem dX6_exchange_34 : decode cX6_exchange 34 = .ok (.aload_n 0, 1) := by decide +kernel
theorem dX6_exchange_35 : decode cX6_exchange 35 = .ok (.getfield 25, 3) := by decide +kernel
theorem dX6_exchange_38 : decode cX6_exchange 38 = .ok (.iload 4, 2) := by decide +kernel
theorem dX6_exchange_40 : decode cX6_exchange 40 = .ok (.iaload, 1) := by decide +kernel
theorem dX6_exchange_41 : decode cX6_exchange 41 = .ok (.iload_n 1, 1) := by decide +kernel
theorem dX6_exchange_42 : decode cX6_exchange 42 = .ok (.if_icmp .eq 17, 3) := by decide +kernel
theorem dX6_exchange_45 : decode cX6_exchange 45 = .ok (.aload_n 0, 1) := by decide +kernel
theorem dX6_exchange_46 : decode cX6_exchange 46 = .ok (.getfield 25, 3) := by decide +kernel
theorem dX6_exchange_49 : decode cX6_exchange 49 = .ok (.iload 4, 2) := by decide +kernel
theorem dX6_exchange_51 : decode cX6_exchange 51 = .ok (.iaload, 1) := by decide +kernel
theorem dX6_exchange_52 : decode cX6_exchange 52 = .ok (.iload_n 2, 1) := by decide +kernel
theorem dX6_exchange_53 : decode cX6_exchange 53 = .ok (.if_icmp .eq 6, 3) := by decide +kernel
theorem dX6_exchange_56 : decode cX6_exchange 56 = .ok (.goto 26, 3) := by decide +kernel
theorem dX6_exchange_59 : decode cX6_exchange 59 = .ok (.aload_n 0, 1) := by decide +kernel
theorem dX6_exchange_60 : decode cX6_exchange 60 = .ok (.getfield 25, 3) := by decide +kernel
theorem dX6_exchange_63 : decode cX6_exchange 63 = .ok (.iload 4, 2) := by decide +kernel
theorem dX6_exchange_65 : decode cX6_exchange 65 = .ok (.aload_n 0, 1) := by decide +kernel
theorem dX6_exchange_66 : decode cX6_exchange 66 = .ok (.getfield 25, 3) := by decide +kernel
theorem dX6_exchange_69 : decode cX6_exchange 69 = .ok (.iload 4, 2) := by decide +kernel
theorem dX6_exchange_71 : decode cX6_exchange 71 = .ok (.iaload, 1) := by decide +kernel
theorem dX6_exchange_72 : decode cX6_exchange 72 = .ok (.iload_n 1, 1) := by decide +kernel
theorem dX6_exchange_73 : decode cX6_exchange 73 = .ok (.if_icmp .ne 7, 3) := by decide +kernel
theorem dX6_exchange_76 : decode cX6_exchange 76 = .ok (.iload_n 2, 1) := by decide +kernel
theorem dX6_exchange_77 : decode cX6_exchange 77 = .ok (.goto 4, 3) := by decide +kernel
theorem dX6_exchange_80 : decode cX6_exchange 80 = .ok (.iload_n 1, 1) := by decide +kernel
theorem dX6_exchange_81 : decode cX6_exchange 81 = .ok (.iastore, 1) := by decide +kernel
theorem dX6_exchange_82 : decode cX6_exchange 82 = .ok (.iinc 4 1, 3) := by decide +kernel
theorem dX6_exchange_85 : decode cX6_exchange 85 = .ok (.goto (-82), 3) := by decide +kernel
theorem dX6_exchange_88 : decode cX6_exchange 88 = .ok (.return_, 1) := by decide +kernel
theorem dX6_canExchange_0 : decode cX6_canExchange 0 = .ok (.aload_n 0, 1) := by decide +kernel
theorem dX6_canExchange_1 : decode cX6_canExchange 1 = .ok (.iload_n 1, 1) := by decide +kernel
theorem dX6_canExchange_2 : decode cX6_canExchange 2 = .ok (.invokevirtual 119, 3) := by decide +kernel
theorem dX6_canExchange_5 : decode cX6_canExchange 5 = .ok (.ifCond .ne 11, 3) := by decide +kernel
theorem dX6_canExchange_8 : decode cX6_canExchange 8 = .ok (.aload_n 0, 1) := by decide +kernel
theorem dX6_canExchange_9 : decode cX6_canExchange 9 = .ok (.iload_n 2, 1) := by decide +kernel
theorem dX6_canExchange_10 : decode cX6_canExchange 10 = .ok (.invokevirtual 119, 3) := by decide +kernel
theorem dX6_canExchange_13 : decode cX6_canExchange 13 = .ok (.ifCond .eq 5, 3) := by decide +kernel
theorem dX6_canExchange_16 : decode cX6_canExchange 16 = .ok (.iconst 0, 1) := by decide +kernel
theorem dX6_canExchange_17 : decode cX6_canExchange 17 = .ok (.ireturn, 1) := by decide +kernel
theorem dX6_canExchange_18 : decode cX6_canExchange 18 = .ok (.aload_n 0, 1) := by decide +kernel
theorem dX6_canExchange_19 : decode cX6_canExchange 19 = .ok (.aload_n 0, 1) := by decide +kernel
theorem dX6_canExchange_20 : decode cX6_canExchange 20 = .ok (.iload_n 1, 1) := by decide +kernel
theorem dX6_canExchange_21 : decode cX6_canExchange 21 = .ok (.invokevirtual 135, 3) := by decide +kernel
theorem dX6_canExchange_24 : decode cX6_canExchange 24 = .ok (.ineg, 1) := by decide +kernel
theorem dX6_canExchange_25 : decode cX6_canExchange 25 = .ok (.aload_n 0, 1) := by decide +kernel
theorem dX6_canExchange_26 : decode cX6_canExchange 26 = .ok (.iload_n 2, 1) := by decide +kernel
theorem dX6_canExchange_27 : decode cX6_canExchange 27 = .ok (.invokevirtual 135, 3) := by decide +kernel
theorem dX6_canExchange_30 : decode cX6_canExchange 30 = .ok (.isub, 1) := by decide +kernel
theorem dX6_canExchange_31 : decode cX6_canExchange 31 = .ok (.putfield 144, 3) := by decide +kernel
theorem dX6_canExchange_34 : decode cX6_canExchange 34 = .ok (.aload_n 0, 1) := by decide +kernel
theorem dX6_canExchange_35 : decode cX6_canExchange 35 = .ok (.iload_n 1, 1) := by decide +kernel
theorem dX6_canExchange_36 : decode cX6_canExchange 36 = .ok (.iload_n 2, 1) := by decide +kernel
theorem dX6_canExchange_37 : decode cX6_canExchange 37 = .ok (.iload_n 3, 1) := by decide +kernel
theorem dX6_canExchange_38 : decode cX6_canExchange 38 = .ok (.invokevirtual 147, 3) := by decide +kernel
theorem dX6_canExchange_41 : decode cX6_canExchange 41 = .ok (.aload_n 0, 1) := by decide +kernel
theorem dX6_canExchange_42 : decode cX6_canExchange 42 = .ok (.iload_n 1, 1) := by decide +kernel
theorem dX6_canExchange_43 : decode cX6_canExchange 43 = .ok (.invokevirtual 71, 3) := by decide +kernel
theorem dX6_canExchange_46 : decode cX6_canExchange 46 = .ok (.istore 4, 2) := by decide +kernel
theorem dX6_canExchange_48 : decode cX6_canExchange 48 = .ok (.aload_n 0, 1) := by decide +kernel
theorem dX6_canExchange_49 : decode cX6_canExchange 49 = .ok (.dup, 1) := by decide +kernel
theorem dX6_canExchange_50 : decode cX6_canExchange 50 = .ok (.getfield 144, 3) := by decide +kernel
theorem dX6_canExchange_53 : decode cX6_canExchange 53 = .ok (.aload_n 0, 1) := by decide +kernel
theorem dX6_canExchange_54 : decode cX6_canExchange 54 = .ok (.getfield 97, 3) := by decide +kernel
theorem dX6_canExchange_57 : decode cX6_canExchange 57 = .ok (.iadd, 1) := by decide +kernel
theorem dX6_canExchange_58 : decode cX6_canExchange 58 = .ok (.putfield 144, 3) := by decide +kernel
theorem dX6_canExchange_61 : decode cX6_canExchange 61 = .ok (.aload_n 0, 1) := by decide +kernel
theorem dX6_canExchange_62 : decode cX6_canExchange 62 = .ok (.iload_n 2, 1) := by decide +kernel
theorem dX6_canExchange_63 : decode cX6_canExchange 63 = .ok (.invokevirtual 71, 3) := by decide +kernel
theorem dX6_canExchange_66 : decode cX6_canExchange 66 = .ok (.ifCond .eq 12, 3) := by decide +kernel
theorem dX6_canExchange_69 : decode cX6_canExchange 69 = .ok (.iload 4, 2) := by decide +kernel
theorem dX6_canExchange_71 : decode cX6_canExchange 71 = .ok (.ifCond .eq 7, 3) := by decide +kernel
theorem dX6_canExchange_74 : decode cX6_canExchange 74 = .ok (.iconst 1, 1) := by decide +kernel
theorem dX6_canExchange_75 : decode cX6_canExchange 75 = .ok (.goto 4, 3) := by decide +kernel
theorem dX6_canExchange_78 : decode cX6_canExchange 78 = .ok (.iconst 0, 1) := by decide +kernel
theorem dX6_canExchange_79 : decode cX6_canExchange 79 = .ok (.istore 4, 2) := by decide +kernel
theorem dX6_canExchange_81 : decode cX6_canExchange 81 = .ok (.aload_n 0, 1) := by decide +kernel
theorem dX6_canExchange_82 : decode cX6_canExchange 82 = .ok (.dup, 1) := by decide +kernel
theorem dX6_canExchange_83 : decode cX6_canExchange 83 = .ok (.getfield 144, 3) := by decide +kernel
theorem dX6_canExchange_86 : decode cX6_canExchange 86 = .ok (.aload_n 0, 1) := by decide +kernel
theorem dX6_canExchange_87 : decode cX6_canExchange 87 = .ok (.getfield 97, 3) := by decide +kernel
theorem dX6_canExchange_90 : decode cX6_canExchange 90 = .ok (.iadd, 1) := by decide +kernel
theorem dX6_canExchange_91 : decode cX6_canExchange 91 = .ok (.putfield 144, 3) := by decide +kernel
theorem dX6_canExchange_94 : decode cX6_canExchange 94 = .ok (.aload_n 0, 1) := by decide +kernel
theorem dX6_canExchange_95 : decode cX6_canExchange 95 = .ok (.iload_n 1, 1) := by decide +kernel
theorem dX6_canExchange_96 : decode cX6_canExchange 96 = .ok (.iload_n 2, 1) := by decide +kernel
theorem dX6_canExchange_97 : decode cX6_canExchange 97 = .ok (.iload_n 3, 1) := by decide +kernel
theorem dX6_canExchange_98 : decode cX6_canExchange 98 = .ok (.invokevirtual 147, 3) := by decide +kernel
theorem dX6_canExchange_101 : decode cX6_canExchange 101 = .ok (.iload 4, 2) := by decide +kernel
theorem dX6_canExchange_103 : decode cX6_canExchange 103 = .ok (.ireturn, 1) := by decide +kernel
theorem dX6_swap_0 : decode cX6_swap 0 = .ok (.aload_n 0, 1) := by decide +kernel
theorem dX6_swap_1 : decode cX6_swap 1 = .ok (.iconst 0, 1) := by decide +kernel
theorem dX6_swap_2 : decode cX6_swap 2 = .ok (.putfield 47, 3) := by decide +kernel
theorem dX6_swap_5 : decode cX6_swap 5 = .ok (.aload_n 0, 1) := by decide +kernel
theorem dX6_swap_6 : decode cX6_swap 6 = .ok (.iload_n 1, 1) := by decide +kernel
theorem dX6_swap_7 : decode cX6_swap 7 = .ok (.invokevirtual 126, 3) := by decide +kernel
theorem dX6_swap_10 : decode cX6_swap 10 = .ok (.ifCond .eq 11, 3) := by decide +kernel
theorem dX6_swap_13 : decode cX6_swap 13 = .ok (.aload_n 0, 1) := by decide +kernel
theorem dX6_swap_14 : decode cX6_swap 14 = .ok (.iload_n 2, 1) := by decide +kernel
theorem dX6_swap_15 : decode cX6_swap 15 = .ok (.invokevirtual 126, 3) := by decide +kernel
theorem dX6_swap_18 : decode cX6_swap 18 = .ok (.ifCond .ne 9, 3) := by decide +kernel
theorem dX6_swap_21 : decode cX6_swap 21 = .ok (.aload_n 0, 1) := by decide +kernel
theorem dX6_swap_22 : decode cX6_swap 22 = .ok (.iconst 1, 1) := by decide +kernel
theorem dX6_swap_23 : decode cX6_swap 23 = .ok (.invokevirtual 64, 3) := by decide +kernel
theorem dX6_swap_26 : decode cX6_swap 26 = .ok (.ireturn, 1) := by decide +kernel
theorem dX6_swap_27 : decode cX6_swap 27 = .ok (.iload_n 1, 1) := by decide +kernel
theorem dX6_swap_28 : decode cX6_swap 28 = .ok (.iload_n 2, 1) := by decide +kernel
theorem dX6_swap_29 : decode cX6_swap 29 = .ok (.if_icmp .ne 9, 3) := by decide +kernel
theorem dX6_swap_32 : decode cX6_swap 32 = .ok (.aload_n 0, 1) := by decide +kernel
theorem dX6_swap_33 : decode cX6_swap 33 = .ok (.iconst 2, 1) := by decide +kernel
theorem dX6_swap_34 : decode cX6_swap 34 = .ok (.invokevirtual 64, 3) := by decide +kernel
theorem dX6_swap_37 : decode cX6_swap 37 = .ok (.ireturn, 1) := by decide +kernel
theorem dX6_swap_38 : decode cX6_swap 38 = .ok (.aload_n 0, 1) := by decide +kernel
theorem dX6_swap_39 : decode cX6_swap 39 = .ok (.iload_n 1, 1) := by decide +kernel
theorem dX6_swap_40 : decode cX6_swap 40 = .ok (.iload_n 2, 1) := by decide +kernel
theorem dX6_swap_41 : decode cX6_swap 41 = .ok (.iload_n 3, 1) := by decide +kernel
theorem dX6_swap_42 : decode cX6_swap 42 = .ok (.invokevirtual 151, 3) := by decide +kernel
theorem dX6_swap_45 : decode cX6_swap 45 = .ok (.ifCond .ne 9, 3) := by decide +kernel
theorem dX6_swap_48 : decode cX6_swap 48 = .ok (.aload_n 0, 1) := by decide +kernel
theorem dX6_swap_49 : decode cX6_swap 49 = .ok (.iconst 3, 1) := by decide +kernel
theorem dX6_swap_50 : decode cX6_swap 50 = .ok (.invokevirtual 64, 3) := by decide +kernel
theorem dX6_swap_53 : decode cX6_swap 53 = .ok (.ireturn, 1) := by decide +kernel
theorem dX6_swap_54 : decode cX6_swap 54 = .ok (.aload_n 0, 1) := by decide +kernel
theorem dX6_swap_55 : decode cX6_swap 55 = .ok (.iload_n 1, 1) := by decide +kernel
theorem dX6_swap_56 : decode cX6_swap 56 = .ok (.iload_n 2, 1) := by decide +kernel
theorem dX6_swap_57 : decode cX6_swap 57 = .ok (.iload_n 3, 1) := by decide +kernel
theorem dX6_swap_58 : decode cX6_swap 58 = .ok (.invokevirtual 147, 3) := by decide +kernel
theorem dX6_swap_61 : decode cX6_swap 61 = .ok (.aload_n 0, 1) := by decide +kernel
theorem dX6_swap_62 : decode cX6_swap 62 = .ok (.getfield 144, 3) := by decide +kernel
theorem dX6_swap_65 : decode cX6_swap 65 = .ok (.ireturn, 1) := by decide +kernel
theorem dX6_improve_0 : decode cX6_improve 0 = .ok (.aload_n 0, 1) := by decide +kernel
theorem dX6_improve_1 : decode cX6_improve 1 = .ok (.iconst 0, 1) := by decide +kernel
theorem dX6_improve_2 : decode cX6_improve 2 = .ok (.putfield 47, 3) := by decide +kernel
theorem dX6_improve_5 : decode cX6_improve 5 = .ok (.iconst 0, 1) := by decide +kernel
theorem dX6_improve_6 : decode cX6_improve 6 = .ok (.istore_n 1, 1) := by decide +kernel
theorem dX6_improve_7 : decode cX6_improve 7 = .ok (.iconst (-1), 1) := by decide +kernel
theorem dX6_improve_8 : decode cX6_improve 8 = .ok (.istore_n 2, 1) := by decide +kernel
theorem dX6_improve_9 : decode cX6_improve 9 = .ok (.iconst (-1), 1) := by decide +kernel
theorem dX6_improve_10 : decode cX6_improve 10 = .ok (.istore_n 3, 1) := by decide +kernel
theorem dX6_improve_11 : decode cX6_improve 11 = .ok (.iconst 0, 1) := by decide +kernel
theorem dX6_improve_12 : decode cX6_improve 12 = .ok (.istore 4, 2) := by decide +kernel
theorem dX6_improve_14 : decode cX6_improve 14 = .ok (.iconst 0, 1) := by decide +kernel
theorem dX6_improve_15 : decode cX6_improve 15 = .ok (.istore 5, 2) := by decide +kernel
theorem dX6_improve_17 : decode cX6_improve 17 = .ok (.iload 5, 2) := by decide +kernel
theorem dX6_improve_19 : decode cX6_improve 19 = .ok (.aload_n 0, 1) := by decide +kernel
theorem dX6_improve_20 : decode cX6_improve 20 = .ok (.getfield 57, 3) := by decide +kernel
theorem dX6_improve_23 : decode cX6_improve 23 = .ok (.if_icmp .ge 168, 3) := by decide +kernel
theorem dX6_improve_26 : decode cX6_improve 26 = .ok (.iload 5, 2) := by decide +kernel
theorem dX6_improve_28 : decode cX6_improve 28 = .ok (.iconst 1, 1) := by decide +kernel
theorem dX6_improve_29 : decode cX6_improve 29 = .ok (.iadd, 1) := by decide +kernel
theorem dX6_improve_30 : decode cX6_improve 30 = .ok (.istore 6, 2) := by decide +kernel
theorem dX6_improve_32 : decode cX6_improve 32 = .ok (.iload 6, 2) := by decide +kernel
theorem dX6_improve_34 : decode cX6_improve 34 = .ok (.aload_n 0, 1) := by decide +kernel
theorem dX6_improve_35 : decode cX6_improve 35 = .ok (.getfield 57, 3) := by decide +kernel
theorem dX6_improve_38 : decode cX6_improve 38 = .ok (.if_icmp .ge 147, 3) := by decide +kernel
theorem dX6_improve_41 : decode cX6_improve 41 = .ok (.iconst 0, 1) := by decide +kernel
theorem dX6_improve_42 : decode cX6_improve 42 = .ok (.istore 7, 2) := by decide +kernel
theorem dX6_improve_44 : decode cX6_improve 44 = .ok (.iload 7, 2) := by decide +kernel
theorem dX6_improve_46 : decode cX6_improve 46 = .ok (.aload_n 0, 1) := by decide +kernel
theorem dX6_improve_47 : decode cX6_improve 47 = .ok (.getfield 50, 3) := by decide +kernel
theorem dX6_improve_50 : decode cX6_improve 50 = .ok (.if_icmp .ge 129, 3) := by decide +kernel
theorem dX6_improve_53 : decode cX6_improve 53 = .ok (.aload_n 0, 1) := by decide +kernel
theorem dX6_improve_54 : decode cX6_improve 54 = .ok (.getfield 25, 3) := by decide +kernel
theorem dX6_improve_57 : decode cX6_improve 57 = .ok (.iload 7, 2) := by decide +kernel
theorem dX6_improve_59 : decode cX6_improve 59 = .ok (.iaload, 1) := by decide +kernel
theorem dX6_improve_60 : decode cX6_improve 60 = .ok (.iload 5, 2) := by decide +kernel
theorem dX6_improve_62 : decode cX6_improve 62 = .ok (.if_icmp .eq 15, 3) := by decide +kernel
theorem dX6_improve_65 : decode cX6_improve 65 = .ok (.aload_n 0, 1) := by decide +kernel
theorem dX6_improve_66 : decode cX6_improve 66 = .ok (.getfield 25, 3) := by decide +kernel
theorem dX6_improve_69 : decode cX6_improve 69 = .ok (.iload 7, 2) := by decide +kernel
theorem dX6_improve_71 : decode cX6_improve 71 = .ok (.iaload, 1) := by decide +kernel
theorem dX6_improve_72 : decode cX6_improve 72 = .ok (.iload 6, 2) := by decide +kernel
theorem dX6_improve_74 : decode cX6_improve 74 = .ok (.if_icmp .ne 99, 3) := by decide +kernel
theorem dX6_improve_77 : decode cX6_improve 77 = .ok (.aload_n 0, 1) := by decide +kernel
theorem dX6_improve_78 : decode cX6_improve 78 = .ok (.iload 5, 2) := by decide +kernel
theorem dX6_improve_80 : decode cX6_improve 80 = .ok (.iload 6, 2) := by decide +kernel
theorem dX6_improve_82 : decode cX6_improve 82 = .ok (.aload_n 0, 1) := by decide +kernel
theorem dX6_improve_83 : decode cX6_improve 83 = .ok (.getfield 19, 3) := by decide +kernel
theorem dX6_improve_86 : decode cX6_improve 86 = .ok (.iload 7, 2) := by decide +kernel
theorem dX6_improve_88 : decode cX6_improve 88 = .ok (.iaload, 1) := by decide +kernel
theorem dX6_improve_89 : decode cX6_improve 89 = .ok (.invokevirtual 151, 3) := by decide +kernel
theorem dX6_improve_92 : decode cX6_improve 92 = .ok (.ifCond .ne 6, 3) := by decide +kernel
theorem dX6_improve_95 : decode cX6_improve 95 = .ok (.goto 78, 3) := by decide +kernel
theorem dX6_improve_98 : decode cX6_improve 98 = .ok (.aload_n 0, 1) := by decide +kernel
theorem dX6_improve_99 : decode cX6_improve 99 = .ok (.getfield 144, 3) := by decide +kernel
theorem dX6_improve_102 : decode cX6_improve 102 = .ok (.iload_n 1, 1) := by decide +kernel
theorem dX6_improve_103 : decode cX6_improve 103 = .ok (.if_icmp .lt 35, 3) := by decide +kernel
theorem dX6_improve_106 : decode cX6_improve 106 = .ok (.aload_n 0, 1) := by decide +kernel
theorem dX6_improve_107 : decode cX6_improve 107 = .ok (.getfield 144, 3) := by decide +kernel
theorem dX6_improve_110 : decode cX6_improve 110 = .ok (.iload_n 1, 1) := by decide +kernel
theorem dX6_improve_111 : decode cX6_improve 111 = .ok (.if_icmp .ne 31, 3) := by decide +kernel
theorem dX6_improve_114 : decode cX6_improve 114 = .ok (.iload_n 2, 1) := by decide +kernel
theorem dX6_improve_115 : decode cX6_improve 115 = .ok (.iload 5, 2) := by decide +kernel
theorem dX6_improve_117 : decode cX6_improve 117 = .ok (.if_icmp .ne 25, 3) := by decide +kernel
theorem dX6_improve_120 : decode cX6_improve 120 = .ok (.iload_n 3, 1) := by decide +kernel
theorem dX6_improve_121 : decode cX6_improve 121 = .ok (.iload 6, 2) := by decide +kernel
theorem dX6_improve_123 : decode cX6_improve 123 = .ok (.if_icmp .ne 19, 3) := by decide +kernel
theorem dX6_improve_126 : decode cX6_improve 126 = .ok (.aload_n 0, 1) := by decide +kernel
theorem dX6_improve_127 : decode cX6_improve 127 = .ok (.getfield 19, 3) := by decide +kernel
theorem dX6_improve_130 : decode cX6_improve 130 = .ok (.iload 7, 2) := by decide +kernel
theorem dX6_improve_132 : decode cX6_improve 132 = .ok (.iaload, 1) := by decide +kernel
theorem dX6_improve_133 : decode cX6_improve 133 = .ok (.iload 4, 2) := by decide +kernel
theorem dX6_improve_135 : decode cX6_improve 135 = .ok (.if_icmp .ge 7, 3) := by decide +kernel
theorem dX6_improve_138 : decode cX6_improve 138 = .ok (.iconst 1, 1) := by decide +kernel
theorem dX6_improve_139 : decode cX6_improve 139 = .ok (.goto 4, 3) := by decide +kernel
theorem dX6_improve_142 : decode cX6_improve 142 = .ok (.iconst 0, 1) := by decide +kernel
theorem dX6_improve_143 : decode cX6_improve 143 = .ok (.istore 8, 2) := by decide +kernel
theorem dX6_improve_145 : decode cX6_improve 145 = .ok (.iload 8, 2) := by decide +kernel
theorem dX6_improve_147 : decode cX6_improve 147 = .ok (.ifCond .ne 6, 3) := by decide +kernel
theorem dX6_improve_150 : decode cX6_improve 150 = .ok (.goto 23, 3) := by decide +kernel
theorem dX6_improve_153 : decode cX6_improve 153 = .ok (.aload_n 0, 1) := by decide +kernel
theorem dX6_improve_154 : decode cX6_improve 154 = .ok (.getfield 144, 3) := by decide +kernel
theorem dX6_improve_157 : decode cX6_improve 157 = .ok (.istore_n 1, 1) := by decide +kernel
theorem dX6_improve_158 : decode cX6_improve 158 = .ok (.iload 5, 2) := by decide +kernel
theorem dX6_improve_160 : decode cX6_improve 160 = .ok (.istore_n 2, 1) := by decide +kernel
theorem dX6_improve_161 : decode cX6_improve 161 = .ok (.iload 6, 2) := by decide +kernel
theorem dX6_improve_163 : decode cX6_improve 163 = .ok (.istore_n 3, 1) := by decide +kernel
theorem dX6_improve_164 : decode cX6_improve 164 = .ok (.aload_n 0, 1) := by decide +kernel
theorem dX6_improve_165 : decode cX6_improve 165 = .ok (.getfield 19, 3) := by decide +kernel
theorem dX6_improve_168 : decode cX6_improve 168 = .ok (.iload 7, 2) := by decide +kernel
theorem dX6_improve_170 : decode cX6_improve 170 = .ok (.iaload, 1) := by decide +kernel
theorem dX6_improve_171 : decode cX6_improve 171 = .ok (.istore 4, 2) := by decide +kernel
theorem dX6_improve_173 : decode cX6_improve 173 = .ok (.iinc 7 1, 3) := by decide +kernel
theorem dX6_improve_176 : decode cX6_improve 176 = .ok (.goto (-132), 3) := by decide +kernel
theorem dX6_improve_179 : decode cX6_improve 179 = .ok (.iinc 6 1, 3) := by decide +kernel
theorem dX6_improve_182 : decode cX6_improve 182 = .ok (.goto (-150), 3) := by decide +kernel
theorem dX6_improve_185 : decode cX6_improve 185 = .ok (.iinc 5 1, 3) := by decide +kernel
theorem dX6_improve_188 : decode cX6_improve 188 = .ok (.goto (-171), 3) := by decide +kernel
theorem dX6_improve_191 : decode cX6_improve 191 = .ok (.iload_n 2, 1) := by decide +kernel
theorem dX6_improve_192 : decode cX6_improve 192 = .ok (.iconst (-1), 1) := by decide +kernel
theorem dX6_improve_193 : decode cX6_improve 193 = .ok (.if_icmp .eq 11, 3) := by decide +kernel
theorem dX6_improve_196 : decode cX6_improve 196 = .ok (.aload_n 0, 1) := by decide +kernel
theorem dX6_improve_197 : decode cX6_improve 197 = .ok (.iload_n 2, 1) := by decide +kernel
theorem dX6_improve_198 : decode cX6_improve 198 = .ok (.iload_n 3, 1) := by decide +kernel
theorem dX6_improve_199 : decode cX6_improve 199 = .ok (.iload 4, 2) := by decide +kernel
theorem dX6_improve_201 : decode cX6_improve 201 = .ok (.invokevirtual 147, 3) := by decide +kernel
theorem dX6_improve_204 : decode cX6_improve 204 = .ok (.iload_n 1, 1) := by decide +kernel
theorem dX6_improve_205 : decode cX6_improve 205 = .ok (.ireturn, 1) := by decide +kernel
theorem dX6_allPay_0 : decode cX6_allPay 0 = .ok (.iconst 0, 1) := by decide +kernel
theorem dX6_allPay_1 : decode cX6_allPay 1 = .ok (.istore_n 1, 1) := by decide +kernel
theorem dX6_allPay_2 : decode cX6_allPay 2 = .ok (.iconst 0, 1) := by decide +kernel
theorem dX6_allPay_3 : decode cX6_allPay 3 = .ok (.istore_n 2, 1) := by decide +kernel
theorem dX6_allPay_4 : decode cX6_allPay 4 = .ok (.iload_n 2, 1) := by decide +kernel
theorem dX6_allPay_5 : decode cX6_allPay 5 = .ok (.aload_n 0, 1) := by decide +kernel
theorem dX6_allPay_6 : decode cX6_allPay 6 = .ok (.getfield 57, 3) := by decide +kernel
theorem dX6_allPay_9 : decode cX6_allPay 9 = .ok (.if_icmp .ge 17, 3) := by decide +kernel
theorem dX6_allPay_12 : decode cX6_allPay 12 = .ok (.iload_n 1, 1) := by decide +kernel
theorem dX6_allPay_13 : decode cX6_allPay 13 = .ok (.aload_n 0, 1) := by decide +kernel
theorem dX6_allPay_14 : decode cX6_allPay 14 = .ok (.iload_n 2, 1) := by decide +kernel
theorem dX6_allPay_15 : decode cX6_allPay 15 = .ok (.invokevirtual 135, 3) := by decide +kernel
theorem dX6_allPay_18 : decode cX6_allPay 18 = .ok (.iadd, 1) := by decide +kernel
theorem dX6_allPay_19 : decode cX6_allPay 19 = .ok (.istore_n 1, 1) := by decide +kernel
theorem dX6_allPay_20 : decode cX6_allPay 20 = .ok (.iinc 2 1, 3) := by decide +kernel
theorem dX6_allPay_23 : decode cX6_allPay 23 = .ok (.goto (-19), 3) := by decide +kernel
theorem dX6_allPay_26 : decode cX6_allPay 26 = .ok (.iload_n 1, 1) := by decide +kernel
theorem dX6_allPay_27 : decode cX6_allPay 27 = .ok (.ireturn, 1) := by decide +kernel
theorem dX6_pay_0 : decode cX6_pay 0 = .ok (.aload_n 0, 1) := by decide +kernel
theorem dX6_pay_1 : decode cX6_pay 1 = .ok (.iconst 0, 1) := by decide +kernel
theorem dX6_pay_2 : decode cX6_pay 2 = .ok (.putfield 47, 3) := by decide +kernel
theorem dX6_pay_5 : decode cX6_pay 5 = .ok (.aload_n 0, 1) := by decide +kernel
theorem dX6_pay_6 : decode cX6_pay 6 = .ok (.invokevirtual 154, 3) := by decide +kernel
theorem dX6_pay_9 : decode cX6_pay 9 = .ok (.ireturn, 1) := by decide +kernel
theorem dX6_use_0 : decode cX6_use 0 = .ok (.aload_n 0, 1) := by decide +kernel
theorem dX6_use_1 : decode cX6_use 1 = .ok (.iconst 0, 1) := by decide +kernel
theorem dX6_use_2 : decode cX6_use 2 = .ok (.putfield 47, 3) := by decide +kernel
theorem dX6_use_5 : decode cX6_use 5 = .ok (.iconst 0, 1) := by decide +kernel
theorem dX6_use_6 : decode cX6_use 6 = .ok (.istore_n 1, 1) := by decide +kernel
theorem dX6_use_7 : decode cX6_use 7 = .ok (.iconst 0, 1) := by decide +kernel
theorem dX6_use_8 : decode cX6_use 8 = .ok (.istore_n 2, 1) := by decide +kernel
theorem dX6_use_9 : decode cX6_use 9 = .ok (.iconst 0, 1) := by decide +kernel
theorem dX6_use_10 : decode cX6_use 10 = .ok (.istore_n 3, 1) := by decide +kernel
theorem dX6_use_11 : decode cX6_use 11 = .ok (.iload_n 3, 1) := by decide +kernel
theorem dX6_use_12 : decode cX6_use 12 = .ok (.aload_n 0, 1) := by decide +kernel
theorem dX6_use_13 : decode cX6_use 13 = .ok (.getfield 57, 3) := by decide +kernel
theorem dX6_use_16 : decode cX6_use 16 = .ok (.if_icmp .ge 68, 3) := by decide +kernel
theorem dX6_use_19 : decode cX6_use 19 = .ok (.aload_n 0, 1) := by decide +kernel
theorem dX6_use_20 : decode cX6_use 20 = .ok (.iload_n 3, 1) := by decide +kernel
theorem dX6_use_21 : decode cX6_use 21 = .ok (.invokevirtual 71, 3) := by decide +kernel
theorem dX6_use_24 : decode cX6_use 24 = .ok (.pop, 1) := by decide +kernel
theorem dX6_use_25 : decode cX6_use 25 = .ok (.iload_n 2, 1) := by decide +kernel
theorem dX6_use_26 : decode cX6_use 26 = .ok (.aload_n 0, 1) := by decide +kernel
theorem dX6_use_27 : decode cX6_use 27 = .ok (.getfield 94, 3) := by decide +kernel
theorem dX6_use_30 : decode cX6_use 30 = .ok (.iadd, 1) := by decide +kernel
theorem dX6_use_31 : decode cX6_use 31 = .ok (.istore_n 2, 1) := by decide +kernel
theorem dX6_use_32 : decode cX6_use 32 = .ok (.iconst 0, 1) := by decide +kernel
theorem dX6_use_33 : decode cX6_use 33 = .ok (.istore 4, 2) := by decide +kernel
theorem dX6_use_35 : decode cX6_use 35 = .ok (.iload 4, 2) := by decide +kernel
theorem dX6_use_37 : decode cX6_use 37 = .ok (.aload_n 0, 1) := by decide +kernel
theorem dX6_use_38 : decode cX6_use 38 = .ok (.getfield 81, 3) := by decide +kernel
theorem dX6_use_41 : decode cX6_use 41 = .ok (.if_icmp .ge 37, 3) := by decide +kernel
theorem dX6_use_44 : decode cX6_use 44 = .ok (.iload_n 1, 1) := by decide +kernel
theorem dX6_use_45 : decode cX6_use 45 = .ok (.aload_n 0, 1) := by decide +kernel
theorem dX6_use_46 : decode cX6_use 46 = .ok (.getfield 22, 3) := by decide +kernel
theorem dX6_use_49 : decode cX6_use 49 = .ok (.aload_n 0, 1) := by decide +kernel
theorem dX6_use_50 : decode cX6_use 50 = .ok (.getfield 44, 3) := by decide +kernel
theorem dX6_use_53 : decode cX6_use 53 = .ok (.iload 4, 2) := by decide +kernel
theorem dX6_use_55 : decode cX6_use 55 = .ok (.iaload, 1) := by decide +kernel
theorem dX6_use_56 : decode cX6_use 56 = .ok (.iaload, 1) := by decide +kernel
theorem dX6_use_57 : decode cX6_use 57 = .ok (.aload_n 0, 1) := by decide +kernel
theorem dX6_use_58 : decode cX6_use 58 = .ok (.getfield 19, 3) := by decide +kernel
theorem dX6_use_61 : decode cX6_use 61 = .ok (.aload_n 0, 1) := by decide +kernel
theorem dX6_use_62 : decode cX6_use 62 = .ok (.getfield 44, 3) := by decide +kernel
theorem dX6_use_65 : decode cX6_use 65 = .ok (.iload 4, 2) := by decide +kernel
theorem dX6_use_67 : decode cX6_use 67 = .ok (.iaload, 1) := by decide +kernel
theorem dX6_use_68 : decode cX6_use 68 = .ok (.iaload, 1) := by decide +kernel
theorem dX6_use_69 : decode cX6_use 69 = .ok (.isub, 1) := by decide +kernel
theorem dX6_use_70 : decode cX6_use 70 = .ok (.iadd, 1) := by decide +kernel
theorem dX6_use_71 : decode cX6_use 71 = .ok (.istore_n 1, 1) := by decide +kernel
theorem dX6_use_72 : decode cX6_use 72 = .ok (.iinc 4 1, 3) := by decide +kernel
theorem dX6_use_75 : decode cX6_use 75 = .ok (.goto (-40), 3) := by decide +kernel
theorem dX6_use_78 : decode cX6_use 78 = .ok (.iinc 3 1, 3) := by decide +kernel
theorem dX6_use_81 : decode cX6_use 81 = .ok (.goto (-70), 3) := by decide +kernel
theorem dX6_use_84 : decode cX6_use 84 = .ok (.iload_n 1, 1) := by decide +kernel
theorem dX6_use_85 : decode cX6_use 85 = .ok (.ifCond .ne 7, 3) := by decide +kernel
theorem dX6_use_88 : decode cX6_use 88 = .ok (.dconst 0, 1) := by decide +kernel
theorem dX6_use_89 : decode cX6_use 89 = .ok (.goto 8, 3) := by decide +kernel
theorem dX6_use_92 : decode cX6_use 92 = .ok (.iload_n 1, 1) := by decide +kernel
theorem dX6_use_93 : decode cX6_use 93 = .ok (.i2d, 1) := by decide +kernel
theorem dX6_use_94 : decode cX6_use 94 = .ok (.iload_n 2, 1) := by decide +kernel
theorem dX6_use_95 : decode cX6_use 95 = .ok (.i2d, 1) := by decide +kernel
theorem dX6_use_96 : decode cX6_use 96 = .ok (.ddiv, 1) := by decide +kernel
theorem dX6_use_97 : decode cX6_use 97 = .ok (.dreturn, 1) := by decide +kernel
theorem dX6_addDriver_0 : decode cX6_addDriver 0 = .ok (.aload_n 0, 1) := by decide +kernel
theorem dX6_addDriver_1 : decode cX6_addDriver 1 = .ok (.iconst 0, 1) := by decide +kernel
theorem dX6_addDriver_2 : decode cX6_addDriver 2 = .ok (.putfield 47, 3) := by decide +kernel
theorem dX6_addDriver_5 : decode cX6_addDriver 5 = .ok (.aload_n 0, 1) := by decide +kernel
theorem dX6_addDriver_6 : decode cX6_addDriver 6 = .ok (.getfield 74, 3) := by decide +kernel
theorem dX6_addDriver_9 : decode cX6_addDriver 9 = .ok (.bipush 8, 2) := by decide +kernel
theorem dX6_addDriver_11 : decode cX6_addDriver 11 = .ok (.if_icmp .ne 9, 3) := by decide +kernel
theorem dX6_addDriver_14 : decode cX6_addDriver 14 = .ok (.aload_n 0, 1) := by decide +kernel
theorem dX6_addDriver_15 : decode cX6_addDriver 15 = .ok (.iconst 1, 1) := by decide +kernel
theorem dX6_addDriver_16 : decode cX6_addDriver 16 = .ok (.invokevirtual 64, 3) := by decide +kernel
theorem dX6_addDriver_19 : decode cX6_addDriver 19 = .ok (.ireturn, 1) := by decide +kernel
theorem dX6_addDriver_20 : decode cX6_addDriver 20 = .ok (.aload_n 0, 1) := by decide +kernel
theorem dX6_addDriver_21 : decode cX6_addDriver 21 = .ok (.dup, 1) := by decide +kernel
theorem dX6_addDriver_22 : decode cX6_addDriver 22 = .ok (.getfield 74, 3) := by decide +kernel
theorem dX6_addDriver_25 : decode cX6_addDriver 25 = .ok (.iconst 1, 1) := by decide +kernel
theorem dX6_addDriver_26 : decode cX6_addDriver 26 = .ok (.iadd, 1) := by decide +kernel
theorem dX6_addDriver_27 : decode cX6_addDriver 27 = .ok (.putfield 74, 3) := by decide +kernel
theorem dX6_addDriver_30 : decode cX6_addDriver 30 = .ok (.aload_n 0, 1) := by decide +kernel
theorem dX6_addDriver_31 : decode cX6_addDriver 31 = .ok (.getfield 74, 3) := by decide +kernel
theorem dX6_addDriver_34 : decode cX6_addDriver 34 = .ok (.iconst 1, 1) := by decide +kernel
theorem dX6_addDriver_35 : decode cX6_addDriver 35 = .ok (.isub, 1) := by decide +kernel
theorem dX6_addDriver_36 : decode cX6_addDriver 36 = .ok (.ireturn, 1) := by decide +kernel
theorem dX6_isDriver_0 : decode cX6_isDriver 0 = .ok (.iload_n 1, 1) := by decide +kernel
theorem dX6_isDriver_1 : decode cX6_isDriver 1 = .ok (.iconst 0, 1) := by decide +kernel
theorem dX6_isDriver_2 : decode cX6_isDriver 2 = .ok (.aload_n 0, 1) := by decide +kernel
theorem dX6_isDriver_3 : decode cX6_isDriver 3 = .ok (.getfield 74, 3) := by decide +kernel
theorem dX6_isDriver_6 : decode cX6_isDriver 6 = .ok (.iconst 1, 1) := by decide +kernel
theorem dX6_isDriver_7 : decode cX6_isDriver 7 = .ok (.isub, 1) := by decide +kernel
theorem dX6_isDriver_8 : decode cX6_isDriver 8 = .ok (.invokestatic 53, 3) := by decide +kernel
theorem dX6_isDriver_11 : decode cX6_isDriver 11 = .ok (.ireturn, 1) := by decide +kernel
theorem dX6_isDay_0 : decode cX6_isDay 0 = .ok (.iload_n 0, 1) := by decide +kernel
theorem dX6_isDay_1 : decode cX6_isDay 1 = .ok (.iconst 0, 1) := by decide +kernel
theorem dX6_isDay_2 : decode cX6_isDay 2 = .ok (.bipush 6, 2) := by decide +kernel
theorem dX6_isDay_4 : decode cX6_isDay 4 = .ok (.invokestatic 53, 3) := by decide +kernel
theorem dX6_isDay_7 : decode cX6_isDay 7 = .ok (.ireturn, 1) := by decide +kernel
theorem dX6_at_0 : decode cX6_at 0 = .ok (.iload_n 2, 1) := by decide +kernel
theorem dX6_at_1 : decode cX6_at 1 = .ok (.invokestatic 157, 3) := by decide +kernel
theorem dX6_at_4 : decode cX6_at 4 = .ok (.ifCond .eq 17, 3) := by decide +kernel
theorem dX6_at_7 : decode cX6_at 7 = .ok (.aload_n 0, 1) := by decide +kernel
theorem dX6_at_8 : decode cX6_at 8 = .ok (.getfield 28, 3) := by decide +kernel
theorem dX6_at_11 : decode cX6_at 11 = .ok (.bipush 7, 2) := by decide +kernel
theorem dX6_at_13 : decode cX6_at 13 = .ok (.iload_n 1, 1) := by decide +kernel
theorem dX6_at_14 : decode cX6_at 14 = .ok (.imul, 1) := by decide +kernel
theorem dX6_at_15 : decode cX6_at 15 = .ok (.iload_n 2, 1) := by decide +kernel
theorem dX6_at_16 : decode cX6_at 16 = .ok (.iadd, 1) := by decide +kernel
theorem dX6_at_17 : decode cX6_at 17 = .ok (.iaload, 1) := by decide +kernel
theorem dX6_at_18 : decode cX6_at 18 = .ok (.goto 4, 3) := by decide +kernel
theorem dX6_at_21 : decode cX6_at 21 = .ok (.iconst (-1), 1) := by decide +kernel
theorem dX6_at_22 : decode cX6_at 22 = .ok (.ireturn, 1) := by decide +kernel
theorem dX6_weekOf_0 : decode cX6_weekOf 0 = .ok (.iconst 0, 1) := by decide +kernel
theorem dX6_weekOf_1 : decode cX6_weekOf 1 = .ok (.istore_n 2, 1) := by decide +kernel
theorem dX6_weekOf_2 : decode cX6_weekOf 2 = .ok (.iconst 0, 1) := by decide +kernel
theorem dX6_weekOf_3 : decode cX6_weekOf 3 = .ok (.istore_n 3, 1) := by decide +kernel
theorem dX6_weekOf_4 : decode cX6_weekOf 4 = .ok (.iload_n 3, 1) := by decide +kernel
theorem dX6_weekOf_5 : decode cX6_weekOf 5 = .ok (.bipush 7, 2) := by decide +kernel
theorem dX6_weekOf_7 : decode cX6_weekOf 7 = .ok (.if_icmp .ge 36, 3) := by decide +kernel
theorem dX6_weekOf_10 : decode cX6_weekOf 10 = .ok (.iload_n 2, 1) := by decide +kernel
theorem dX6_weekOf_11 : decode cX6_weekOf 11 = .ok (.aload_n 0, 1) := by decide +kernel
theorem dX6_weekOf_12 : decode cX6_weekOf 12 = .ok (.iload_n 1, 1) := by decide +kernel
theorem dX6_weekOf_13 : decode cX6_weekOf 13 = .ok (.iload_n 3, 1) := by decide +kernel
theorem dX6_weekOf_14 : decode cX6_weekOf 14 = .ok (.invokevirtual 160, 3) := by decide +kernel
theorem dX6_weekOf_17 : decode cX6_weekOf 17 = .ok (.iconst (-1), 1) := by decide +kernel
theorem dX6_weekOf_18 : decode cX6_weekOf 18 = .ok (.if_icmp .ne 7, 3) := by decide +kernel
theorem dX6_weekOf_21 : decode cX6_weekOf 21 = .ok (.iconst 0, 1) := by decide +kernel
theorem dX6_weekOf_22 : decode cX6_weekOf 22 = .ok (.goto 13, 3) := by decide +kernel
theorem dX6_weekOf_25 : decode cX6_weekOf 25 = .ok (.aload_n 0, 1) := by decide +kernel
theorem dX6_weekOf_26 : decode cX6_weekOf 26 = .ok (.aload_n 0, 1) := by decide +kernel
theorem dX6_weekOf_27 : decode cX6_weekOf 27 = .ok (.iload_n 1, 1) := by decide +kernel
theorem dX6_weekOf_28 : decode cX6_weekOf 28 = .ok (.iload_n 3, 1) := by decide +kernel
theorem dX6_weekOf_29 : decode cX6_weekOf 29 = .ok (.invokevirtual 160, 3) := by decide +kernel
theorem dX6_weekOf_32 : decode cX6_weekOf 32 = .ok (.invokevirtual 135, 3) := by decide +kernel
theorem dX6_weekOf_35 : decode cX6_weekOf 35 = .ok (.iadd, 1) := by decide +kernel
theorem dX6_weekOf_36 : decode cX6_weekOf 36 = .ok (.istore_n 2, 1) := by decide +kernel
theorem dX6_weekOf_37 : decode cX6_weekOf 37 = .ok (.iinc 3 1, 3) := by decide +kernel
theorem dX6_weekOf_40 : decode cX6_weekOf 40 = .ok (.goto (-36), 3) := by decide +kernel
theorem dX6_weekOf_43 : decode cX6_weekOf 43 = .ok (.iload_n 2, 1) := by decide +kernel
theorem dX6_weekOf_44 : decode cX6_weekOf 44 = .ok (.ireturn, 1) := by decide +kernel
theorem dX6_isTaken_0 : decode cX6_isTaken 0 = .ok (.iconst 0, 1) := by decide +kernel
theorem dX6_isTaken_1 : decode cX6_isTaken 1 = .ok (.istore_n 3, 1) := by decide +kernel
theorem dX6_isTaken_2 : decode cX6_isTaken 2 = .ok (.iconst 0, 1) := by decide +kernel
theorem dX6_isTaken_3 : decode cX6_isTaken 3 = .ok (.istore 4, 2) := by decide +kernel
theorem dX6_isTaken_5 : decode cX6_isTaken 5 = .ok (.iload 4, 2) := by decide +kernel
theorem dX6_isTaken_7 : decode cX6_isTaken 7 = .ok (.aload_n 0, 1) := by decide +kernel
theorem dX6_isTaken_8 : decode cX6_isTaken 8 = .ok (.getfield 74, 3) := by decide +kernel
theorem dX6_isTaken_11 : decode cX6_isTaken 11 = .ok (.if_icmp .ge 30, 3) := by decide +kernel
theorem dX6_isTaken_14 : decode cX6_isTaken 14 = .ok (.iload_n 3, 1) := by decide +kernel
theorem dX6_isTaken_15 : decode cX6_isTaken 15 = .ok (.ifCond .ne 14, 3) := by decide +kernel
theorem dX6_isTaken_18 : decode cX6_isTaken 18 = .ok (.aload_n 0, 1) := by decide +kernel
theorem dX6_isTaken_19 : decode cX6_isTaken 19 = .ok (.iload 4, 2) := by decide +kernel
theorem dX6_isTaken_21 : decode cX6_isTaken 21 = .ok (.iload_n 1, 1) := by decide +kernel
theorem dX6_isTaken_22 : decode cX6_isTaken 22 = .ok (.invokevirtual 160, 3) := by decide +kernel
theorem dX6_isTaken_25 : decode cX6_isTaken 25 = .ok (.iload_n 2, 1) := by decide +kernel
theorem dX6_isTaken_26 : decode cX6_isTaken 26 = .ok (.if_icmp .ne 7, 3) := by decide +kernel
theorem dX6_isTaken_29 : decode cX6_isTaken 29 = .ok (.iconst 1, 1) := by decide +kernel
theorem dX6_isTaken_30 : decode cX6_isTaken 30 = .ok (.goto 4, 3) := by decide +kernel
theorem dX6_isTaken_33 : decode cX6_isTaken 33 = .ok (.iconst 0, 1) := by decide +kernel
theorem dX6_isTaken_34 : decode cX6_isTaken 34 = .ok (.istore_n 3, 1) := by decide +kernel
theorem dX6_isTaken_35 : decode cX6_isTaken 35 = .ok (.iinc 4 1, 3) := by decide +kernel
theorem dX6_isTaken_38 : decode cX6_isTaken 38 = .ok (.goto (-33), 3) := by decide +kernel
theorem dX6_isTaken_41 : decode cX6_isTaken 41 = .ok (.iload_n 3, 1) := by decide +kernel
theorem dX6_isTaken_42 : decode cX6_isTaken 42 = .ok (.ireturn, 1) := by decide +kernel
theorem dX6_longest_0 : decode cX6_longest 0 = .ok (.iconst 0, 1) := by decide +kernel
theorem dX6_longest_1 : decode cX6_longest 1 = .ok (.istore_n 3, 1) := by decide +kernel
theorem dX6_longest_2 : decode cX6_longest 2 = .ok (.iconst 0, 1) := by decide +kernel
theorem dX6_longest_3 : decode cX6_longest 3 = .ok (.istore 4, 2) := by decide +kernel
theorem dX6_longest_5 : decode cX6_longest 5 = .ok (.iconst 0, 1) := by decide +kernel
theorem dX6_longest_6 : decode cX6_longest 6 = .ok (.istore 5, 2) := by decide +kernel
theorem dX6_longest_8 : decode cX6_longest 8 = .ok (.iload 5, 2) := by decide +kernel
theorem dX6_longest_10 : decode cX6_longest 10 = .ok (.bipush 7, 2) := by decide +kernel
theorem dX6_longest_12 : decode cX6_longest 12 = .ok (.if_icmp .ge 43, 3) := by decide +kernel
theorem dX6_longest_15 : decode cX6_longest 15 = .ok (.iload 5, 2) := by decide +kernel
theorem dX6_longest_17 : decode cX6_longest 17 = .ok (.iload_n 2, 1) := by decide +kernel
theorem dX6_longest_18 : decode cX6_longest 18 = .ok (.if_icmp .eq 14, 3) := by decide +kernel
theorem dX6_longest_21 : decode cX6_longest 21 = .ok (.aload_n 0, 1) := by decide +kernel
theorem dX6_longest_22 : decode cX6_longest 22 = .ok (.iload_n 1, 1) := by decide +kernel
theorem dX6_longest_23 : decode cX6_longest 23 = .ok (.iload 5, 2) := by decide +kernel
theorem dX6_longest_25 : decode cX6_longest 25 = .ok (.invokevirtual 160, 3) := by decide +kernel
theorem dX6_longest_28 : decode cX6_longest 28 = .ok (.iconst (-1), 1) := by decide +kernel
theorem dX6_longest_29 : decode cX6_longest 29 = .ok (.if_icmp .eq 10, 3) := by decide +kernel
theorem dX6_longest_32 : decode cX6_longest 32 = .ok (.iload 4, 2) := by decide +kernel
theorem dX6_longest_34 : decode cX6_longest 34 = .ok (.iconst 1, 1) := by decide +kernel
theorem dX6_longest_35 : decode cX6_longest 35 = .ok (.iadd, 1) := by decide +kernel
theorem dX6_longest_36 : decode cX6_longest 36 = .ok (.goto 4, 3) := by decide +kernel
theorem dX6_longest_39 : decode cX6_longest 39 = .ok (.iconst 0, 1) := by decide +kernel
theorem dX6_longest_40 : decode cX6_longest 40 = .ok (.istore 4, 2) := by decide +kernel
theorem dX6_longest_42 : decode cX6_longest 42 = .ok (.iload_n 3, 1) := by decide +kernel
theorem dX6_longest_43 : decode cX6_longest 43 = .ok (.iload 4, 2) := by decide +kernel
theorem dX6_longest_45 : decode cX6_longest 45 = .ok (.invokestatic 114, 3) := by decide +kernel
theorem dX6_longest_48 : decode cX6_longest 48 = .ok (.istore_n 3, 1) := by decide +kernel
theorem dX6_longest_49 : decode cX6_longest 49 = .ok (.iinc 5 1, 3) := by decide +kernel
theorem dX6_longest_52 : decode cX6_longest 52 = .ok (.goto (-44), 3) := by decide +kernel
theorem dX6_longest_55 : decode cX6_longest 55 = .ok (.iload_n 3, 1) := by decide +kernel
theorem dX6_longest_56 : decode cX6_longest 56 = .ok (.ireturn, 1) := by decide +kernel
theorem dX6_between_0 : decode cX6_between 0 = .ok (.aload_n 0, 1) := by decide +kernel
theorem dX6_between_1 : decode cX6_between 1 = .ok (.iload_n 1, 1) := by decide +kernel
theorem dX6_between_2 : decode cX6_between 2 = .ok (.invokevirtual 71, 3) := by decide +kernel
theorem dX6_between_5 : decode cX6_between 5 = .ok (.pop, 1) := by decide +kernel
theorem dX6_between_6 : decode cX6_between 6 = .ok (.aload_n 0, 1) := by decide +kernel
theorem dX6_between_7 : decode cX6_between 7 = .ok (.getfield 91, 3) := by decide +kernel
theorem dX6_between_10 : decode cX6_between 10 = .ok (.istore_n 3, 1) := by decide +kernel
theorem dX6_between_11 : decode cX6_between 11 = .ok (.aload_n 0, 1) := by decide +kernel
theorem dX6_between_12 : decode cX6_between 12 = .ok (.iload_n 2, 1) := by decide +kernel
theorem dX6_between_13 : decode cX6_between 13 = .ok (.invokevirtual 71, 3) := by decide +kernel
theorem dX6_between_16 : decode cX6_between 16 = .ok (.pop, 1) := by decide +kernel
theorem dX6_between_17 : decode cX6_between 17 = .ok (.aload_n 0, 1) := by decide +kernel
theorem dX6_between_18 : decode cX6_between 18 = .ok (.getfield 88, 3) := by decide +kernel
theorem dX6_between_21 : decode cX6_between 21 = .ok (.sipush 1440, 3) := by decide +kernel
theorem dX6_between_24 : decode cX6_between 24 = .ok (.iadd, 1) := by decide +kernel
theorem dX6_between_25 : decode cX6_between 25 = .ok (.iload_n 3, 1) := by decide +kernel
theorem dX6_between_26 : decode cX6_between 26 = .ok (.isub, 1) := by decide +kernel
theorem dX6_between_27 : decode cX6_between 27 = .ok (.ireturn, 1) := by decide +kernel
theorem dX6_hasRest_0 : decode cX6_hasRest 0 = .ok (.aload_n 0, 1) := by decide +kernel
theorem dX6_hasRest_1 : decode cX6_hasRest 1 = .ok (.iload_n 1, 1) := by decide +kernel
theorem dX6_hasRest_2 : decode cX6_hasRest 2 = .ok (.iload_n 2, 1) := by decide +kernel
theorem dX6_hasRest_3 : decode cX6_hasRest 3 = .ok (.iconst 1, 1) := by decide +kernel
theorem dX6_hasRest_4 : decode cX6_hasRest 4 = .ok (.isub, 1) := by decide +kernel
theorem dX6_hasRest_5 : decode cX6_hasRest 5 = .ok (.invokevirtual 160, 3) := by decide +kernel
theorem dX6_hasRest_8 : decode cX6_hasRest 8 = .ok (.istore 4, 2) := by decide +kernel
theorem dX6_hasRest_10 : decode cX6_hasRest 10 = .ok (.aload_n 0, 1) := by decide +kernel
theorem dX6_hasRest_11 : decode cX6_hasRest 11 = .ok (.iload_n 1, 1) := by decide +kernel
theorem dX6_hasRest_12 : decode cX6_hasRest 12 = .ok (.iload_n 2, 1) := by decide +kernel
theorem dX6_hasRest_13 : decode cX6_hasRest 13 = .ok (.iconst 1, 1) := by decide +kernel
theorem dX6_hasRest_14 : decode cX6_hasRest 14 = .ok (.iadd, 1) := by decide +kernel
theorem dX6_hasRest_15 : decode cX6_hasRest 15 = .ok (.invokevirtual 160, 3) := by decide +kernel
theorem dX6_hasRest_18 : decode cX6_hasRest 18 = .ok (.istore 5, 2) := by decide +kernel
theorem dX6_hasRest_20 : decode cX6_hasRest 20 = .ok (.iload 4, 2) := by decide +kernel
theorem dX6_hasRest_22 : decode cX6_hasRest 22 = .ok (.iconst (-1), 1) := by decide +kernel
theorem dX6_hasRest_23 : decode cX6_hasRest 23 = .ok (.if_icmp .eq 17, 3) := by decide +kernel
theorem dX6_hasRest_26 : decode cX6_hasRest 26 = .ok (.aload_n 0, 1) := by decide +kernel
theorem dX6_hasRest_27 : decode cX6_hasRest 27 = .ok (.iload 4, 2) := by decide +kernel
theorem dX6_hasRest_29 : decode cX6_hasRest 29 = .ok (.iload_n 3, 1) := by decide +kernel
theorem dX6_hasRest_30 : decode cX6_hasRest 30 = .ok (.invokevirtual 163, 3) := by decide +kernel
theorem dX6_hasRest_33 : decode cX6_hasRest 33 = .ok (.aload_n 0, 1) := by decide +kernel
theorem dX6_hasRest_34 : decode cX6_hasRest 34 = .ok (.getfield 41, 3) := by decide +kernel
theorem dX6_hasRest_37 : decode cX6_hasRest 37 = .ok (.if_icmp .lt 27, 3) := by decide +kernel
theorem dX6_hasRest_40 : decode cX6_hasRest 40 = .ok (.iload 5, 2) := by decide +kernel
theorem dX6_hasRest_42 : decode cX6_hasRest 42 = .ok (.iconst (-1), 1) := by decide +kernel
theorem dX6_hasRest_43 : decode cX6_hasRest 43 = .ok (.if_icmp .eq 17, 3) := by decide +kernel
theorem dX6_hasRest_46 : decode cX6_hasRest 46 = .ok (.aload_n 0, 1) := by decide +kernel
theorem dX6_hasRest_47 : decode cX6_hasRest 47 = .ok (.iload_n 3, 1) := by decide +kernel
theorem dX6_hasRest_48 : decode cX6_hasRest 48 = .ok (.iload 5, 2) := by decide +kernel
theorem dX6_hasRest_50 : decode cX6_hasRest 50 = .ok (.invokevirtual 163, 3) := by decide +kernel
theorem dX6_hasRest_53 : decode cX6_hasRest 53 = .ok (.aload_n 0, 1) := by decide +kernel
theorem dX6_hasRest_54 : decode cX6_hasRest 54 = .ok (.getfield 41, 3) := by decide +kernel
theorem dX6_hasRest_57 : decode cX6_hasRest 57 = .ok (.if_icmp .lt 7, 3) := by decide +kernel
theorem dX6_hasRest_60 : decode cX6_hasRest 60 = .ok (.iconst 1, 1) := by decide +kernel
theorem dX6_hasRest_61 : decode cX6_hasRest 61 = .ok (.goto 4, 3) := by decide +kernel
theorem dX6_hasRest_64 : decode cX6_hasRest 64 = .ok (.iconst 0, 1) := by decide +kernel
theorem dX6_hasRest_65 : decode cX6_hasRest 65 = .ok (.ireturn, 1) := by decide +kernel
theorem dX6_reasonFor_0 : decode cX6_reasonFor 0 = .ok (.aload_n 0, 1) := by decide +kernel
theorem dX6_reasonFor_1 : decode cX6_reasonFor 1 = .ok (.iload_n 3, 1) := by decide +kernel
theorem dX6_reasonFor_2 : decode cX6_reasonFor 2 = .ok (.invokevirtual 71, 3) := by decide +kernel
theorem dX6_reasonFor_5 : decode cX6_reasonFor 5 = .ok (.pop, 1) := by decide +kernel
theorem dX6_reasonFor_6 : decode cX6_reasonFor 6 = .ok (.aload_n 0, 1) := by decide +kernel
theorem dX6_reasonFor_7 : decode cX6_reasonFor 7 = .ok (.getfield 81, 3) := by decide +kernel
theorem dX6_reasonFor_10 : decode cX6_reasonFor 10 = .ok (.ifCond .ne 5, 3) := by decide +kernel
theorem dX6_reasonFor_13 : decode cX6_reasonFor 13 = .ok (.iconst 1, 1) := by decide +kernel
theorem dX6_reasonFor_14 : decode cX6_reasonFor 14 = .ok (.ireturn, 1) := by decide +kernel
theorem dX6_reasonFor_15 : decode cX6_reasonFor 15 = .ok (.aload_n 0, 1) := by decide +kernel
theorem dX6_reasonFor_16 : decode cX6_reasonFor 16 = .ok (.getfield 106, 3) := by decide +kernel
theorem dX6_reasonFor_19 : decode cX6_reasonFor 19 = .ok (.ifCond .ne 5, 3) := by decide +kernel
theorem dX6_reasonFor_22 : decode cX6_reasonFor 22 = .ok (.iconst 2, 1) := by decide +kernel
theorem dX6_reasonFor_23 : decode cX6_reasonFor 23 = .ok (.ireturn, 1) := by decide +kernel
theorem dX6_reasonFor_24 : decode cX6_reasonFor 24 = .ok (.aload_n 0, 1) := by decide +kernel
theorem dX6_reasonFor_25 : decode cX6_reasonFor 25 = .ok (.getfield 97, 3) := by decide +kernel
theorem dX6_reasonFor_28 : decode cX6_reasonFor 28 = .ok (.istore 4, 2) := by decide +kernel
theorem dX6_reasonFor_30 : decode cX6_reasonFor 30 = .ok (.aload_n 0, 1) := by decide +kernel
theorem dX6_reasonFor_31 : decode cX6_reasonFor 31 = .ok (.iload_n 2, 1) := by decide +kernel
theorem dX6_reasonFor_32 : decode cX6_reasonFor 32 = .ok (.iload_n 3, 1) := by decide +kernel
theorem dX6_reasonFor_33 : decode cX6_reasonFor 33 = .ok (.invokevirtual 166, 3) := by decide +kernel
theorem dX6_reasonFor_36 : decode cX6_reasonFor 36 = .ok (.ifCond .eq 5, 3) := by decide +kernel
theorem dX6_reasonFor_39 : decode cX6_reasonFor 39 = .ok (.iconst 3, 1) := by decide +kernel
theorem dX6_reasonFor_40 : decode cX6_reasonFor 40 = .ok (.ireturn, 1) := by decide +kernel
theorem dX6_reasonFor_41 : decode cX6_reasonFor 41 = .ok (.aload_n 0, 1) := by decide +kernel
theorem dX6_reasonFor_42 : decode cX6_reasonFor 42 = .ok (.iload_n 1, 1) := by decide +kernel
theorem dX6_reasonFor_43 : decode cX6_reasonFor 43 = .ok (.iload_n 2, 1) := by decide +kernel
theorem dX6_reasonFor_44 : decode cX6_reasonFor 44 = .ok (.invokevirtual 160, 3) := by decide +kernel
theorem dX6_reasonFor_47 : decode cX6_reasonFor 47 = .ok (.iconst (-1), 1) := by decide +kernel
theorem dX6_reasonFor_48 : decode cX6_reasonFor 48 = .ok (.if_icmp .eq 5, 3) := by decide +kernel
theorem dX6_reasonFor_51 : decode cX6_reasonFor 51 = .ok (.iconst 4, 1) := by decide +kernel
theorem dX6_reasonFor_52 : decode cX6_reasonFor 52 = .ok (.ireturn, 1) := by decide +kernel
theorem dX6_reasonFor_53 : decode cX6_reasonFor 53 = .ok (.aload_n 0, 1) := by decide +kernel
theorem dX6_reasonFor_54 : decode cX6_reasonFor 54 = .ok (.iload_n 1, 1) := by decide +kernel
theorem dX6_reasonFor_55 : decode cX6_reasonFor 55 = .ok (.iload_n 2, 1) := by decide +kernel
theorem dX6_reasonFor_56 : decode cX6_reasonFor 56 = .ok (.invokevirtual 169, 3) := by decide +kernel
theorem dX6_reasonFor_59 : decode cX6_reasonFor 59 = .ok (.iconst 5, 1) := by decide +kernel
theorem dX6_reasonFor_60 : decode cX6_reasonFor 60 = .ok (.if_icmp .le 5, 3) := by decide +kernel
theorem dX6_reasonFor_63 : decode cX6_reasonFor 63 = .ok (.iconst 5, 1) := by decide +kernel
theorem dX6_reasonFor_64 : decode cX6_reasonFor 64 = .ok (.ireturn, 1) := by decide +kernel
theorem dX6_reasonFor_65 : decode cX6_reasonFor 65 = .ok (.aload_n 0, 1) := by decide +kernel
theorem dX6_reasonFor_66 : decode cX6_reasonFor 66 = .ok (.iload_n 1, 1) := by decide +kernel
theorem dX6_reasonFor_67 : decode cX6_reasonFor 67 = .ok (.invokevirtual 172, 3) := by decide +kernel
theorem dX6_reasonFor_70 : decode cX6_reasonFor 70 = .ok (.iload 4, 2) := by decide +kernel
theorem dX6_reasonFor_72 : decode cX6_reasonFor 72 = .ok (.iadd, 1) := by decide +kernel
theorem dX6_reasonFor_73 : decode cX6_reasonFor 73 = .ok (.sipush 2880, 3) := by decide +kernel
theorem dX6_reasonFor_76 : decode cX6_reasonFor 76 = .ok (.if_icmp .le 6, 3) := by decide +kernel
theorem dX6_reasonFor_79 : decode cX6_reasonFor 79 = .ok (.bipush 6, 2) := by decide +kernel
theorem dX6_reasonFor_81 : decode cX6_reasonFor 81 = .ok (.ireturn, 1) := by decide +kernel
theorem dX6_reasonFor_82 : decode cX6_reasonFor 82 = .ok (.aload_n 0, 1) := by decide +kernel
theorem dX6_reasonFor_83 : decode cX6_reasonFor 83 = .ok (.iload_n 1, 1) := by decide +kernel
theorem dX6_reasonFor_84 : decode cX6_reasonFor 84 = .ok (.iload_n 2, 1) := by decide +kernel
theorem dX6_reasonFor_85 : decode cX6_reasonFor 85 = .ok (.iload_n 3, 1) := by decide +kernel
theorem dX6_reasonFor_86 : decode cX6_reasonFor 86 = .ok (.invokevirtual 175, 3) := by decide +kernel
theorem dX6_reasonFor_89 : decode cX6_reasonFor 89 = .ok (.ifCond .eq 7, 3) := by decide +kernel
theorem dX6_reasonFor_92 : decode cX6_reasonFor 92 = .ok (.iconst 0, 1) := by decide +kernel
theorem dX6_reasonFor_93 : decode cX6_reasonFor 93 = .ok (.goto 5, 3) := by decide +kernel
theorem dX6_reasonFor_96 : decode cX6_reasonFor 96 = .ok (.bipush 7, 2) := by decide +kernel
theorem dX6_reasonFor_98 : decode cX6_reasonFor 98 = .ok (.ireturn, 1) := by decide +kernel
theorem dX6_reason_0 : decode cX6_reason 0 = .ok (.aload_n 0, 1) := by decide +kernel
theorem dX6_reason_1 : decode cX6_reason 1 = .ok (.iconst 0, 1) := by decide +kernel
theorem dX6_reason_2 : decode cX6_reason 2 = .ok (.putfield 47, 3) := by decide +kernel
theorem dX6_reason_5 : decode cX6_reason 5 = .ok (.aload_n 0, 1) := by decide +kernel
theorem dX6_reason_6 : decode cX6_reason 6 = .ok (.iload_n 1, 1) := by decide +kernel
theorem dX6_reason_7 : decode cX6_reason 7 = .ok (.invokevirtual 178, 3) := by decide +kernel
theorem dX6_reason_10 : decode cX6_reason 10 = .ok (.ifCond .eq 28, 3) := by decide +kernel
theorem dX6_reason_13 : decode cX6_reason 13 = .ok (.iload_n 2, 1) := by decide +kernel
theorem dX6_reason_14 : decode cX6_reason 14 = .ok (.invokestatic 157, 3) := by decide +kernel
theorem dX6_reason_17 : decode cX6_reason 17 = .ok (.ifCond .eq 21, 3) := by decide +kernel
theorem dX6_reason_20 : decode cX6_reason 20 = .ok (.aload_n 0, 1) := by decide +kernel
theorem dX6_reason_21 : decode cX6_reason 21 = .ok (.iload_n 3, 1) := by decide +kernel
theorem dX6_reason_22 : decode cX6_reason 22 = .ok (.invokevirtual 126, 3) := by decide +kernel
theorem dX6_reason_25 : decode cX6_reason 25 = .ok (.ifCond .eq 13, 3) := by decide +kernel
theorem dX6_reason_28 : decode cX6_reason 28 = .ok (.aload_n 0, 1) := by decide +kernel
theorem dX6_reason_29 : decode cX6_reason 29 = .ok (.iload_n 1, 1) := by decide +kernel
theorem dX6_reason_30 : decode cX6_reason 30 = .ok (.iload_n 2, 1) := by decide +kernel
theorem dX6_reason_31 : decode cX6_reason 31 = .ok (.iload_n 3, 1) := by decide +kernel
theorem dX6_reason_32 : decode cX6_reason 32 = .ok (.invokevirtual 181, 3) := by decide +kernel
theorem dX6_reason_35 : decode cX6_reason 35 = .ok (.goto 8, 3) := by decide +kernel
theorem dX6_reason_38 : decode cX6_reason 38 = .ok (.aload_n 0, 1) := by decide +kernel
theorem dX6_reason_39 : decode cX6_reason 39 = .ok (.iconst 1, 1) := by decide +kernel
theorem dX6_reason_40 : decode cX6_reason 40 = .ok (.invokevirtual 64, 3) := by decide +kernel
theorem dX6_reason_43 : decode cX6_reason 43 = .ok (.ireturn, 1) := by decide +kernel
theorem dX6_give_0 : decode cX6_give 0 = .ok (.aload_n 0, 1) := by decide +kernel
theorem dX6_give_1 : decode cX6_give 1 = .ok (.iconst 0, 1) := by decide +kernel
theorem dX6_give_2 : decode cX6_give 2 = .ok (.putfield 47, 3) := by decide +kernel
theorem dX6_give_5 : decode cX6_give 5 = .ok (.aload_n 0, 1) := by decide +kernel
theorem dX6_give_6 : decode cX6_give 6 = .ok (.iload_n 1, 1) := by decide +kernel
theorem dX6_give_7 : decode cX6_give 7 = .ok (.invokevirtual 178, 3) := by decide +kernel
theorem dX6_give_10 : decode cX6_give 10 = .ok (.ifCond .eq 18, 3) := by decide +kernel
theorem dX6_give_13 : decode cX6_give 13 = .ok (.iload_n 2, 1) := by decide +kernel
theorem dX6_give_14 : decode cX6_give 14 = .ok (.invokestatic 157, 3) := by decide +kernel
theorem dX6_give_17 : decode cX6_give 17 = .ok (.ifCond .eq 11, 3) := by decide +kernel
theorem dX6_give_20 : decode cX6_give 20 = .ok (.aload_n 0, 1) := by decide +kernel
theorem dX6_give_21 : decode cX6_give 21 = .ok (.iload_n 3, 1) := by decide +kernel
theorem dX6_give_22 : decode cX6_give 22 = .ok (.invokevirtual 126, 3) := by decide +kernel
theorem dX6_give_25 : decode cX6_give 25 = .ok (.ifCond .ne 9, 3) := by decide +kernel
theorem dX6_give_28 : decode cX6_give 28 = .ok (.aload_n 0, 1) := by decide +kernel
theorem dX6_give_29 : decode cX6_give 29 = .ok (.iconst 1, 1) := by decide +kernel
theorem dX6_give_30 : decode cX6_give 30 = .ok (.invokevirtual 64, 3) := by decide +kernel
theorem dX6_give_33 : decode cX6_give 33 = .ok (.ireturn, 1) := by decide +kernel
theorem dX6_give_34 : decode cX6_give 34 = .ok (.aload_n 0, 1) := by decide +kernel
theorem dX6_give_35 : decode cX6_give 35 = .ok (.iload_n 1, 1) := by decide +kernel
theorem dX6_give_36 : decode cX6_give 36 = .ok (.iload_n 2, 1) := by decide +kernel
theorem dX6_give_37 : decode cX6_give 37 = .ok (.iload_n 3, 1) := by decide +kernel
theorem dX6_give_38 : decode cX6_give 38 = .ok (.invokevirtual 181, 3) := by decide +kernel
theorem dX6_give_41 : decode cX6_give 41 = .ok (.ifCond .eq 9, 3) := by decide +kernel
theorem dX6_give_44 : decode cX6_give 44 = .ok (.aload_n 0, 1) := by decide +kernel
theorem dX6_give_45 : decode cX6_give 45 = .ok (.iconst 2, 1) := by decide +kernel
theorem dX6_give_46 : decode cX6_give 46 = .ok (.invokevirtual 64, 3) := by decide +kernel
theorem dX6_give_49 : decode cX6_give 49 = .ok (.ireturn, 1) := by decide +kernel
theorem dX6_give_50 : decode cX6_give 50 = .ok (.aload_n 0, 1) := by decide +kernel
theorem dX6_give_51 : decode cX6_give 51 = .ok (.getfield 28, 3) := by decide +kernel
theorem dX6_give_54 : decode cX6_give 54 = .ok (.bipush 7, 2) := by decide +kernel
theorem dX6_give_56 : decode cX6_give 56 = .ok (.iload_n 1, 1) := by decide +kernel
theorem dX6_give_57 : decode cX6_give 57 = .ok (.imul, 1) := by decide +kernel
theorem dX6_give_58 : decode cX6_give 58 = .ok (.iload_n 2, 1) := by decide +kernel
theorem dX6_give_59 : decode cX6_give 59 = .ok (.iadd, 1) := by decide +kernel
theorem dX6_give_60 : decode cX6_give 60 = .ok (.iload_n 3, 1) := by decide +kernel
theorem dX6_give_61 : decode cX6_give 61 = .ok (.iastore, 1) := by decide +kernel
theorem dX6_give_62 : decode cX6_give 62 = .ok (.aload_n 0, 1) := by decide +kernel
theorem dX6_give_63 : decode cX6_give 63 = .ok (.iload_n 1, 1) := by decide +kernel
theorem dX6_give_64 : decode cX6_give 64 = .ok (.invokevirtual 172, 3) := by decide +kernel
theorem dX6_give_67 : decode cX6_give 67 = .ok (.ireturn, 1) := by decide +kernel
theorem dX6_takeBack_0 : decode cX6_takeBack 0 = .ok (.aload_n 0, 1) := by decide +kernel
theorem dX6_takeBack_1 : decode cX6_takeBack 1 = .ok (.iconst 0, 1) := by decide +kernel
theorem dX6_takeBack_2 : decode cX6_takeBack 2 = .ok (.putfield 47, 3) := by decide +kernel
theorem dX6_takeBack_5 : decode cX6_takeBack 5 = .ok (.aload_n 0, 1) := by decide +kernel
theorem dX6_takeBack_6 : decode cX6_takeBack 6 = .ok (.iload_n 1, 1) := by decide +kernel
theorem dX6_takeBack_7 : decode cX6_takeBack 7 = .ok (.invokevirtual 178, 3) := by decide +kernel
theorem dX6_takeBack_10 : decode cX6_takeBack 10 = .ok (.ifCond .eq 10, 3) := by decide +kernel
theorem dX6_takeBack_13 : decode cX6_takeBack 13 = .ok (.iload_n 2, 1) := by decide +kernel
theorem dX6_takeBack_14 : decode cX6_takeBack 14 = .ok (.invokestatic 157, 3) := by decide +kernel
theorem dX6_takeBack_17 : decode cX6_takeBack 17 = .ok (.ifCond .ne 9, 3) := by decide +kernel
theorem dX6_takeBack_20 : decode cX6_takeBack 20 = .ok (.aload_n 0, 1) := by decide +kernel
theorem dX6_takeBack_21 : decode cX6_takeBack 21 = .ok (.iconst 1, 1) := by decide +kernel
theorem dX6_takeBack_22 : decode cX6_takeBack 22 = .ok (.invokevirtual 64, 3) := by decide +kernel
theorem dX6_takeBack_25 : decode cX6_takeBack 25 = .ok (.ireturn, 1) := by decide +kernel
theorem dX6_takeBack_26 : decode cX6_takeBack 26 = .ok (.aload_n 0, 1) := by decide +kernel
theorem dX6_takeBack_27 : decode cX6_takeBack 27 = .ok (.iload_n 1, 1) := by decide +kernel
theorem dX6_takeBack_28 : decode cX6_takeBack 28 = .ok (.iload_n 2, 1) := by decide +kernel
theorem dX6_takeBack_29 : decode cX6_takeBack 29 = .ok (.invokevirtual 160, 3) := by decide +kernel
theorem dX6_takeBack_32 : decode cX6_takeBack 32 = .ok (.istore_n 3, 1) := by decide +kernel
theorem dX6_takeBack_33 : decode cX6_takeBack 33 = .ok (.iload_n 3, 1) := by decide +kernel
theorem dX6_takeBack_34 : decode cX6_takeBack 34 = .ok (.iconst (-1), 1) := by decide +kernel
theorem dX6_takeBack_35 : decode cX6_takeBack 35 = .ok (.if_icmp .ne 9, 3) := by decide +kernel
theorem dX6_takeBack_38 : decode cX6_takeBack 38 = .ok (.aload_n 0, 1) := by decide +kernel
theorem dX6_takeBack_39 : decode cX6_takeBack 39 = .ok (.iconst 2, 1) := by decide +kernel
theorem dX6_takeBack_40 : decode cX6_takeBack 40 = .ok (.invokevirtual 64, 3) := by decide +kernel
theorem dX6_takeBack_43 : decode cX6_takeBack 43 = .ok (.ireturn, 1) := by decide +kernel
theorem dX6_takeBack_44 : decode cX6_takeBack 44 = .ok (.aload_n 0, 1) := by decide +kernel
theorem dX6_takeBack_45 : decode cX6_takeBack 45 = .ok (.getfield 28, 3) := by decide +kernel
theorem dX6_takeBack_48 : decode cX6_takeBack 48 = .ok (.bipush 7, 2) := by decide +kernel
theorem dX6_takeBack_50 : decode cX6_takeBack 50 = .ok (.iload_n 1, 1) := by decide +kernel
theorem dX6_takeBack_51 : decode cX6_takeBack 51 = .ok (.imul, 1) := by decide +kernel
theorem dX6_takeBack_52 : decode cX6_takeBack 52 = .ok (.iload_n 2, 1) := by decide +kernel
theorem dX6_takeBack_53 : decode cX6_takeBack 53 = .ok (.iadd, 1) := by decide +kernel
theorem dX6_takeBack_54 : decode cX6_takeBack 54 = .ok (.iconst (-1), 1) := by decide +kernel
theorem dX6_takeBack_55 : decode cX6_takeBack 55 = .ok (.iastore, 1) := by decide +kernel
theorem dX6_takeBack_56 : decode cX6_takeBack 56 = .ok (.iload_n 3, 1) := by decide +kernel
theorem dX6_takeBack_57 : decode cX6_takeBack 57 = .ok (.ireturn, 1) := by decide +kernel
theorem dX6_given_0 : decode cX6_given 0 = .ok (.aload_n 0, 1) := by decide +kernel
theorem dX6_given_1 : decode cX6_given 1 = .ok (.iconst 0, 1) := by decide +kernel
theorem dX6_given_2 : decode cX6_given 2 = .ok (.putfield 47, 3) := by decide +kernel
theorem dX6_given_5 : decode cX6_given 5 = .ok (.aload_n 0, 1) := by decide +kernel
theorem dX6_given_6 : decode cX6_given 6 = .ok (.iload_n 1, 1) := by decide +kernel
theorem dX6_given_7 : decode cX6_given 7 = .ok (.invokevirtual 178, 3) := by decide +kernel
theorem dX6_given_10 : decode cX6_given 10 = .ok (.ifCond .eq 19, 3) := by decide +kernel
theorem dX6_given_13 : decode cX6_given 13 = .ok (.iload_n 2, 1) := by decide +kernel
theorem dX6_given_14 : decode cX6_given 14 = .ok (.invokestatic 157, 3) := by decide +kernel
theorem dX6_given_17 : decode cX6_given 17 = .ok (.ifCond .eq 12, 3) := by decide +kernel
theorem dX6_given_20 : decode cX6_given 20 = .ok (.aload_n 0, 1) := by decide +kernel
theorem dX6_given_21 : decode cX6_given 21 = .ok (.iload_n 1, 1) := by decide +kernel
theorem dX6_given_22 : decode cX6_given 22 = .ok (.iload_n 2, 1) := by decide +kernel
theorem dX6_given_23 : decode cX6_given 23 = .ok (.invokevirtual 160, 3) := by decide +kernel
theorem dX6_given_26 : decode cX6_given 26 = .ok (.goto 8, 3) := by decide +kernel
theorem dX6_given_29 : decode cX6_given 29 = .ok (.aload_n 0, 1) := by decide +kernel
theorem dX6_given_30 : decode cX6_given 30 = .ok (.iconst 1, 1) := by decide +kernel
theorem dX6_given_31 : decode cX6_given 31 = .ok (.invokevirtual 64, 3) := by decide +kernel
theorem dX6_given_34 : decode cX6_given 34 = .ok (.ireturn, 1) := by decide +kernel
theorem dX6_fill_0 : decode cX6_fill 0 = .ok (.aload_n 0, 1) := by decide +kernel
theorem dX6_fill_1 : decode cX6_fill 1 = .ok (.iconst 0, 1) := by decide +kernel
theorem dX6_fill_2 : decode cX6_fill 2 = .ok (.putfield 47, 3) := by decide +kernel
theorem dX6_fill_5 : decode cX6_fill 5 = .ok (.iload_n 1, 1) := by decide +kernel
theorem dX6_fill_6 : decode cX6_fill 6 = .ok (.invokestatic 157, 3) := by decide +kernel
theorem dX6_fill_9 : decode cX6_fill 9 = .ok (.ifCond .ne 9, 3) := by decide +kernel
theorem dX6_fill_12 : decode cX6_fill 12 = .ok (.aload_n 0, 1) := by decide +kernel
theorem dX6_fill_13 : decode cX6_fill 13 = .ok (.iconst 1, 1) := by decide +kernel
theorem dX6_fill_14 : decode cX6_fill 14 = .ok (.invokevirtual 64, 3) := by decide +kernel
theorem dX6_fill_17 : decode cX6_fill 17 = .ok (.ireturn, 1) := by decide +kernel
theorem dX6_fill_18 : decode cX6_fill 18 = .ok (.bipush 12, 2) := by decide +kernel
theorem dX6_fill_20 : decode cX6_fill 20 = .ok (.newarray .boolean, 2) := by decide +kernel
theorem dX6_fill_22 : decode cX6_fill 22 = .ok (.astore_n 2, 1) := by decide +kernel
theorem dX6_fill_23 : decode cX6_fill 23 = .ok (.iconst 0, 1) := by decide +kernel
theorem dX6_fill_24 : decode cX6_fill 24 = .ok (.istore_n 3, 1) := by decide +kernel
theorem dX6_fill_25 : decode cX6_fill 25 = .ok (.iconst 0, 1) := by decide +kernel
theorem dX6_fill_26 : decode cX6_fill 26 = .ok (.istore 4, 2) := by decide +kernel
theorem dX6_fill_28 : decode cX6_fill 28 = .ok (.iload 4, 2) := by decide +kernel
theorem dX6_fill_30 : decode cX6_fill 30 = .ok (.aload_n 0, 1) := by decide +kernel
theorem dX6_fill_31 : decode cX6_fill 31 = .ok (.getfield 57, 3) := by decide +kernel
theorem dX6_fill_34 : decode cX6_fill 34 = .ok (.if_icmp .ge 190, 3) := by decide +kernel
theorem dX6_fill_37 : decode cX6_fill 37 = .ok (.iconst (-1), 1) := by decide +kernel
theorem dX6_fill_38 : decode cX6_fill 38 = .ok (.istore 5, 2) := by decide +kernel
theorem dX6_fill_40 : decode cX6_fill 40 = .ok (.iconst 0, 1) := by decide +kernel
theorem dX6_fill_41 : decode cX6_fill 41 = .ok (.istore 6, 2) := by decide +kernel
theorem dX6_fill_43 : decode cX6_fill 43 = .ok (.iconst 0, 1) := by decide +kernel
theorem dX6_fill_44 : decode cX6_fill 44 = .ok (.istore 7, 2) := by decide +kernel
theorem dX6_fill_46 : decode cX6_fill 46 = .ok (.iload 7, 2) := by decide +kernel
theorem dX6_fill_48 : decode cX6_fill 48 = .ok (.aload_n 0, 1) := by decide +kernel
theorem dX6_fill_49 : decode cX6_fill 49 = .ok (.getfield 57, 3) := by decide +kernel
theorem dX6_fill_52 : decode cX6_fill 52 = .ok (.if_icmp .ge 68, 3) := by decide +kernel
theorem dX6_fill_55 : decode cX6_fill 55 = .ok (.aload_n 0, 1) := by decide +kernel
theorem dX6_fill_56 : decode cX6_fill 56 = .ok (.iload 7, 2) := by decide +kernel
theorem dX6_fill_58 : decode cX6_fill 58 = .ok (.invokevirtual 71, 3) := by decide +kernel
theorem dX6_fill_61 : decode cX6_fill 61 = .ok (.pop, 1) := by decide +kernel
theorem dX6_fill_62 : decode cX6_fill 62 = .ok (.aload_n 2, 1) := by decide +kernel
theorem dX6_fill_63 : decode cX6_fill 63 = .ok (.iload 7, 2) := by decide +kernel
theorem dX6_fill_65 : decode cX6_fill 65 = .ok (.baload, 1) := by decide +kernel
theorem dX6_fill_66 : decode cX6_fill 66 = .ok (.ifCond .ne 48, 3) := by decide +kernel
theorem dX6_fill_69 : decode cX6_fill 69 = .ok (.aload_n 0, 1) := by decide +kernel
theorem dX6_fill_70 : decode cX6_fill 70 = .ok (.getfield 81, 3) := by decide +kernel
theorem dX6_fill_73 : decode cX6_fill 73 = .ok (.ifCond .eq 41, 3) := by decide +kernel
theorem dX6_fill_76 : decode cX6_fill 76 = .ok (.aload_n 0, 1) := by decide +kernel
theorem dX6_fill_77 : decode cX6_fill 77 = .ok (.iload_n 1, 1) := by decide +kernel
theorem dX6_fill_78 : decode cX6_fill 78 = .ok (.iload 7, 2) := by decide +kernel
theorem dX6_fill_80 : decode cX6_fill 80 = .ok (.invokevirtual 166, 3) := by decide +kernel
theorem dX6_fill_83 : decode cX6_fill 83 = .ok (.ifCond .ne 31, 3) := by decide +kernel
theorem dX6_fill_86 : decode cX6_fill 86 = .ok (.iload 5, 2) := by decide +kernel
theorem dX6_fill_88 : decode cX6_fill 88 = .ok (.iconst (-1), 1) := by decide +kernel
theorem dX6_fill_89 : decode cX6_fill 89 = .ok (.if_icmp .eq 15, 3) := by decide +kernel
theorem dX6_fill_92 : decode cX6_fill 92 = .ok (.aload_n 0, 1) := by decide +kernel
theorem dX6_fill_93 : decode cX6_fill 93 = .ok (.getfield 88, 3) := by decide +kernel
theorem dX6_fill_96 : decode cX6_fill 96 = .ok (.iload 6, 2) := by decide +kernel
theorem dX6_fill_98 : decode cX6_fill 98 = .ok (.if_icmp .lt 6, 3) := by decide +kernel
theorem dX6_fill_101 : decode cX6_fill 101 = .ok (.goto 13, 3) := by decide +kernel
theorem dX6_fill_104 : decode cX6_fill 104 = .ok (.iload 7, 2) := by decide +kernel
theorem dX6_fill_106 : decode cX6_fill 106 = .ok (.istore 5, 2) := by decide +kernel
theorem dX6_fill_108 : decode cX6_fill 108 = .ok (.aload_n 0, 1) := by decide +kernel
theorem dX6_fill_109 : decode cX6_fill 109 = .ok (.getfield 88, 3) := by decide +kernel
theorem dX6_fill_112 : decode cX6_fill 112 = .ok (.istore 6, 2) := by decide +kernel
theorem dX6_fill_114 : decode cX6_fill 114 = .ok (.iinc 7 1, 3) := by decide +kernel
theorem dX6_fill_117 : decode cX6_fill 117 = .ok (.goto (-71), 3) := by decide +kernel
theorem dX6_fill_120 : decode cX6_fill 120 = .ok (.iload 5, 2) := by decide +kernel
theorem dX6_fill_122 : decode cX6_fill 122 = .ok (.iconst (-1), 1) := by decide +kernel
theorem dX6_fill_123 : decode cX6_fill 123 = .ok (.if_icmp .ne 6, 3) := by decide +kernel
theorem dX6_fill_126 : decode cX6_fill 126 = .ok (.goto 98, 3) := by decide +kernel
theorem dX6_fill_129 : decode cX6_fill 129 = .ok (.aload_n 2, 1) := by decide +kernel
theorem dX6_fill_130 : decode cX6_fill 130 = .ok (.iload 5, 2) := by decide +kernel
theorem dX6_fill_132 : decode cX6_fill 132 = .ok (.iconst 1, 1) := by decide +kernel
theorem dX6_fill_133 : decode cX6_fill 133 = .ok (.bastore, 1) := by decide +kernel
theorem dX6_fill_134 : decode cX6_fill 134 = .ok (.iconst (-1), 1) := by decide +kernel
theorem dX6_fill_135 : decode cX6_fill 135 = .ok (.istore 7, 2) := by decide +kernel
theorem dX6_fill_137 : decode cX6_fill 137 = .ok (.iconst 0, 1) := by decide +kernel
theorem dX6_fill_138 : decode cX6_fill 138 = .ok (.istore 8, 2) := by decide +kernel
theorem dX6_fill_140 : decode cX6_fill 140 = .ok (.iload 8, 2) := by decide +kernel
theorem dX6_fill_142 : decode cX6_fill 142 = .ok (.aload_n 0, 1) := by decide +kernel
theorem dX6_fill_143 : decode cX6_fill 143 = .ok (.getfield 74, 3) := by decide +kernel
theorem dX6_fill_146 : decode cX6_fill 146 = .ok (.if_icmp .ge 46, 3) := by decide +kernel
theorem dX6_fill_149 : decode cX6_fill 149 = .ok (.aload_n 0, 1) := by decide +kernel
theorem dX6_fill_150 : decode cX6_fill 150 = .ok (.iload 8, 2) := by decide +kernel
theorem dX6_fill_152 : decode cX6_fill 152 = .ok (.iload_n 1, 1) := by decide +kernel
theorem dX6_fill_153 : decode cX6_fill 153 = .ok (.iload 5, 2) := by decide +kernel
theorem dX6_fill_155 : decode cX6_fill 155 = .ok (.invokevirtual 181, 3) := by decide +kernel
theorem dX6_fill_158 : decode cX6_fill 158 = .ok (.ifCond .ne 28, 3) := by decide +kernel
theorem dX6_fill_161 : decode cX6_fill 161 = .ok (.iload 7, 2) := by decide +kernel
theorem dX6_fill_163 : decode cX6_fill 163 = .ok (.iconst (-1), 1) := by decide +kernel
theorem dX6_fill_164 : decode cX6_fill 164 = .ok (.if_icmp .eq 18, 3) := by decide +kernel
theorem dX6_fill_167 : decode cX6_fill 167 = .ok (.aload_n 0, 1) := by decide +kernel
theorem dX6_fill_168 : decode cX6_fill 168 = .ok (.iload 8, 2) := by decide +kernel
theorem dX6_fill_170 : decode cX6_fill 170 = .ok (.invokevirtual 172, 3) := by decide +kernel
theorem dX6_fill_173 : decode cX6_fill 173 = .ok (.aload_n 0, 1) := by decide +kernel
theorem dX6_fill_174 : decode cX6_fill 174 = .ok (.iload 7, 2) := by decide +kernel
theorem dX6_fill_176 : decode cX6_fill 176 = .ok (.invokevirtual 172, 3) := by decide +kernel
theorem dX6_fill_179 : decode cX6_fill 179 = .ok (.if_icmp .ge 7, 3) := by decide +kernel
theorem dX6_fill_182 : decode cX6_fill 182 = .ok (.iload 8, 2) := by decide +kernel
theorem dX6_fill_184 : decode cX6_fill 184 = .ok (.istore 7, 2) := by decide +kernel
theorem dX6_fill_186 : decode cX6_fill 186 = .ok (.iinc 8 1, 3) := by decide +kernel
theorem dX6_fill_189 : decode cX6_fill 189 = .ok (.goto (-49), 3) := by decide +kernel
theorem dX6_fill_192 : decode cX6_fill 192 = .ok (.iload 7, 2) := by decide +kernel
theorem dX6_fill_194 : decode cX6_fill 194 = .ok (.iconst (-1), 1) := by decide +kernel
theorem dX6_fill_195 : decode cX6_fill 195 = .ok (.if_icmp .ne 9, 3) := by decide +kernel
theorem dX6_fill_198 : decode cX6_fill 198 = .ok (.iinc 3 1, 3) := by decide +kernel
theorem dX6_fill_201 : decode cX6_fill 201 = .ok (.goto 17, 3) := by decide +kernel
theorem dX6_fill_204 : decode cX6_fill 204 = .ok (.aload_n 0, 1) := by decide +kernel
theorem dX6_fill_205 : decode cX6_fill 205 = .ok (.getfield 28, 3) := by decide +kernel
theorem dX6_fill_208 : decode cX6_fill 208 = .ok (.bipush 7, 2) := by decide +kernel
theorem dX6_fill_210 : decode cX6_fill 210 = .ok (.iload 7, 2) := by decide +kernel
theorem dX6_fill_212 : decode cX6_fill 212 = .ok (.imul, 1) := by decide +kernel
theorem dX6_fill_213 : decode cX6_fill 213 = .ok (.iload_n 1, 1) := by decide +kernel
theorem dX6_fill_214 : decode cX6_fill 214 = .ok (.iadd, 1) := by decide +kernel
theorem dX6_fill_215 : decode cX6_fill 215 = .ok (.iload 5, 2) := by decide +kernel
theorem dX6_fill_217 : decode cX6_fill 217 = .ok (.iastore, 1) := by decide +kernel
theorem dX6_fill_218 : decode cX6_fill 218 = .ok (.iinc 4 1, 3) := by decide +kernel
theorem dX6_fill_221 : decode cX6_fill 221 = .ok (.goto (-193), 3) := by decide +kernel
theorem dX6_fill_224 : decode cX6_fill 224 = .ok (.iload_n 3, 1) := by decide +kernel
theorem dX6_fill_225 : decode cX6_fill 225 = .ok (.ireturn, 1) := by decide +kernel
theorem dX6_week_0 : decode cX6_week 0 = .ok (.aload_n 0, 1) := by decide +kernel
theorem dX6_week_1 : decode cX6_week 1 = .ok (.iconst 0, 1) := by decide +kernel
theorem dX6_week_2 : decode cX6_week 2 = .ok (.putfield 47, 3) := by decide +kernel
theorem dX6_week_5 : decode cX6_week 5 = .ok (.aload_n 0, 1) := by decide +kernel
theorem dX6_week_6 : decode cX6_week 6 = .ok (.iload_n 1, 1) := by decide +kernel
theorem dX6_week_7 : decode cX6_week 7 = .ok (.invokevirtual 178, 3) := by decide +kernel
theorem dX6_week_10 : decode cX6_week 10 = .ok (.ifCond .eq 11, 3) := by decide +kernel
theorem dX6_week_13 : decode cX6_week 13 = .ok (.aload_n 0, 1) := by decide +kernel
theorem dX6_week_14 : decode cX6_week 14 = .ok (.iload_n 1, 1) := by decide +kernel
theorem dX6_week_15 : decode cX6_week 15 = .ok (.invokevirtual 172, 3) := by decide +kernel
theorem dX6_week_18 : decode cX6_week 18 = .ok (.goto 8, 3) := by decide +kernel
theorem dX6_week_21 : decode cX6_week 21 = .ok (.aload_n 0, 1) := by decide +kernel
theorem dX6_week_22 : decode cX6_week 22 = .ok (.iconst 1, 1) := by decide +kernel
theorem dX6_week_23 : decode cX6_week 23 = .ok (.invokevirtual 64, 3) := by decide +kernel
theorem dX6_week_26 : decode cX6_week 26 = .ok (.ireturn, 1) := by decide +kernel
theorem dX6_rest_0 : decode cX6_rest 0 = .ok (.aload_n 0, 1) := by decide +kernel
theorem dX6_rest_1 : decode cX6_rest 1 = .ok (.iconst 0, 1) := by decide +kernel
theorem dX6_rest_2 : decode cX6_rest 2 = .ok (.putfield 47, 3) := by decide +kernel
theorem dX6_rest_5 : decode cX6_rest 5 = .ok (.aload_n 0, 1) := by decide +kernel
theorem dX6_rest_6 : decode cX6_rest 6 = .ok (.iload_n 1, 1) := by decide +kernel
theorem dX6_rest_7 : decode cX6_rest 7 = .ok (.invokevirtual 178, 3) := by decide +kernel
theorem dX6_rest_10 : decode cX6_rest 10 = .ok (.ifCond .eq 13, 3) := by decide +kernel
theorem dX6_rest_13 : decode cX6_rest 13 = .ok (.iload_n 2, 1) := by decide +kernel
theorem dX6_rest_14 : decode cX6_rest 14 = .ok (.iconst 1, 1) := by decide +kernel
theorem dX6_rest_15 : decode cX6_rest 15 = .ok (.bipush 6, 2) := by decide +kernel
theorem dX6_rest_17 : decode cX6_rest 17 = .ok (.invokestatic 53, 3) := by decide +kernel
theorem dX6_rest_20 : decode cX6_rest 20 = .ok (.ifCond .ne 9, 3) := by decide +kernel
theorem dX6_rest_23 : decode cX6_rest 23 = .ok (.aload_n 0, 1) := by decide +kernel
theorem dX6_rest_24 : decode cX6_rest 24 = .ok (.iconst 1, 1) := by decide +kernel
theorem dX6_rest_25 : decode cX6_rest 25 = .ok (.invokevirtual 64, 3) := by decide +kernel
theorem dX6_rest_28 : decode cX6_rest 28 = .ok (.ireturn, 1) := by decide +kernel
theorem dX6_rest_29 : decode cX6_rest 29 = .ok (.aload_n 0, 1) := by decide +kernel
theorem dX6_rest_30 : decode cX6_rest 30 = .ok (.iload_n 1, 1) := by decide +kernel
theorem dX6_rest_31 : decode cX6_rest 31 = .ok (.iload_n 2, 1) := by decide +kernel
theorem dX6_rest_32 : decode cX6_rest 32 = .ok (.iconst 1, 1) := by decide +kernel
theorem dX6_rest_33 : decode cX6_rest 33 = .ok (.isub, 1) := by decide +kernel
theorem dX6_rest_34 : decode cX6_rest 34 = .ok (.invokevirtual 160, 3) := by decide +kernel
theorem dX6_rest_37 : decode cX6_rest 37 = .ok (.iconst (-1), 1) := by decide +kernel
theorem dX6_rest_38 : decode cX6_rest 38 = .ok (.if_icmp .eq 13, 3) := by decide +kernel
theorem dX6_rest_41 : decode cX6_rest 41 = .ok (.aload_n 0, 1) := by decide +kernel
theorem dX6_rest_42 : decode cX6_rest 42 = .ok (.iload_n 1, 1) := by decide +kernel
theorem dX6_rest_43 : decode cX6_rest 43 = .ok (.iload_n 2, 1) := by decide +kernel
theorem dX6_rest_44 : decode cX6_rest 44 = .ok (.invokevirtual 160, 3) := by decide +kernel
theorem dX6_rest_47 : decode cX6_rest 47 = .ok (.iconst (-1), 1) := by decide +kernel
theorem dX6_rest_48 : decode cX6_rest 48 = .ok (.if_icmp .ne 7, 3) := by decide +kernel
theorem dX6_rest_51 : decode cX6_rest 51 = .ok (.iconst (-1), 1) := by decide +kernel
theorem dX6_rest_52 : decode cX6_rest 52 = .ok (.goto 21, 3) := by decide +kernel
theorem dX6_rest_55 : decode cX6_rest 55 = .ok (.aload_n 0, 1) := by decide +kernel
theorem dX6_rest_56 : decode cX6_rest 56 = .ok (.aload_n 0, 1) := by decide +kernel
theorem dX6_rest_57 : decode cX6_rest 57 = .ok (.iload_n 1, 1) := by decide +kernel
theorem dX6_rest_58 : decode cX6_rest 58 = .ok (.iload_n 2, 1) := by decide +kernel
theorem dX6_rest_59 : decode cX6_rest 59 = .ok (.iconst 1, 1) := by decide +kernel
theorem dX6_rest_60 : decode cX6_rest 60 = .ok (.isub, 1) := by decide +kernel
theorem dX6_rest_61 : decode cX6_rest 61 = .ok (.invokevirtual 160, 3) := by decide +kernel
theorem dX6_rest_64 : decode cX6_rest 64 = .ok (.aload_n 0, 1) := by decide +kernel
theorem dX6_rest_65 : decode cX6_rest 65 = .ok (.iload_n 1, 1) := by decide +kernel
theorem dX6_rest_66 : decode cX6_rest 66 = .ok (.iload_n 2, 1) := by decide +kernel
theorem dX6_rest_67 : decode cX6_rest 67 = .ok (.invokevirtual 160, 3) := by decide +kernel
theorem dX6_rest_70 : decode cX6_rest 70 = .ok (.invokevirtual 163, 3) := by decide +kernel
theorem dX6_rest_73 : decode cX6_rest 73 = .ok (.ireturn, 1) := by decide +kernel
theorem dX6_digest_0 : decode cX6_digest 0 = .ok (.aload_n 0, 1) := by decide +kernel
theorem dX6_digest_1 : decode cX6_digest 1 = .ok (.iconst 0, 1) := by decide +kernel
theorem dX6_digest_2 : decode cX6_digest 2 = .ok (.putfield 47, 3) := by decide +kernel
theorem dX6_digest_5 : decode cX6_digest 5 = .ok (.ldc2_w 185, 3) := by decide +kernel
theorem dX6_digest_8 : decode cX6_digest 8 = .ok (.aload_n 0, 1) := by decide +kernel
theorem dX6_digest_9 : decode cX6_digest 9 = .ok (.getfield 50, 3) := by decide +kernel
theorem dX6_digest_12 : decode cX6_digest 12 = .ok (.i2l, 1) := by decide +kernel
theorem dX6_digest_13 : decode cX6_digest 13 = .ok (.ladd, 1) := by decide +kernel
theorem dX6_digest_14 : decode cX6_digest 14 = .ok (.lstore_n 1, 1) := by decide +kernel
theorem dX6_digest_15 : decode cX6_digest 15 = .ok (.iconst 0, 1) := by decide +kernel
theorem dX6_digest_16 : decode cX6_digest 16 = .ok (.istore_n 3, 1) := by decide +kernel
theorem dX6_digest_17 : decode cX6_digest 17 = .ok (.iload_n 3, 1) := by decide +kernel
theorem dX6_digest_18 : decode cX6_digest 18 = .ok (.aload_n 0, 1) := by decide +kernel
theorem dX6_digest_19 : decode cX6_digest 19 = .ok (.getfield 50, 3) := by decide +kernel
theorem dX6_digest_22 : decode cX6_digest 22 = .ok (.if_icmp .ge 71, 3) := by decide +kernel
theorem dX6_digest_25 : decode cX6_digest 25 = .ok (.lload_n 1, 1) := by decide +kernel
theorem dX6_digest_26 : decode cX6_digest 26 = .ok (.ldc2_w 187, 3) := by decide +kernel
theorem dX6_digest_29 : decode cX6_digest 29 = .ok (.lmul, 1) := by decide +kernel
theorem dX6_digest_30 : decode cX6_digest 30 = .ok (.aload_n 0, 1) := by decide +kernel
theorem dX6_digest_31 : decode cX6_digest 31 = .ok (.getfield 13, 3) := by decide +kernel
theorem dX6_digest_34 : decode cX6_digest 34 = .ok (.iload_n 3, 1) := by decide +kernel
theorem dX6_digest_35 : decode cX6_digest 35 = .ok (.iaload, 1) := by decide +kernel
theorem dX6_digest_36 : decode cX6_digest 36 = .ok (.i2l, 1) := by decide +kernel
theorem dX6_digest_37 : decode cX6_digest 37 = .ok (.ladd, 1) := by decide +kernel
theorem dX6_digest_38 : decode cX6_digest 38 = .ok (.ldc2_w 187, 3) := by decide +kernel
theorem dX6_digest_41 : decode cX6_digest 41 = .ok (.lmul, 1) := by decide +kernel
theorem dX6_digest_42 : decode cX6_digest 42 = .ok (.aload_n 0, 1) := by decide +kernel
theorem dX6_digest_43 : decode cX6_digest 43 = .ok (.getfield 16, 3) := by decide +kernel
theorem dX6_digest_46 : decode cX6_digest 46 = .ok (.iload_n 3, 1) := by decide +kernel
theorem dX6_digest_47 : decode cX6_digest 47 = .ok (.iaload, 1) := by decide +kernel
theorem dX6_digest_48 : decode cX6_digest 48 = .ok (.i2l, 1) := by decide +kernel
theorem dX6_digest_49 : decode cX6_digest 49 = .ok (.ladd, 1) := by decide +kernel
theorem dX6_digest_50 : decode cX6_digest 50 = .ok (.ldc2_w 187, 3) := by decide +kernel
theorem dX6_digest_53 : decode cX6_digest 53 = .ok (.lmul, 1) := by decide +kernel
theorem dX6_digest_54 : decode cX6_digest 54 = .ok (.aload_n 0, 1) := by decide +kernel
theorem dX6_digest_55 : decode cX6_digest 55 = .ok (.getfield 19, 3) := by decide +kernel
theorem dX6_digest_58 : decode cX6_digest 58 = .ok (.iload_n 3, 1) := by decide +kernel
theorem dX6_digest_59 : decode cX6_digest 59 = .ok (.iaload, 1) := by decide +kernel
theorem dX6_digest_60 : decode cX6_digest 60 = .ok (.i2l, 1) := by decide +kernel
theorem dX6_digest_61 : decode cX6_digest 61 = .ok (.ladd, 1) := by decide +kernel
theorem dX6_digest_62 : decode cX6_digest 62 = .ok (.ldc2_w 187, 3) := by decide +kernel
theorem dX6_digest_65 : decode cX6_digest 65 = .ok (.lmul, 1) := by decide +kernel
theorem dX6_digest_66 : decode cX6_digest 66 = .ok (.aload_n 0, 1) := by decide +kernel
theorem dX6_digest_67 : decode cX6_digest 67 = .ok (.getfield 22, 3) := by decide +kernel
theorem dX6_digest_70 : decode cX6_digest 70 = .ok (.iload_n 3, 1) := by decide +kernel
theorem dX6_digest_71 : decode cX6_digest 71 = .ok (.iaload, 1) := by decide +kernel
theorem dX6_digest_72 : decode cX6_digest 72 = .ok (.i2l, 1) := by decide +kernel
theorem dX6_digest_73 : decode cX6_digest 73 = .ok (.ladd, 1) := by decide +kernel
theorem dX6_digest_74 : decode cX6_digest 74 = .ok (.ldc2_w 187, 3) := by decide +kernel
theorem dX6_digest_77 : decode cX6_digest 77 = .ok (.lmul, 1) := by decide +kernel
theorem dX6_digest_78 : decode cX6_digest 78 = .ok (.aload_n 0, 1) := by decide +kernel
theorem dX6_digest_79 : decode cX6_digest 79 = .ok (.getfield 25, 3) := by decide +kernel
theorem dX6_digest_82 : decode cX6_digest 82 = .ok (.iload_n 3, 1) := by decide +kernel
theorem dX6_digest_83 : decode cX6_digest 83 = .ok (.iaload, 1) := by decide +kernel
theorem dX6_digest_84 : decode cX6_digest 84 = .ok (.i2l, 1) := by decide +kernel
theorem dX6_digest_85 : decode cX6_digest 85 = .ok (.ladd, 1) := by decide +kernel
theorem dX6_digest_86 : decode cX6_digest 86 = .ok (.lstore_n 1, 1) := by decide +kernel
theorem dX6_digest_87 : decode cX6_digest 87 = .ok (.iinc 3 1, 3) := by decide +kernel
theorem dX6_digest_90 : decode cX6_digest 90 = .ok (.goto (-73), 3) := by decide +kernel
theorem dX6_digest_93 : decode cX6_digest 93 = .ok (.lload_n 1, 1) := by decide +kernel
theorem dX6_digest_94 : decode cX6_digest 94 = .ok (.ldc2_w 187, 3) := by decide +kernel
theorem dX6_digest_97 : decode cX6_digest 97 = .ok (.lmul, 1) := by decide +kernel
theorem dX6_digest_98 : decode cX6_digest 98 = .ok (.aload_n 0, 1) := by decide +kernel
theorem dX6_digest_99 : decode cX6_digest 99 = .ok (.getfield 57, 3) := by decide +kernel
theorem dX6_digest_102 : decode cX6_digest 102 = .ok (.i2l, 1) := by decide +kernel
theorem dX6_digest_103 : decode cX6_digest 103 = .ok (.ladd, 1) := by decide +kernel
theorem dX6_digest_104 : decode cX6_digest 104 = .ok (.lstore_n 1, 1) := by decide +kernel
theorem dX6_digest_105 : decode cX6_digest 105 = .ok (.iconst 0, 1) := by decide +kernel
theorem dX6_digest_106 : decode cX6_digest 106 = .ok (.istore_n 3, 1) := by decide +kernel
theorem dX6_digest_107 : decode cX6_digest 107 = .ok (.iload_n 3, 1) := by decide +kernel
theorem dX6_digest_108 : decode cX6_digest 108 = .ok (.aload_n 0, 1) := by decide +kernel
theorem dX6_digest_109 : decode cX6_digest 109 = .ok (.getfield 57, 3) := by decide +kernel
theorem dX6_digest_112 : decode cX6_digest 112 = .ok (.if_icmp .ge 40, 3) := by decide +kernel
theorem dX6_digest_115 : decode cX6_digest 115 = .ok (.iconst 0, 1) := by decide +kernel
theorem dX6_digest_116 : decode cX6_digest 116 = .ok (.istore 4, 2) := by decide +kernel
theorem dX6_digest_118 : decode cX6_digest 118 = .ok (.iload 4, 2) := by decide +kernel
theorem dX6_digest_120 : decode cX6_digest 120 = .ok (.bipush 9, 2) := by decide +kernel
theorem dX6_digest_122 : decode cX6_digest 122 = .ok (.if_icmp .ge 24, 3) := by decide +kernel
theorem dX6_digest_125 : decode cX6_digest 125 = .ok (.lload_n 1, 1) := by decide +kernel
theorem dX6_digest_126 : decode cX6_digest 126 = .ok (.ldc2_w 187, 3) := by decide +kernel
theorem dX6_digest_129 : decode cX6_digest 129 = .ok (.lmul, 1) := by decide +kernel
theorem dX6_digest_130 : decode cX6_digest 130 = .ok (.aload_n 0, 1) := by decide +kernel
theorem dX6_digest_131 : decode cX6_digest 131 = .ok (.iload_n 3, 1) := by decide +kernel
theorem dX6_digest_132 : decode cX6_digest 132 = .ok (.iload 4, 2) := by decide +kernel
theorem dX6_digest_134 : decode cX6_digest 134 = .ok (.invokevirtual 132, 3) := by decide +kernel
theorem dX6_digest_137 : decode cX6_digest 137 = .ok (.i2l, 1) := by decide +kernel
theorem dX6_digest_138 : decode cX6_digest 138 = .ok (.ladd, 1) := by decide +kernel
theorem dX6_digest_139 : decode cX6_digest 139 = .ok (.lstore_n 1, 1) := by decide +kernel
theorem dX6_digest_140 : decode cX6_digest 140 = .ok (.iinc 4 1, 3) := by decide +kernel
theorem dX6_digest_143 : decode cX6_digest 143 = .ok (.goto (-25), 3) := by decide +kernel
theorem dX6_digest_146 : decode cX6_digest 146 = .ok (.iinc 3 1, 3) := by decide +kernel
theorem dX6_digest_149 : decode cX6_digest 149 = .ok (.goto (-42), 3) := by decide +kernel
theorem dX6_digest_152 : decode cX6_digest 152 = .ok (.lload_n 1, 1) := by decide +kernel
theorem dX6_digest_153 : decode cX6_digest 153 = .ok (.ldc2_w 187, 3) := by decide +kernel
theorem dX6_digest_156 : decode cX6_digest 156 = .ok (.lmul, 1) := by decide +kernel
theorem dX6_digest_157 : decode cX6_digest 157 = .ok (.aload_n 0, 1) := by decide +kernel
theorem dX6_digest_158 : decode cX6_digest 158 = .ok (.getfield 74, 3) := by decide +kernel
theorem dX6_digest_161 : decode cX6_digest 161 = .ok (.i2l, 1) := by decide +kernel
theorem dX6_digest_162 : decode cX6_digest 162 = .ok (.ladd, 1) := by decide +kernel
theorem dX6_digest_163 : decode cX6_digest 163 = .ok (.lstore_n 1, 1) := by decide +kernel
theorem dX6_digest_164 : decode cX6_digest 164 = .ok (.iconst 0, 1) := by decide +kernel
theorem dX6_digest_165 : decode cX6_digest 165 = .ok (.istore_n 3, 1) := by decide +kernel
theorem dX6_digest_166 : decode cX6_digest 166 = .ok (.iload_n 3, 1) := by decide +kernel
theorem dX6_digest_167 : decode cX6_digest 167 = .ok (.bipush 7, 2) := by decide +kernel
theorem dX6_digest_169 : decode cX6_digest 169 = .ok (.aload_n 0, 1) := by decide +kernel
theorem dX6_digest_170 : decode cX6_digest 170 = .ok (.getfield 74, 3) := by decide +kernel
theorem dX6_digest_173 : decode cX6_digest 173 = .ok (.imul, 1) := by decide +kernel
theorem dX6_digest_174 : decode cX6_digest 174 = .ok (.if_icmp .ge 23, 3) := by decide +kernel
theorem dX6_digest_177 : decode cX6_digest 177 = .ok (.lload_n 1, 1) := by decide +kernel
theorem dX6_digest_178 : decode cX6_digest 178 = .ok (.ldc2_w 187, 3) := by decide +kernel
theorem dX6_digest_181 : decode cX6_digest 181 = .ok (.lmul, 1) := by decide +kernel
theorem dX6_digest_182 : decode cX6_digest 182 = .ok (.aload_n 0, 1) := by decide +kernel
theorem dX6_digest_183 : decode cX6_digest 183 = .ok (.getfield 28, 3) := by decide +kernel
theorem dX6_digest_186 : decode cX6_digest 186 = .ok (.iload_n 3, 1) := by decide +kernel
theorem dX6_digest_187 : decode cX6_digest 187 = .ok (.iaload, 1) := by decide +kernel
theorem dX6_digest_188 : decode cX6_digest 188 = .ok (.i2l, 1) := by decide +kernel
theorem dX6_digest_189 : decode cX6_digest 189 = .ok (.ladd, 1) := by decide +kernel
theorem dX6_digest_190 : decode cX6_digest 190 = .ok (.lstore_n 1, 1) := by decide +kernel
theorem dX6_digest_191 : decode cX6_digest 191 = .ok (.iinc 3 1, 3) := by decide +kernel
theorem dX6_digest_194 : decode cX6_digest 194 = .ok (.goto (-28), 3) := by decide +kernel
theorem dX6_digest_197 : decode cX6_digest 197 = .ok (.lload_n 1, 1) := by decide +kernel
theorem dX6_digest_198 : decode cX6_digest 198 = .ok (.lreturn, 1) := by decide +kernel
end
section
theorem dL_law_0 : decode cL_law 0 = .ok (.new 8, 3) := by decide +kernel
theorem dL_law_3 : decode cL_law 3 = .ok (.dup, 1) := by decide +kernel
theorem dL_law_4 : decode cL_law 4 = .ok (.invokespecial 80, 3) := by decide +kernel
theorem dL_law_7 : decode cL_law 7 = .ok (.astore_n 1, 1) := by decide +kernel
theorem dL_law_8 : decode cL_law 8 = .ok (.new 81, 3) := by decide +kernel
theorem dL_law_11 : decode cL_law 11 = .ok (.dup, 1) := by decide +kernel
theorem dL_law_12 : decode cL_law 12 = .ok (.invokespecial 83, 3) := by decide +kernel
theorem dL_law_15 : decode cL_law 15 = .ok (.astore_n 2, 1) := by decide +kernel
theorem dL_law_16 : decode cL_law 16 = .ok (.iconst 1, 1) := by decide +kernel
theorem dL_law_17 : decode cL_law 17 = .ok (.newarray .long, 2) := by decide +kernel
theorem dL_law_19 : decode cL_law 19 = .ok (.astore_n 3, 1) := by decide +kernel
theorem dL_law_20 : decode cL_law 20 = .ok (.iconst 0, 1) := by decide +kernel
theorem dL_law_21 : decode cL_law 21 = .ok (.istore 4, 2) := by decide +kernel
theorem dL_law_23 : decode cL_law 23 = .ok (.iload 4, 2) := by decide +kernel
theorem dL_law_25 : decode cL_law 25 = .ok (.aload_n 0, 1) := by decide +kernel
theorem dL_law_26 : decode cL_law 26 = .ok (.arraylength, 1) := by decide +kernel
theorem dL_law_27 : decode cL_law 27 = .ok (.iconst 5, 1) := by decide +kernel
theorem dL_law_28 : decode cL_law 28 = .ok (.isub, 1) := by decide +kernel
theorem dL_law_29 : decode cL_law 29 = .ok (.if_icmp .gt 1571, 3) := by decide +kernel
theorem dL_law_32 : decode cL_law 32 = .ok (.aload_n 0, 1) := by decide +kernel
theorem dL_law_33 : decode cL_law 33 = .ok (.iload 4, 2) := by decide +kernel
theorem dL_law_35 : decode cL_law 35 = .ok (.iaload, 1) := by decide +kernel
theorem dL_law_36 : decode cL_law 36 = .ok (.bipush 31, 2) := by decide +kernel
theorem dL_law_38 : decode cL_law 38 = .ok (.iand, 1) := by decide +kernel
theorem dL_law_39 : decode cL_law 39 = .ok (.tableswitch 1555 0 24 #[113, 193, 285, 353, 445, 501, 545, 613, 669, 737, 805, 861, 874, 954, 967, 980, 1021, 1065, 1145, 1225, 1293, 1361, 1417, 1473, 1541], 113) := by decide +kernel
theorem dL_law_152 : decode cL_law 152 = .ok (.aload_n 1, 1) := by decide +kernel
theorem dL_law_153 : decode cL_law 153 = .ok (.aload_n 0, 1) := by decide +kernel
theorem dL_law_154 : decode cL_law 154 = .ok (.iload 4, 2) := by decide +kernel
theorem dL_law_156 : decode cL_law 156 = .ok (.iconst 1, 1) := by decide +kernel
theorem dL_law_157 : decode cL_law 157 = .ok (.iadd, 1) := by decide +kernel
theorem dL_law_158 : decode cL_law 158 = .ok (.iaload, 1) := by decide +kernel
theorem dL_law_159 : decode cL_law 159 = .ok (.aload_n 0, 1) := by decide +kernel
theorem dL_law_160 : decode cL_law 160 = .ok (.iload 4, 2) := by decide +kernel
theorem dL_law_162 : decode cL_law 162 = .ok (.iconst 2, 1) := by decide +kernel
theorem dL_law_163 : decode cL_law 163 = .ok (.iadd, 1) := by decide +kernel
theorem dL_law_164 : decode cL_law 164 = .ok (.iaload, 1) := by decide +kernel
theorem dL_law_165 : decode cL_law 165 = .ok (.aload_n 0, 1) := by decide +kernel
theorem dL_law_166 : decode cL_law 166 = .ok (.iload 4, 2) := by decide +kernel
theorem dL_law_168 : decode cL_law 168 = .ok (.iconst 3, 1) := by decide +kernel
theorem dL_law_169 : decode cL_law 169 = .ok (.iadd, 1) := by decide +kernel
theorem dL_law_170 : decode cL_law 170 = .ok (.iaload, 1) := by decide +kernel
theorem dL_law_171 : decode cL_law 171 = .ok (.aload_n 3, 1) := by decide +kernel
theorem dL_law_172 : decode cL_law 172 = .ok (.invokestatic 84, 3) := by decide +kernel
theorem dL_law_175 : decode cL_law 175 = .ok (.istore 5, 2) := by decide +kernel
theorem dL_law_177 : decode cL_law 177 = .ok (.aload_n 2, 1) := by decide +kernel
theorem dL_law_178 : decode cL_law 178 = .ok (.aload_n 0, 1) := by decide +kernel
theorem dL_law_179 : decode cL_law 179 = .ok (.iload 4, 2) := by decide +kernel
theorem dL_law_181 : decode cL_law 181 = .ok (.iconst 1, 1) := by decide +kernel
theorem dL_law_182 : decode cL_law 182 = .ok (.iadd, 1) := by decide +kernel
theorem dL_law_183 : decode cL_law 183 = .ok (.iaload, 1) := by decide +kernel
theorem dL_law_184 : decode cL_law 184 = .ok (.aload_n 0, 1) := by decide +kernel
theorem dL_law_185 : decode cL_law 185 = .ok (.iload 4, 2) := by decide +kernel
theorem dL_law_187 : decode cL_law 187 = .ok (.iconst 2, 1) := by decide +kernel
theorem dL_law_188 : decode cL_law 188 = .ok (.iadd, 1) := by decide +kernel
theorem dL_law_189 : decode cL_law 189 = .ok (.iaload, 1) := by decide +kernel
theorem dL_law_190 : decode cL_law 190 = .ok (.aload_n 0, 1) := by decide +kernel
theorem dL_law_191 : decode cL_law 191 = .ok (.iload 4, 2) := by decide +kernel
theorem dL_law_193 : decode cL_law 193 = .ok (.iconst 3, 1) := by decide +kernel
theorem dL_law_194 : decode cL_law 194 = .ok (.iadd, 1) := by decide +kernel
theorem dL_law_195 : decode cL_law 195 = .ok (.iaload, 1) := by decide +kernel
theorem dL_law_196 : decode cL_law 196 = .ok (.invokevirtual 89, 3) := by decide +kernel
theorem dL_law_199 : decode cL_law 199 = .ok (.istore 6, 2) := by decide +kernel
theorem dL_law_201 : decode cL_law 201 = .ok (.aload_n 2, 1) := by decide +kernel
theorem dL_law_202 : decode cL_law 202 = .ok (.invokevirtual 90, 3) := by decide +kernel
theorem dL_law_205 : decode cL_law 205 = .ok (.iload 5, 2) := by decide +kernel
theorem dL_law_207 : decode cL_law 207 = .ok (.if_icmp .eq 5, 3) := by decide +kernel
theorem dL_law_210 : decode cL_law 210 = .ok (.iconst 0, 1) := by decide +kernel
theorem dL_law_211 : decode cL_law 211 = .ok (.ireturn, 1) := by decide +kernel
theorem dL_law_212 : decode cL_law 212 = .ok (.iload 5, 2) := by decide +kernel
theorem dL_law_214 : decode cL_law 214 = .ok (.ifCond .ne 15, 3) := by decide +kernel
theorem dL_law_217 : decode cL_law 217 = .ok (.aload_n 3, 1) := by decide +kernel
theorem dL_law_218 : decode cL_law 218 = .ok (.iconst 0, 1) := by decide +kernel
theorem dL_law_219 : decode cL_law 219 = .ok (.laload, 1) := by decide +kernel
theorem dL_law_220 : decode cL_law 220 = .ok (.iload 6, 2) := by decide +kernel
theorem dL_law_222 : decode cL_law 222 = .ok (.i2l, 1) := by decide +kernel
theorem dL_law_223 : decode cL_law 223 = .ok (.lcmp, 1) := by decide +kernel
theorem dL_law_224 : decode cL_law 224 = .ok (.ifCond .eq 5, 3) := by decide +kernel
theorem dL_law_227 : decode cL_law 227 = .ok (.iconst 0, 1) := by decide +kernel
theorem dL_law_228 : decode cL_law 228 = .ok (.ireturn, 1) := by decide +kernel
theorem dL_law_229 : decode cL_law 229 = .ok (.goto 1365, 3) := by decide +kernel
theorem dL_law_232 : decode cL_law 232 = .ok (.aload_n 1, 1) := by decide +kernel
theorem dL_law_233 : decode cL_law 233 = .ok (.aload_n 0, 1) := by decide +kernel
theorem dL_law_234 : decode cL_law 234 = .ok (.iload 4, 2) := by decide +kernel
theorem dL_law_236 : decode cL_law 236 = .ok (.iconst 1, 1) := by decide +kernel
theorem dL_law_237 : decode cL_law 237 = .ok (.iadd, 1) := by decide +kernel
theorem dL_law_238 : decode cL_law 238 = .ok (.iaload, 1) := by decide +kernel
theorem dL_law_239 : decode cL_law 239 = .ok (.aload_n 0, 1) := by decide +kernel
theorem dL_law_240 : decode cL_law 240 = .ok (.iload 4, 2) := by decide +kernel
theorem dL_law_242 : decode cL_law 242 = .ok (.iconst 2, 1) := by decide +kernel
theorem dL_law_243 : decode cL_law 243 = .ok (.iadd, 1) := by decide +kernel
theorem dL_law_244 : decode cL_law 244 = .ok (.iaload, 1) := by decide +kernel
theorem dL_law_245 : decode cL_law 245 = .ok (.aload_n 0, 1) := by decide +kernel
theorem dL_law_246 : decode cL_law 246 = .ok (.iload 4, 2) := by decide +kernel
theorem dL_law_248 : decode cL_law 248 = .ok (.iconst 3, 1) := by decide +kernel
theorem dL_law_249 : decode cL_law 249 = .ok (.iadd, 1) := by decide +kernel
theorem dL_law_250 : decode cL_law 250 = .ok (.iaload, 1) := by decide +kernel
theorem dL_law_251 : decode cL_law 251 = .ok (.aload_n 0, 1) := by decide +kernel
theorem dL_law_252 : decode cL_law 252 = .ok (.iload 4, 2) := by decide +kernel
theorem dL_law_254 : decode cL_law 254 = .ok (.iconst 4, 1) := by decide +kernel
theorem dL_law_255 : decode cL_law 255 = .ok (.iadd, 1) := by decide +kernel
theorem dL_law_256 : decode cL_law 256 = .ok (.iaload, 1) := by decide +kernel
theorem dL_law_257 : decode cL_law 257 = .ok (.aload_n 3, 1) := by decide +kernel
theorem dL_law_258 : decode cL_law 258 = .ok (.invokestatic 93, 3) := by decide +kernel
theorem dL_law_261 : decode cL_law 261 = .ok (.istore 5, 2) := by decide +kernel
theorem dL_law_263 : decode cL_law 263 = .ok (.aload_n 2, 1) := by decide +kernel
theorem dL_law_264 : decode cL_law 264 = .ok (.aload_n 0, 1) := by decide +kernel
theorem dL_law_265 : decode cL_law 265 = .ok (.iload 4, 2) := by decide +kernel
theorem dL_law_267 : decode cL_law 267 = .ok (.iconst 1, 1) := by decide +kernel
theorem dL_law_268 : decode cL_law 268 = .ok (.iadd, 1) := by decide +kernel
theorem dL_law_269 : decode cL_law 269 = .ok (.iaload, 1) := by decide +kernel
theorem dL_law_270 : decode cL_law 270 = .ok (.aload_n 0, 1) := by decide +kernel
theorem dL_law_271 : decode cL_law 271 = .ok (.iload 4, 2) := by decide +kernel
theorem dL_law_273 : decode cL_law 273 = .ok (.iconst 2, 1) := by decide +kernel
theorem dL_law_274 : decode cL_law 274 = .ok (.iadd, 1) := by decide +kernel
theorem dL_law_275 : decode cL_law 275 = .ok (.iaload, 1) := by decide +kernel
theorem dL_law_276 : decode cL_law 276 = .ok (.aload_n 0, 1) := by decide +kernel
theorem dL_law_277 : decode cL_law 277 = .ok (.iload 4, 2) := by decide +kernel
theorem dL_law_279 : decode cL_law 279 = .ok (.iconst 3, 1) := by decide +kernel
theorem dL_law_280 : decode cL_law 280 = .ok (.iadd, 1) := by decide +kernel
theorem dL_law_281 : decode cL_law 281 = .ok (.iaload, 1) := by decide +kernel
theorem dL_law_282 : decode cL_law 282 = .ok (.aload_n 0, 1) := by decide +kernel
theorem dL_law_283 : decode cL_law 283 = .ok (.iload 4, 2) := by decide +kernel
theorem dL_law_285 : decode cL_law 285 = .ok (.iconst 4, 1) := by decide +kernel
theorem dL_law_286 : decode cL_law 286 = .ok (.iadd, 1) := by decide +kernel
theorem dL_law_287 : decode cL_law 287 = .ok (.iaload, 1) := by decide +kernel
theorem dL_law_288 : decode cL_law 288 = .ok (.invokevirtual 96, 3) := by decide +kernel
theorem dL_law_291 : decode cL_law 291 = .ok (.istore 6, 2) := by decide +kernel
theorem dL_law_293 : decode cL_law 293 = .ok (.aload_n 2, 1) := by decide +kernel
theorem dL_law_294 : decode cL_law 294 = .ok (.invokevirtual 90, 3) := by decide +kernel
theorem dL_law_297 : decode cL_law 297 = .ok (.iload 5, 2) := by decide +kernel
theorem dL_law_299 : decode cL_law 299 = .ok (.if_icmp .eq 5, 3) := by decide +kernel
theorem dL_law_302 : decode cL_law 302 = .ok (.iconst 0, 1) := by decide +kernel
theorem dL_law_303 : decode cL_law 303 = .ok (.ireturn, 1) := by decide +kernel
theorem dL_law_304 : decode cL_law 304 = .ok (.iload 5, 2) := by decide +kernel
theorem dL_law_306 : decode cL_law 306 = .ok (.ifCond .ne 15, 3) := by decide +kernel
theorem dL_law_309 : decode cL_law 309 = .ok (.aload_n 3, 1) := by decide +kernel
theorem dL_law_310 : decode cL_law 310 = .ok (.iconst 0, 1) := by decide +kernel
theorem dL_law_311 : decode cL_law 311 = .ok (.laload, 1) := by decide +kernel
theorem dL_law_312 : decode cL_law 312 = .ok (.iload 6, 2) := by decide +kernel
theorem dL_law_314 : decode cL_law 314 = .ok (.i2l, 1) := by decide +kernel
theorem dL_law_315 : decode cL_law 315 = .ok (.lcmp, 1) := by decide +kernel
theorem dL_law_316 : decode cL_law 316 = .ok (.ifCond .eq 5, 3) := by decide +kernel
theorem dL_law_319 : decode cL_law 319 = .ok (.iconst 0, 1) := by decide +kernel
theorem dL_law_320 : decode cL_law 320 = .ok (.ireturn, 1) := by decide +kernel
theorem dL_law_321 : decode cL_law 321 = .ok (.goto 1273, 3) := by decide +kernel
theorem dL_law_324 : decode cL_law 324 = .ok (.aload_n 1, 1) := by decide +kernel
theorem dL_law_325 : decode cL_law 325 = .ok (.aload_n 0, 1) := by decide +kernel
theorem dL_law_326 : decode cL_law 326 = .ok (.iload 4, 2) := by decide +kernel
theorem dL_law_328 : decode cL_law 328 = .ok (.iconst 1, 1) := by decide +kernel
theorem dL_law_329 : decode cL_law 329 = .ok (.iadd, 1) := by decide +kernel
theorem dL_law_330 : decode cL_law 330 = .ok (.iaload, 1) := by decide +kernel
theorem dL_law_331 : decode cL_law 331 = .ok (.aload_n 0, 1) := by decide +kernel
theorem dL_law_332 : decode cL_law 332 = .ok (.iload 4, 2) := by decide +kernel
theorem dL_law_334 : decode cL_law 334 = .ok (.iconst 2, 1) := by decide +kernel
theorem dL_law_335 : decode cL_law 335 = .ok (.iadd, 1) := by decide +kernel
theorem dL_law_336 : decode cL_law 336 = .ok (.iaload, 1) := by decide +kernel
theorem dL_law_337 : decode cL_law 337 = .ok (.aload_n 3, 1) := by decide +kernel
theorem dL_law_338 : decode cL_law 338 = .ok (.invokestatic 97, 3) := by decide +kernel
theorem dL_law_341 : decode cL_law 341 = .ok (.istore 5, 2) := by decide +kernel
theorem dL_law_343 : decode cL_law 343 = .ok (.aload_n 2, 1) := by decide +kernel
theorem dL_law_344 : decode cL_law 344 = .ok (.aload_n 0, 1) := by decide +kernel
theorem dL_law_345 : decode cL_law 345 = .ok (.iload 4, 2) := by decide +kernel
theorem dL_law_347 : decode cL_law 347 = .ok (.iconst 1, 1) := by decide +kernel
theorem dL_law_348 : decode cL_law 348 = .ok (.iadd, 1) := by decide +kernel
theorem dL_law_349 : decode cL_law 349 = .ok (.iaload, 1) := by decide +kernel
theorem dL_law_350 : decode cL_law 350 = .ok (.aload_n 0, 1) := by decide +kernel
theorem dL_law_351 : decode cL_law 351 = .ok (.iload 4, 2) := by decide +kernel
theorem dL_law_353 : decode cL_law 353 = .ok (.iconst 2, 1) := by decide +kernel
theorem dL_law_354 : decode cL_law 354 = .ok (.iadd, 1) := by decide +kernel
theorem dL_law_355 : decode cL_law 355 = .ok (.iaload, 1) := by decide +kernel
theorem dL_law_356 : decode cL_law 356 = .ok (.invokevirtual 100, 3) := by decide +kernel
theorem dL_law_359 : decode cL_law 359 = .ok (.istore 6, 2) := by decide +kernel
theorem dL_law_361 : decode cL_law 361 = .ok (.aload_n 2, 1) := by decide +kernel
theorem dL_law_362 : decode cL_law 362 = .ok (.invokevirtual 90, 3) := by decide +kernel
theorem dL_law_365 : decode cL_law 365 = .ok (.iload 5, 2) := by decide +kernel
theorem dL_law_367 : decode cL_law 367 = .ok (.if_icmp .eq 5, 3) := by decide +kernel
theorem dL_law_370 : decode cL_law 370 = .ok (.iconst 0, 1) := by decide +kernel
theorem dL_law_371 : decode cL_law 371 = .ok (.ireturn, 1) := by decide +kernel
theorem dL_law_372 : decode cL_law 372 = .ok (.iload 5, 2) := by decide +kernel
theorem dL_law_374 : decode cL_law 374 = .ok (.ifCond .ne 15, 3) := by decide +kernel
theorem dL_law_377 : decode cL_law 377 = .ok (.aload_n 3, 1) := by decide +kernel
theorem dL_law_378 : decode cL_law 378 = .ok (.iconst 0, 1) := by decide +kernel
theorem dL_law_379 : decode cL_law 379 = .ok (.laload, 1) := by decide +kernel
theorem dL_law_380 : decode cL_law 380 = .ok (.iload 6, 2) := by decide +kernel
theorem dL_law_382 : decode cL_law 382 = .ok (.i2l, 1) := by decide +kernel
theorem dL_law_383 : decode cL_law 383 = .ok (.lcmp, 1) := by decide +kernel
theorem dL_law_384 : decode cL_law 384 = .ok (.ifCond .eq 5, 3) := by decide +kernel
theorem dL_law_387 : decode cL_law 387 = .ok (.iconst 0, 1) := by decide +kernel
theorem dL_law_388 : decode cL_law 388 = .ok (.ireturn, 1) := by decide +kernel
theorem dL_law_389 : decode cL_law 389 = .ok (.goto 1205, 3) := by decide +kernel
theorem dL_law_392 : decode cL_law 392 = .ok (.aload_n 1, 1) := by decide +kernel
theorem dL_law_393 : decode cL_law 393 = .ok (.aload_n 0, 1) := by decide +kernel
theorem dL_law_394 : decode cL_law 394 = .ok (.iload 4, 2) := by decide +kernel
theorem dL_law_396 : decode cL_law 396 = .ok (.iconst 1, 1) := by decide +kernel
theorem dL_law_397 : decode cL_law 397 = .ok (.iadd, 1) := by decide +kernel
theorem dL_law_398 : decode cL_law 398 = .ok (.iaload, 1) := by decide +kernel
theorem dL_law_399 : decode cL_law 399 = .ok (.aload_n 0, 1) := by decide +kernel
theorem dL_law_400 : decode cL_law 400 = .ok (.iload 4, 2) := by decide +kernel
theorem dL_law_402 : decode cL_law 402 = .ok (.iconst 2, 1) := by decide +kernel
theorem dL_law_403 : decode cL_law 403 = .ok (.iadd, 1) := by decide +kernel
theorem dL_law_404 : decode cL_law 404 = .ok (.iaload, 1) := by decide +kernel
theorem dL_law_405 : decode cL_law 405 = .ok (.aload_n 0, 1) := by decide +kernel
theorem dL_law_406 : decode cL_law 406 = .ok (.iload 4, 2) := by decide +kernel
theorem dL_law_408 : decode cL_law 408 = .ok (.iconst 3, 1) := by decide +kernel
theorem dL_law_409 : decode cL_law 409 = .ok (.iadd, 1) := by decide +kernel
theorem dL_law_410 : decode cL_law 410 = .ok (.iaload, 1) := by decide +kernel
theorem dL_law_411 : decode cL_law 411 = .ok (.aload_n 0, 1) := by decide +kernel
theorem dL_law_412 : decode cL_law 412 = .ok (.iload 4, 2) := by decide +kernel
theorem dL_law_414 : decode cL_law 414 = .ok (.iconst 4, 1) := by decide +kernel
theorem dL_law_415 : decode cL_law 415 = .ok (.iadd, 1) := by decide +kernel
theorem dL_law_416 : decode cL_law 416 = .ok (.iaload, 1) := by decide +kernel
theorem dL_law_417 : decode cL_law 417 = .ok (.aload_n 3, 1) := by decide +kernel
theorem dL_law_418 : decode cL_law 418 = .ok (.invokestatic 101, 3) := by decide +kernel
theorem dL_law_421 : decode cL_law 421 = .ok (.istore 5, 2) := by decide +kernel
theorem dL_law_423 : decode cL_law 423 = .ok (.aload_n 2, 1) := by decide +kernel
theorem dL_law_424 : decode cL_law 424 = .ok (.aload_n 0, 1) := by decide +kernel
theorem dL_law_425 : decode cL_law 425 = .ok (.iload 4, 2) := by decide +kernel
theorem dL_law_427 : decode cL_law 427 = .ok (.iconst 1, 1) := by decide +kernel
theorem dL_law_428 : decode cL_law 428 = .ok (.iadd, 1) := by decide +kernel
theorem dL_law_429 : decode cL_law 429 = .ok (.iaload, 1) := by decide +kernel
theorem dL_law_430 : decode cL_law 430 = .ok (.aload_n 0, 1) := by decide +kernel
theorem dL_law_431 : decode cL_law 431 = .ok (.iload 4, 2) := by decide +kernel
theorem dL_law_433 : decode cL_law 433 = .ok (.iconst 2, 1) := by decide +kernel
theorem dL_law_434 : decode cL_law 434 = .ok (.iadd, 1) := by decide +kernel
theorem dL_law_435 : decode cL_law 435 = .ok (.iaload, 1) := by decide +kernel
theorem dL_law_436 : decode cL_law 436 = .ok (.aload_n 0, 1) := by decide +kernel
theorem dL_law_437 : decode cL_law 437 = .ok (.iload 4, 2) := by decide +kernel
theorem dL_law_439 : decode cL_law 439 = .ok (.iconst 3, 1) := by decide +kernel
theorem dL_law_440 : decode cL_law 440 = .ok (.iadd, 1) := by decide +kernel
theorem dL_law_441 : decode cL_law 441 = .ok (.iaload, 1) := by decide +kernel
theorem dL_law_442 : decode cL_law 442 = .ok (.aload_n 0, 1) := by decide +kernel
theorem dL_law_443 : decode cL_law 443 = .ok (.iload 4, 2) := by decide +kernel
theorem dL_law_445 : decode cL_law 445 = .ok (.iconst 4, 1) := by decide +kernel
theorem dL_law_446 : decode cL_law 446 = .ok (.iadd, 1) := by decide +kernel
theorem dL_law_447 : decode cL_law 447 = .ok (.iaload, 1) := by decide +kernel
theorem dL_law_448 : decode cL_law 448 = .ok (.invokevirtual 103, 3) := by decide +kernel
theorem dL_law_451 : decode cL_law 451 = .ok (.istore 6, 2) := by decide +kernel
theorem dL_law_453 : decode cL_law 453 = .ok (.aload_n 2, 1) := by decide +kernel
theorem dL_law_454 : decode cL_law 454 = .ok (.invokevirtual 90, 3) := by decide +kernel
theorem dL_law_457 : decode cL_law 457 = .ok (.iload 5, 2) := by decide +kernel
theorem dL_law_459 : decode cL_law 459 = .ok (.if_icmp .eq 5, 3) := by decide +kernel
theorem dL_law_462 : decode cL_law 462 = .ok (.iconst 0, 1) := by decide +kernel
theorem dL_law_463 : decode cL_law 463 = .ok (.ireturn, 1) := by decide +kernel
theorem dL_law_464 : decode cL_law 464 = .ok (.iload 5, 2) := by decide +kernel
theorem dL_law_466 : decode cL_law 466 = .ok (.ifCond .ne 15, 3) := by decide +kernel
theorem dL_law_469 : decode cL_law 469 = .ok (.aload_n 3, 1) := by decide +kernel
theorem dL_law_470 : decode cL_law 470 = .ok (.iconst 0, 1) := by decide +kernel
theorem dL_law_471 : decode cL_law 471 = .ok (.laload, 1) := by decide +kernel
theorem dL_law_472 : decode cL_law 472 = .ok (.iload 6, 2) := by decide +kernel
theorem dL_law_474 : decode cL_law 474 = .ok (.i2l, 1) := by decide +kernel
theorem dL_law_475 : decode cL_law 475 = .ok (.lcmp, 1) := by decide +kernel
theorem dL_law_476 : decode cL_law 476 = .ok (.ifCond .eq 5, 3) := by decide +kernel
theorem dL_law_479 : decode cL_law 479 = .ok (.iconst 0, 1) := by decide +kernel
theorem dL_law_480 : decode cL_law 480 = .ok (.ireturn, 1) := by decide +kernel
theorem dL_law_481 : decode cL_law 481 = .ok (.goto 1113, 3) := by decide +kernel
theorem dL_law_484 : decode cL_law 484 = .ok (.aload_n 1, 1) := by decide +kernel
theorem dL_law_485 : decode cL_law 485 = .ok (.aload_n 0, 1) := by decide +kernel
theorem dL_law_486 : decode cL_law 486 = .ok (.iload 4, 2) := by decide +kernel
theorem dL_law_488 : decode cL_law 488 = .ok (.iconst 1, 1) := by decide +kernel
theorem dL_law_489 : decode cL_law 489 = .ok (.iadd, 1) := by decide +kernel
theorem dL_law_490 : decode cL_law 490 = .ok (.iaload, 1) := by decide +kernel
theorem dL_law_491 : decode cL_law 491 = .ok (.aload_n 3, 1) := by decide +kernel
theorem dL_law_492 : decode cL_law 492 = .ok (.invokestatic 104, 3) := by decide +kernel
theorem dL_law_495 : decode cL_law 495 = .ok (.istore 5, 2) := by decide +kernel
theorem dL_law_497 : decode cL_law 497 = .ok (.aload_n 2, 1) := by decide +kernel
theorem dL_law_498 : decode cL_law 498 = .ok (.aload_n 0, 1) := by decide +kernel
theorem dL_law_499 : decode cL_law 499 = .ok (.iload 4, 2) := by decide +kernel
theorem dL_law_501 : decode cL_law 501 = .ok (.iconst 1, 1) := by decide +kernel
theorem dL_law_502 : decode cL_law 502 = .ok (.iadd, 1) := by decide +kernel
theorem dL_law_503 : decode cL_law 503 = .ok (.iaload, 1) := by decide +kernel
theorem dL_law_504 : decode cL_law 504 = .ok (.invokevirtual 107, 3) := by decide +kernel
theorem dL_law_507 : decode cL_law 507 = .ok (.istore 6, 2) := by decide +kernel
theorem dL_law_509 : decode cL_law 509 = .ok (.aload_n 2, 1) := by decide +kernel
theorem dL_law_510 : decode cL_law 510 = .ok (.invokevirtual 90, 3) := by decide +kernel
theorem dL_law_513 : decode cL_law 513 = .ok (.iload 5, 2) := by decide +kernel
theorem dL_law_515 : decode cL_law 515 = .ok (.if_icmp .eq 5, 3) := by decide +kernel
theorem dL_law_518 : decode cL_law 518 = .ok (.iconst 0, 1) := by decide +kernel
theorem dL_law_519 : decode cL_law 519 = .ok (.ireturn, 1) := by decide +kernel
theorem dL_law_520 : decode cL_law 520 = .ok (.iload 5, 2) := by decide +kernel
theorem dL_law_522 : decode cL_law 522 = .ok (.ifCond .ne 15, 3) := by decide +kernel
theorem dL_law_525 : decode cL_law 525 = .ok (.aload_n 3, 1) := by decide +kernel
theorem dL_law_526 : decode cL_law 526 = .ok (.iconst 0, 1) := by decide +kernel
theorem dL_law_527 : decode cL_law 527 = .ok (.laload, 1) := by decide +kernel
theorem dL_law_528 : decode cL_law 528 = .ok (.iload 6, 2) := by decide +kernel
theorem dL_law_530 : decode cL_law 530 = .ok (.i2l, 1) := by decide +kernel
theorem dL_law_531 : decode cL_law 531 = .ok (.lcmp, 1) := by decide +kernel
theorem dL_law_532 : decode cL_law 532 = .ok (.ifCond .eq 5, 3) := by decide +kernel
theorem dL_law_535 : decode cL_law 535 = .ok (.iconst 0, 1) := by decide +kernel
theorem dL_law_536 : decode cL_law 536 = .ok (.ireturn, 1) := by decide +kernel
theorem dL_law_537 : decode cL_law 537 = .ok (.goto 1057, 3) := by decide +kernel
theorem dL_law_540 : decode cL_law 540 = .ok (.aload_n 1, 1) := by decide +kernel
theorem dL_law_541 : decode cL_law 541 = .ok (.aload_n 3, 1) := by decide +kernel
theorem dL_law_542 : decode cL_law 542 = .ok (.invokestatic 108, 3) := by decide +kernel
theorem dL_law_545 : decode cL_law 545 = .ok (.istore 5, 2) := by decide +kernel
theorem dL_law_547 : decode cL_law 547 = .ok (.aload_n 2, 1) := by decide +kernel
theorem dL_law_548 : decode cL_law 548 = .ok (.invokevirtual 111, 3) := by decide +kernel
theorem dL_law_551 : decode cL_law 551 = .ok (.istore 6, 2) := by decide +kernel
theorem dL_law_553 : decode cL_law 553 = .ok (.aload_n 2, 1) := by decide +kernel
theorem dL_law_554 : decode cL_law 554 = .ok (.invokevirtual 90, 3) := by decide +kernel
theorem dL_law_557 : decode cL_law 557 = .ok (.iload 5, 2) := by decide +kernel
theorem dL_law_559 : decode cL_law 559 = .ok (.if_icmp .eq 5, 3) := by decide +kernel
theorem dL_law_562 : decode cL_law 562 = .ok (.iconst 0, 1) := by decide +kernel
theorem dL_law_563 : decode cL_law 563 = .ok (.ireturn, 1) := by decide +kernel
theorem dL_law_564 : decode cL_law 564 = .ok (.iload 5, 2) := by decide +kernel
theorem dL_law_566 : decode cL_law 566 = .ok (.ifCond .ne 15, 3) := by decide +kernel
theorem dL_law_569 : decode cL_law 569 = .ok (.aload_n 3, 1) := by decide +kernel
theorem dL_law_570 : decode cL_law 570 = .ok (.iconst 0, 1) := by decide +kernel
theorem dL_law_571 : decode cL_law 571 = .ok (.laload, 1) := by decide +kernel
theorem dL_law_572 : decode cL_law 572 = .ok (.iload 6, 2) := by decide +kernel
theorem dL_law_574 : decode cL_law 574 = .ok (.i2l, 1) := by decide +kernel
theorem dL_law_575 : decode cL_law 575 = .ok (.lcmp, 1) := by decide +kernel
theorem dL_law_576 : decode cL_law 576 = .ok (.ifCond .eq 5, 3) := by decide +kernel
theorem dL_law_579 : decode cL_law 579 = .ok (.iconst 0, 1) := by decide +kernel
theorem dL_law_580 : decode cL_law 580 = .ok (.ireturn, 1) := by decide +kernel
theorem dL_law_581 : decode cL_law 581 = .ok (.goto 1013, 3) := by decide +kernel
theorem dL_law_584 : decode cL_law 584 = .ok (.aload_n 1, 1) := by decide +kernel
theorem dL_law_585 : decode cL_law 585 = .ok (.aload_n 0, 1) := by decide +kernel
theorem dL_law_586 : decode cL_law 586 = .ok (.iload 4, 2) := by decide +kernel
theorem dL_law_588 : decode cL_law 588 = .ok (.iconst 1, 1) := by decide +kernel
theorem dL_law_589 : decode cL_law 589 = .ok (.iadd, 1) := by decide +kernel
theorem dL_law_590 : decode cL_law 590 = .ok (.iaload, 1) := by decide +kernel
theorem dL_law_591 : decode cL_law 591 = .ok (.aload_n 0, 1) := by decide +kernel
theorem dL_law_592 : decode cL_law 592 = .ok (.iload 4, 2) := by decide +kernel
theorem dL_law_594 : decode cL_law 594 = .ok (.iconst 2, 1) := by decide +kernel
theorem dL_law_595 : decode cL_law 595 = .ok (.iadd, 1) := by decide +kernel
theorem dL_law_596 : decode cL_law 596 = .ok (.iaload, 1) := by decide +kernel
theorem dL_law_597 : decode cL_law 597 = .ok (.aload_n 3, 1) := by decide +kernel
theorem dL_law_598 : decode cL_law 598 = .ok (.invokestatic 112, 3) := by decide +kernel
theorem dL_law_601 : decode cL_law 601 = .ok (.istore 5, 2) := by decide +kernel
theorem dL_law_603 : decode cL_law 603 = .ok (.aload_n 2, 1) := by decide +kernel
theorem dL_law_604 : decode cL_law 604 = .ok (.aload_n 0, 1) := by decide +kernel
theorem dL_law_605 : decode cL_law 605 = .ok (.iload 4, 2) := by decide +kernel
theorem dL_law_607 : decode cL_law 607 = .ok (.iconst 1, 1) := by decide +kernel
theorem dL_law_608 : decode cL_law 608 = .ok (.iadd, 1) := by decide +kernel
theorem dL_law_609 : decode cL_law 609 = .ok (.iaload, 1) := by decide +kernel
theorem dL_law_610 : decode cL_law 610 = .ok (.aload_n 0, 1) := by decide +kernel
theorem dL_law_611 : decode cL_law 611 = .ok (.iload 4, 2) := by decide +kernel
theorem dL_law_613 : decode cL_law 613 = .ok (.iconst 2, 1) := by decide +kernel
theorem dL_law_614 : decode cL_law 614 = .ok (.iadd, 1) := by decide +kernel
theorem dL_law_615 : decode cL_law 615 = .ok (.iaload, 1) := by decide +kernel
theorem dL_law_616 : decode cL_law 616 = .ok (.invokevirtual 114, 3) := by decide +kernel
theorem dL_law_619 : decode cL_law 619 = .ok (.istore 6, 2) := by decide +kernel
theorem dL_law_621 : decode cL_law 621 = .ok (.aload_n 2, 1) := by decide +kernel
theorem dL_law_622 : decode cL_law 622 = .ok (.invokevirtual 90, 3) := by decide +kernel
theorem dL_law_625 : decode cL_law 625 = .ok (.iload 5, 2) := by decide +kernel
theorem dL_law_627 : decode cL_law 627 = .ok (.if_icmp .eq 5, 3) := by decide +kernel
theorem dL_law_630 : decode cL_law 630 = .ok (.iconst 0, 1) := by decide +kernel
theorem dL_law_631 : decode cL_law 631 = .ok (.ireturn, 1) := by decide +kernel
theorem dL_law_632 : decode cL_law 632 = .ok (.iload 5, 2) := by decide +kernel
theorem dL_law_634 : decode cL_law 634 = .ok (.ifCond .ne 15, 3) := by decide +kernel
theorem dL_law_637 : decode cL_law 637 = .ok (.aload_n 3, 1) := by decide +kernel
theorem dL_law_638 : decode cL_law 638 = .ok (.iconst 0, 1) := by decide +kernel
theorem dL_law_639 : decode cL_law 639 = .ok (.laload, 1) := by decide +kernel
theorem dL_law_640 : decode cL_law 640 = .ok (.iload 6, 2) := by decide +kernel
theorem dL_law_642 : decode cL_law 642 = .ok (.i2l, 1) := by decide +kernel
theorem dL_law_643 : decode cL_law 643 = .ok (.lcmp, 1) := by decide +kernel
theorem dL_law_644 : decode cL_law 644 = .ok (.ifCond .eq 5, 3) := by decide +kernel
theorem dL_law_647 : decode cL_law 647 = .ok (.iconst 0, 1) := by decide +kernel
theorem dL_law_648 : decode cL_law 648 = .ok (.ireturn, 1) := by decide +kernel
theorem dL_law_649 : decode cL_law 649 = .ok (.goto 945, 3) := by decide +kernel
theorem dL_law_652 : decode cL_law 652 = .ok (.aload_n 1, 1) := by decide +kernel
theorem dL_law_653 : decode cL_law 653 = .ok (.aload_n 0, 1) := by decide +kernel
theorem dL_law_654 : decode cL_law 654 = .ok (.iload 4, 2) := by decide +kernel
theorem dL_law_656 : decode cL_law 656 = .ok (.iconst 1, 1) := by decide +kernel
theorem dL_law_657 : decode cL_law 657 = .ok (.iadd, 1) := by decide +kernel
theorem dL_law_658 : decode cL_law 658 = .ok (.iaload, 1) := by decide +kernel
theorem dL_law_659 : decode cL_law 659 = .ok (.aload_n 3, 1) := by decide +kernel
theorem dL_law_660 : decode cL_law 660 = .ok (.invokestatic 115, 3) := by decide +kernel
theorem dL_law_663 : decode cL_law 663 = .ok (.istore 5, 2) := by decide +kernel
theorem dL_law_665 : decode cL_law 665 = .ok (.aload_n 2, 1) := by decide +kernel
theorem dL_law_666 : decode cL_law 666 = .ok (.aload_n 0, 1) := by decide +kernel
theorem dL_law_667 : decode cL_law 667 = .ok (.iload 4, 2) := by decide +kernel
theorem dL_law_669 : decode cL_law 669 = .ok (.iconst 1, 1) := by decide +kernel
theorem dL_law_670 : decode cL_law 670 = .ok (.iadd, 1) := by decide +kernel
theorem dL_law_671 : decode cL_law 671 = .ok (.iaload, 1) := by decide +kernel
theorem dL_law_672 : decode cL_law 672 = .ok (.invokevirtual 117, 3) := by decide +kernel
theorem dL_law_675 : decode cL_law 675 = .ok (.istore 6, 2) := by decide +kernel
theorem dL_law_677 : decode cL_law 677 = .ok (.aload_n 2, 1) := by decide +kernel
theorem dL_law_678 : decode cL_law 678 = .ok (.invokevirtual 90, 3) := by decide +kernel
theorem dL_law_681 : decode cL_law 681 = .ok (.iload 5, 2) := by decide +kernel
theorem dL_law_683 : decode cL_law 683 = .ok (.if_icmp .eq 5, 3) := by decide +kernel
theorem dL_law_686 : decode cL_law 686 = .ok (.iconst 0, 1) := by decide +kernel
theorem dL_law_687 : decode cL_law 687 = .ok (.ireturn, 1) := by decide +kernel
theorem dL_law_688 : decode cL_law 688 = .ok (.iload 5, 2) := by decide +kernel
theorem dL_law_690 : decode cL_law 690 = .ok (.ifCond .ne 15, 3) := by decide +kernel
theorem dL_law_693 : decode cL_law 693 = .ok (.aload_n 3, 1) := by decide +kernel
theorem dL_law_694 : decode cL_law 694 = .ok (.iconst 0, 1) := by decide +kernel
theorem dL_law_695 : decode cL_law 695 = .ok (.laload, 1) := by decide +kernel
theorem dL_law_696 : decode cL_law 696 = .ok (.iload 6, 2) := by decide +kernel
theorem dL_law_698 : decode cL_law 698 = .ok (.i2l, 1) := by decide +kernel
theorem dL_law_699 : decode cL_law 699 = .ok (.lcmp, 1) := by decide +kernel
theorem dL_law_700 : decode cL_law 700 = .ok (.ifCond .eq 5, 3) := by decide +kernel
theorem dL_law_703 : decode cL_law 703 = .ok (.iconst 0, 1) := by decide +kernel
theorem dL_law_704 : decode cL_law 704 = .ok (.ireturn, 1) := by decide +kernel
theorem dL_law_705 : decode cL_law 705 = .ok (.goto 889, 3) := by decide +kernel
theorem dL_law_708 : decode cL_law 708 = .ok (.aload_n 1, 1) := by decide +kernel
theorem dL_law_709 : decode cL_law 709 = .ok (.aload_n 0, 1) := by decide +kernel
theorem dL_law_710 : decode cL_law 710 = .ok (.iload 4, 2) := by decide +kernel
theorem dL_law_712 : decode cL_law 712 = .ok (.iconst 1, 1) := by decide +kernel
theorem dL_law_713 : decode cL_law 713 = .ok (.iadd, 1) := by decide +kernel
theorem dL_law_714 : decode cL_law 714 = .ok (.iaload, 1) := by decide +kernel
theorem dL_law_715 : decode cL_law 715 = .ok (.aload_n 0, 1) := by decide +kernel
theorem dL_law_716 : decode cL_law 716 = .ok (.iload 4, 2) := by decide +kernel
theorem dL_law_718 : decode cL_law 718 = .ok (.iconst 2, 1) := by decide +kernel
theorem dL_law_719 : decode cL_law 719 = .ok (.iadd, 1) := by decide +kernel
theorem dL_law_720 : decode cL_law 720 = .ok (.iaload, 1) := by decide +kernel
theorem dL_law_721 : decode cL_law 721 = .ok (.aload_n 3, 1) := by decide +kernel
theorem dL_law_722 : decode cL_law 722 = .ok (.invokestatic 118, 3) := by decide +kernel
theorem dL_law_725 : decode cL_law 725 = .ok (.istore 5, 2) := by decide +kernel
theorem dL_law_727 : decode cL_law 727 = .ok (.aload_n 2, 1) := by decide +kernel
theorem dL_law_728 : decode cL_law 728 = .ok (.aload_n 0, 1) := by decide +kernel
theorem dL_law_729 : decode cL_law 729 = .ok (.iload 4, 2) := by decide +kernel
theorem dL_law_731 : decode cL_law 731 = .ok (.iconst 1, 1) := by decide +kernel
theorem dL_law_732 : decode cL_law 732 = .ok (.iadd, 1) := by decide +kernel
theorem dL_law_733 : decode cL_law 733 = .ok (.iaload, 1) := by decide +kernel
theorem dL_law_734 : decode cL_law 734 = .ok (.aload_n 0, 1) := by decide +kernel
theorem dL_law_735 : decode cL_law 735 = .ok (.iload 4, 2) := by decide +kernel
theorem dL_law_737 : decode cL_law 737 = .ok (.iconst 2, 1) := by decide +kernel
theorem dL_law_738 : decode cL_law 738 = .ok (.iadd, 1) := by decide +kernel
theorem dL_law_739 : decode cL_law 739 = .ok (.iaload, 1) := by decide +kernel
theorem dL_law_740 : decode cL_law 740 = .ok (.invokevirtual 120, 3) := by decide +kernel
theorem dL_law_743 : decode cL_law 743 = .ok (.istore 6, 2) := by decide +kernel
theorem dL_law_745 : decode cL_law 745 = .ok (.aload_n 2, 1) := by decide +kernel
theorem dL_law_746 : decode cL_law 746 = .ok (.invokevirtual 90, 3) := by decide +kernel
theorem dL_law_749 : decode cL_law 749 = .ok (.iload 5, 2) := by decide +kernel
theorem dL_law_751 : decode cL_law 751 = .ok (.if_icmp .eq 5, 3) := by decide +kernel
theorem dL_law_754 : decode cL_law 754 = .ok (.iconst 0, 1) := by decide +kernel
theorem dL_law_755 : decode cL_law 755 = .ok (.ireturn, 1) := by decide +kernel
theorem dL_law_756 : decode cL_law 756 = .ok (.iload 5, 2) := by decide +kernel
theorem dL_law_758 : decode cL_law 758 = .ok (.ifCond .ne 15, 3) := by decide +kernel
theorem dL_law_761 : decode cL_law 761 = .ok (.aload_n 3, 1) := by decide +kernel
theorem dL_law_762 : decode cL_law 762 = .ok (.iconst 0, 1) := by decide +kernel
theorem dL_law_763 : decode cL_law 763 = .ok (.laload, 1) := by decide +kernel
theorem dL_law_764 : decode cL_law 764 = .ok (.iload 6, 2) := by decide +kernel
theorem dL_law_766 : decode cL_law 766 = .ok (.i2l, 1) := by decide +kernel
theorem dL_law_767 : decode cL_law 767 = .ok (.lcmp, 1) := by decide +kernel
theorem dL_law_768 : decode cL_law 768 = .ok (.ifCond .eq 5, 3) := by decide +kernel
theorem dL_law_771 : decode cL_law 771 = .ok (.iconst 0, 1) := by decide +kernel
theorem dL_law_772 : decode cL_law 772 = .ok (.ireturn, 1) := by decide +kernel
theorem dL_law_773 : decode cL_law 773 = .ok (.goto 821, 3) := by decide +kernel
theorem dL_law_776 : decode cL_law 776 = .ok (.aload_n 1, 1) := by decide +kernel
theorem dL_law_777 : decode cL_law 777 = .ok (.aload_n 0, 1) := by decide +kernel
theorem dL_law_778 : decode cL_law 778 = .ok (.iload 4, 2) := by decide +kernel
theorem dL_law_780 : decode cL_law 780 = .ok (.iconst 1, 1) := by decide +kernel
theorem dL_law_781 : decode cL_law 781 = .ok (.iadd, 1) := by decide +kernel
theorem dL_law_782 : decode cL_law 782 = .ok (.iaload, 1) := by decide +kernel
theorem dL_law_783 : decode cL_law 783 = .ok (.aload_n 0, 1) := by decide +kernel
theorem dL_law_784 : decode cL_law 784 = .ok (.iload 4, 2) := by decide +kernel
theorem dL_law_786 : decode cL_law 786 = .ok (.iconst 2, 1) := by decide +kernel
theorem dL_law_787 : decode cL_law 787 = .ok (.iadd, 1) := by decide +kernel
theorem dL_law_788 : decode cL_law 788 = .ok (.iaload, 1) := by decide +kernel
theorem dL_law_789 : decode cL_law 789 = .ok (.aload_n 3, 1) := by decide +kernel
theorem dL_law_790 : decode cL_law 790 = .ok (.invokestatic 121, 3) := by decide +kernel
theorem dL_law_793 : decode cL_law 793 = .ok (.istore 5, 2) := by decide +kernel
theorem dL_law_795 : decode cL_law 795 = .ok (.aload_n 2, 1) := by decide +kernel
theorem dL_law_796 : decode cL_law 796 = .ok (.aload_n 0, 1) := by decide +kernel
theorem dL_law_797 : decode cL_law 797 = .ok (.iload 4, 2) := by decide +kernel
theorem dL_law_799 : decode cL_law 799 = .ok (.iconst 1, 1) := by decide +kernel
theorem dL_law_800 : decode cL_law 800 = .ok (.iadd, 1) := by decide +kernel
theorem dL_law_801 : decode cL_law 801 = .ok (.iaload, 1) := by decide +kernel
theorem dL_law_802 : decode cL_law 802 = .ok (.aload_n 0, 1) := by decide +kernel
theorem dL_law_803 : decode cL_law 803 = .ok (.iload 4, 2) := by decide +kernel
theorem dL_law_805 : decode cL_law 805 = .ok (.iconst 2, 1) := by decide +kernel
theorem dL_law_806 : decode cL_law 806 = .ok (.iadd, 1) := by decide +kernel
theorem dL_law_807 : decode cL_law 807 = .ok (.iaload, 1) := by decide +kernel
theorem dL_law_808 : decode cL_law 808 = .ok (.invokevirtual 123, 3) := by decide +kernel
theorem dL_law_811 : decode cL_law 811 = .ok (.istore 6, 2) := by decide +kernel
theorem dL_law_813 : decode cL_law 813 = .ok (.aload_n 2, 1) := by decide +kernel
theorem dL_law_814 : decode cL_law 814 = .ok (.invokevirtual 90, 3) := by decide +kernel
theorem dL_law_817 : decode cL_law 817 = .ok (.iload 5, 2) := by decide +kernel
theorem dL_law_819 : decode cL_law 819 = .ok (.if_icmp .eq 5, 3) := by decide +kernel
theorem dL_law_822 : decode cL_law 822 = .ok (.iconst 0, 1) := by decide +kernel
theorem dL_law_823 : decode cL_law 823 = .ok (.ireturn, 1) := by decide +kernel
theorem dL_law_824 : decode cL_law 824 = .ok (.iload 5, 2) := by decide +kernel
theorem dL_law_826 : decode cL_law 826 = .ok (.ifCond .ne 15, 3) := by decide +kernel
theorem dL_law_829 : decode cL_law 829 = .ok (.aload_n 3, 1) := by decide +kernel
theorem dL_law_830 : decode cL_law 830 = .ok (.iconst 0, 1) := by decide +kernel
theorem dL_law_831 : decode cL_law 831 = .ok (.laload, 1) := by decide +kernel
theorem dL_law_832 : decode cL_law 832 = .ok (.iload 6, 2) := by decide +kernel
theorem dL_law_834 : decode cL_law 834 = .ok (.i2l, 1) := by decide +kernel
theorem dL_law_835 : decode cL_law 835 = .ok (.lcmp, 1) := by decide +kernel
theorem dL_law_836 : decode cL_law 836 = .ok (.ifCond .eq 5, 3) := by decide +kernel
theorem dL_law_839 : decode cL_law 839 = .ok (.iconst 0, 1) := by decide +kernel
theorem dL_law_840 : decode cL_law 840 = .ok (.ireturn, 1) := by decide +kernel
theorem dL_law_841 : decode cL_law 841 = .ok (.goto 753, 3) := by decide +kernel
theorem dL_law_844 : decode cL_law 844 = .ok (.aload_n 1, 1) := by decide +kernel
theorem dL_law_845 : decode cL_law 845 = .ok (.aload_n 0, 1) := by decide +kernel
theorem dL_law_846 : decode cL_law 846 = .ok (.iload 4, 2) := by decide +kernel
theorem dL_law_848 : decode cL_law 848 = .ok (.iconst 1, 1) := by decide +kernel
theorem dL_law_849 : decode cL_law 849 = .ok (.iadd, 1) := by decide +kernel
theorem dL_law_850 : decode cL_law 850 = .ok (.iaload, 1) := by decide +kernel
theorem dL_law_851 : decode cL_law 851 = .ok (.aload_n 3, 1) := by decide +kernel
theorem dL_law_852 : decode cL_law 852 = .ok (.invokestatic 124, 3) := by decide +kernel
theorem dL_law_855 : decode cL_law 855 = .ok (.istore 5, 2) := by decide +kernel
theorem dL_law_857 : decode cL_law 857 = .ok (.aload_n 2, 1) := by decide +kernel
theorem dL_law_858 : decode cL_law 858 = .ok (.aload_n 0, 1) := by decide +kernel
theorem dL_law_859 : decode cL_law 859 = .ok (.iload 4, 2) := by decide +kernel
theorem dL_law_861 : decode cL_law 861 = .ok (.iconst 1, 1) := by decide +kernel
theorem dL_law_862 : decode cL_law 862 = .ok (.iadd, 1) := by decide +kernel
theorem dL_law_863 : decode cL_law 863 = .ok (.iaload, 1) := by decide +kernel
theorem dL_law_864 : decode cL_law 864 = .ok (.invokevirtual 126, 3) := by decide +kernel
theorem dL_law_867 : decode cL_law 867 = .ok (.istore 6, 2) := by decide +kernel
theorem dL_law_869 : decode cL_law 869 = .ok (.aload_n 2, 1) := by decide +kernel
theorem dL_law_870 : decode cL_law 870 = .ok (.invokevirtual 90, 3) := by decide +kernel
theorem dL_law_873 : decode cL_law 873 = .ok (.iload 5, 2) := by decide +kernel
theorem dL_law_875 : decode cL_law 875 = .ok (.if_icmp .eq 5, 3) := by decide +kernel
theorem dL_law_878 : decode cL_law 878 = .ok (.iconst 0, 1) := by decide +kernel
theorem dL_law_879 : decode cL_law 879 = .ok (.ireturn, 1) := by decide +kernel
theorem dL_law_880 : decode cL_law 880 = .ok (.iload 5, 2) := by decide +kernel
theorem dL_law_882 : decode cL_law 882 = .ok (.ifCond .ne 15, 3) := by decide +kernel
theorem dL_law_885 : decode cL_law 885 = .ok (.aload_n 3, 1) := by decide +kernel
theorem dL_law_886 : decode cL_law 886 = .ok (.iconst 0, 1) := by decide +kernel
theorem dL_law_887 : decode cL_law 887 = .ok (.laload, 1) := by decide +kernel
theorem dL_law_888 : decode cL_law 888 = .ok (.iload 6, 2) := by decide +kernel
theorem dL_law_890 : decode cL_law 890 = .ok (.i2l, 1) := by decide +kernel
theorem dL_law_891 : decode cL_law 891 = .ok (.lcmp, 1) := by decide +kernel
theorem dL_law_892 : decode cL_law 892 = .ok (.ifCond .eq 5, 3) := by decide +kernel
theorem dL_law_895 : decode cL_law 895 = .ok (.iconst 0, 1) := by decide +kernel
theorem dL_law_896 : decode cL_law 896 = .ok (.ireturn, 1) := by decide +kernel
theorem dL_law_897 : decode cL_law 897 = .ok (.goto 697, 3) := by decide +kernel
theorem dL_law_900 : decode cL_law 900 = .ok (.aload_n 1, 1) := by decide +kernel
theorem dL_law_901 : decode cL_law 901 = .ok (.invokevirtual 127, 3) := by decide +kernel
theorem dL_law_904 : decode cL_law 904 = .ok (.aload_n 2, 1) := by decide +kernel
theorem dL_law_905 : decode cL_law 905 = .ok (.invokevirtual 130, 3) := by decide +kernel
theorem dL_law_908 : decode cL_law 908 = .ok (.if_icmp .eq 686, 3) := by decide +kernel
theorem dL_law_911 : decode cL_law 911 = .ok (.iconst 0, 1) := by decide +kernel
theorem dL_law_912 : decode cL_law 912 = .ok (.ireturn, 1) := by decide +kernel
theorem dL_law_913 : decode cL_law 913 = .ok (.aload_n 1, 1) := by decide +kernel
theorem dL_law_914 : decode cL_law 914 = .ok (.aload_n 0, 1) := by decide +kernel
theorem dL_law_915 : decode cL_law 915 = .ok (.iload 4, 2) := by decide +kernel
theorem dL_law_917 : decode cL_law 917 = .ok (.iconst 1, 1) := by decide +kernel
theorem dL_law_918 : decode cL_law 918 = .ok (.iadd, 1) := by decide +kernel
theorem dL_law_919 : decode cL_law 919 = .ok (.iaload, 1) := by decide +kernel
theorem dL_law_920 : decode cL_law 920 = .ok (.aload_n 0, 1) := by decide +kernel
theorem dL_law_921 : decode cL_law 921 = .ok (.iload 4, 2) := by decide +kernel
theorem dL_law_923 : decode cL_law 923 = .ok (.iconst 2, 1) := by decide +kernel
theorem dL_law_924 : decode cL_law 924 = .ok (.iadd, 1) := by decide +kernel
theorem dL_law_925 : decode cL_law 925 = .ok (.iaload, 1) := by decide +kernel
theorem dL_law_926 : decode cL_law 926 = .ok (.aload_n 0, 1) := by decide +kernel
theorem dL_law_927 : decode cL_law 927 = .ok (.iload 4, 2) := by decide +kernel
theorem dL_law_929 : decode cL_law 929 = .ok (.iconst 3, 1) := by decide +kernel
theorem dL_law_930 : decode cL_law 930 = .ok (.iadd, 1) := by decide +kernel
theorem dL_law_931 : decode cL_law 931 = .ok (.iaload, 1) := by decide +kernel
theorem dL_law_932 : decode cL_law 932 = .ok (.aload_n 3, 1) := by decide +kernel
theorem dL_law_933 : decode cL_law 933 = .ok (.invokestatic 131, 3) := by decide +kernel
theorem dL_law_936 : decode cL_law 936 = .ok (.istore 5, 2) := by decide +kernel
theorem dL_law_938 : decode cL_law 938 = .ok (.aload_n 2, 1) := by decide +kernel
theorem dL_law_939 : decode cL_law 939 = .ok (.aload_n 0, 1) := by decide +kernel
theorem dL_law_940 : decode cL_law 940 = .ok (.iload 4, 2) := by decide +kernel
theorem dL_law_942 : decode cL_law 942 = .ok (.iconst 1, 1) := by decide +kernel
theorem dL_law_943 : decode cL_law 943 = .ok (.iadd, 1) := by decide +kernel
theorem dL_law_944 : decode cL_law 944 = .ok (.iaload, 1) := by decide +kernel
theorem dL_law_945 : decode cL_law 945 = .ok (.aload_n 0, 1) := by decide +kernel
theorem dL_law_946 : decode cL_law 946 = .ok (.iload 4, 2) := by decide +kernel
theorem dL_law_948 : decode cL_law 948 = .ok (.iconst 2, 1) := by decide +kernel
theorem dL_law_949 : decode cL_law 949 = .ok (.iadd, 1) := by decide +kernel
theorem dL_law_950 : decode cL_law 950 = .ok (.iaload, 1) := by decide +kernel
theorem dL_law_951 : decode cL_law 951 = .ok (.aload_n 0, 1) := by decide +kernel
theorem dL_law_952 : decode cL_law 952 = .ok (.iload 4, 2) := by decide +kernel
theorem dL_law_954 : decode cL_law 954 = .ok (.iconst 3, 1) := by decide +kernel
theorem dL_law_955 : decode cL_law 955 = .ok (.iadd, 1) := by decide +kernel
theorem dL_law_956 : decode cL_law 956 = .ok (.iaload, 1) := by decide +kernel
theorem dL_law_957 : decode cL_law 957 = .ok (.invokevirtual 133, 3) := by decide +kernel
theorem dL_law_960 : decode cL_law 960 = .ok (.istore 6, 2) := by decide +kernel
theorem dL_law_962 : decode cL_law 962 = .ok (.aload_n 2, 1) := by decide +kernel
theorem dL_law_963 : decode cL_law 963 = .ok (.invokevirtual 90, 3) := by decide +kernel
theorem dL_law_966 : decode cL_law 966 = .ok (.iload 5, 2) := by decide +kernel
theorem dL_law_968 : decode cL_law 968 = .ok (.if_icmp .eq 5, 3) := by decide +kernel
theorem dL_law_971 : decode cL_law 971 = .ok (.iconst 0, 1) := by decide +kernel
theorem dL_law_972 : decode cL_law 972 = .ok (.ireturn, 1) := by decide +kernel
theorem dL_law_973 : decode cL_law 973 = .ok (.iload 5, 2) := by decide +kernel
theorem dL_law_975 : decode cL_law 975 = .ok (.ifCond .ne 15, 3) := by decide +kernel
theorem dL_law_978 : decode cL_law 978 = .ok (.aload_n 3, 1) := by decide +kernel
theorem dL_law_979 : decode cL_law 979 = .ok (.iconst 0, 1) := by decide +kernel
theorem dL_law_980 : decode cL_law 980 = .ok (.laload, 1) := by decide +kernel
theorem dL_law_981 : decode cL_law 981 = .ok (.iload 6, 2) := by decide +kernel
theorem dL_law_983 : decode cL_law 983 = .ok (.i2l, 1) := by decide +kernel
theorem dL_law_984 : decode cL_law 984 = .ok (.lcmp, 1) := by decide +kernel
theorem dL_law_985 : decode cL_law 985 = .ok (.ifCond .eq 5, 3) := by decide +kernel
theorem dL_law_988 : decode cL_law 988 = .ok (.iconst 0, 1) := by decide +kernel
theorem dL_law_989 : decode cL_law 989 = .ok (.ireturn, 1) := by decide +kernel
theorem dL_law_990 : decode cL_law 990 = .ok (.goto 604, 3) := by decide +kernel
theorem dL_law_993 : decode cL_law 993 = .ok (.aload_n 1, 1) := by decide +kernel
theorem dL_law_994 : decode cL_law 994 = .ok (.invokevirtual 134, 3) := by decide +kernel
theorem dL_law_997 : decode cL_law 997 = .ok (.aload_n 2, 1) := by decide +kernel
theorem dL_law_998 : decode cL_law 998 = .ok (.invokevirtual 137, 3) := by decide +kernel
theorem dL_law_1001 : decode cL_law 1001 = .ok (.if_icmp .eq 593, 3) := by decide +kernel
theorem dL_law_1004 : decode cL_law 1004 = .ok (.iconst 0, 1) := by decide +kernel
theorem dL_law_1005 : decode cL_law 1005 = .ok (.ireturn, 1) := by decide +kernel
theorem dL_law_1006 : decode cL_law 1006 = .ok (.aload_n 1, 1) := by decide +kernel
theorem dL_law_1007 : decode cL_law 1007 = .ok (.invokevirtual 138, 3) := by decide +kernel
theorem dL_law_1010 : decode cL_law 1010 = .ok (.aload_n 2, 1) := by decide +kernel
theorem dL_law_1011 : decode cL_law 1011 = .ok (.invokevirtual 141, 3) := by decide +kernel
theorem dL_law_1014 : decode cL_law 1014 = .ok (.if_icmp .eq 580, 3) := by decide +kernel
theorem dL_law_1017 : decode cL_law 1017 = .ok (.iconst 0, 1) := by decide +kernel
theorem dL_law_1018 : decode cL_law 1018 = .ok (.ireturn, 1) := by decide +kernel
theorem dL_law_1019 : decode cL_law 1019 = .ok (.aload_n 1, 1) := by decide +kernel
theorem dL_law_1020 : decode cL_law 1020 = .ok (.invokevirtual 142, 3) := by decide +kernel
theorem dL_law_1023 : decode cL_law 1023 = .ok (.dstore 5, 2) := by decide +kernel
theorem dL_law_1025 : decode cL_law 1025 = .ok (.aload_n 2, 1) := by decide +kernel
theorem dL_law_1026 : decode cL_law 1026 = .ok (.invokevirtual 146, 3) := by decide +kernel
theorem dL_law_1029 : decode cL_law 1029 = .ok (.dstore 7, 2) := by decide +kernel
theorem dL_law_1031 : decode cL_law 1031 = .ok (.dload 5, 2) := by decide +kernel
theorem dL_law_1033 : decode cL_law 1033 = .ok (.dload 7, 2) := by decide +kernel
theorem dL_law_1035 : decode cL_law 1035 = .ok (.dcmp .l, 1) := by decide +kernel
theorem dL_law_1036 : decode cL_law 1036 = .ok (.ifCond .eq 21, 3) := by decide +kernel
theorem dL_law_1039 : decode cL_law 1039 = .ok (.dload 5, 2) := by decide +kernel
theorem dL_law_1041 : decode cL_law 1041 = .ok (.dload 5, 2) := by decide +kernel
theorem dL_law_1043 : decode cL_law 1043 = .ok (.dcmp .l, 1) := by decide +kernel
theorem dL_law_1044 : decode cL_law 1044 = .ok (.ifCond .eq 11, 3) := by decide +kernel
theorem dL_law_1047 : decode cL_law 1047 = .ok (.dload 7, 2) := by decide +kernel
theorem dL_law_1049 : decode cL_law 1049 = .ok (.dload 7, 2) := by decide +kernel
theorem dL_law_1051 : decode cL_law 1051 = .ok (.dcmp .l, 1) := by decide +kernel
theorem dL_law_1052 : decode cL_law 1052 = .ok (.ifCond .ne 5, 3) := by decide +kernel
theorem dL_law_1055 : decode cL_law 1055 = .ok (.iconst 0, 1) := by decide +kernel
theorem dL_law_1056 : decode cL_law 1056 = .ok (.ireturn, 1) := by decide +kernel
theorem dL_law_1057 : decode cL_law 1057 = .ok (.goto 537, 3) := by decide +kernel
theorem dL_law_1060 : decode cL_law 1060 = .ok (.aload_n 1, 1) := by decide +kernel
theorem dL_law_1061 : decode cL_law 1061 = .ok (.aload_n 3, 1) := by decide +kernel
theorem dL_law_1062 : decode cL_law 1062 = .ok (.invokestatic 147, 3) := by decide +kernel
theorem dL_law_1065 : decode cL_law 1065 = .ok (.istore 5, 2) := by decide +kernel
theorem dL_law_1067 : decode cL_law 1067 = .ok (.aload_n 2, 1) := by decide +kernel
theorem dL_law_1068 : decode cL_law 1068 = .ok (.invokevirtual 149, 3) := by decide +kernel
theorem dL_law_1071 : decode cL_law 1071 = .ok (.istore 6, 2) := by decide +kernel
theorem dL_law_1073 : decode cL_law 1073 = .ok (.aload_n 2, 1) := by decide +kernel
theorem dL_law_1074 : decode cL_law 1074 = .ok (.invokevirtual 90, 3) := by decide +kernel
theorem dL_law_1077 : decode cL_law 1077 = .ok (.iload 5, 2) := by decide +kernel
theorem dL_law_1079 : decode cL_law 1079 = .ok (.if_icmp .eq 5, 3) := by decide +kernel
theorem dL_law_1082 : decode cL_law 1082 = .ok (.iconst 0, 1) := by decide +kernel
theorem dL_law_1083 : decode cL_law 1083 = .ok (.ireturn, 1) := by decide +kernel
theorem dL_law_1084 : decode cL_law 1084 = .ok (.iload 5, 2) := by decide +kernel
theorem dL_law_1086 : decode cL_law 1086 = .ok (.ifCond .ne 15, 3) := by decide +kernel
theorem dL_law_1089 : decode cL_law 1089 = .ok (.aload_n 3, 1) := by decide +kernel
theorem dL_law_1090 : decode cL_law 1090 = .ok (.iconst 0, 1) := by decide +kernel
theorem dL_law_1091 : decode cL_law 1091 = .ok (.laload, 1) := by decide +kernel
theorem dL_law_1092 : decode cL_law 1092 = .ok (.iload 6, 2) := by decide +kernel
theorem dL_law_1094 : decode cL_law 1094 = .ok (.i2l, 1) := by decide +kernel
theorem dL_law_1095 : decode cL_law 1095 = .ok (.lcmp, 1) := by decide +kernel
theorem dL_law_1096 : decode cL_law 1096 = .ok (.ifCond .eq 5, 3) := by decide +kernel
theorem dL_law_1099 : decode cL_law 1099 = .ok (.iconst 0, 1) := by decide +kernel
theorem dL_law_1100 : decode cL_law 1100 = .ok (.ireturn, 1) := by decide +kernel
theorem dL_law_1101 : decode cL_law 1101 = .ok (.goto 493, 3) := by decide +kernel
theorem dL_law_1104 : decode cL_law 1104 = .ok (.aload_n 1, 1) := by decide +kernel
theorem dL_law_1105 : decode cL_law 1105 = .ok (.aload_n 0, 1) := by decide +kernel
theorem dL_law_1106 : decode cL_law 1106 = .ok (.iload 4, 2) := by decide +kernel
theorem dL_law_1108 : decode cL_law 1108 = .ok (.iconst 1, 1) := by decide +kernel
theorem dL_law_1109 : decode cL_law 1109 = .ok (.iadd, 1) := by decide +kernel
theorem dL_law_1110 : decode cL_law 1110 = .ok (.iaload, 1) := by decide +kernel
theorem dL_law_1111 : decode cL_law 1111 = .ok (.aload_n 0, 1) := by decide +kernel
theorem dL_law_1112 : decode cL_law 1112 = .ok (.iload 4, 2) := by decide +kernel
theorem dL_law_1114 : decode cL_law 1114 = .ok (.iconst 2, 1) := by decide +kernel
theorem dL_law_1115 : decode cL_law 1115 = .ok (.iadd, 1) := by decide +kernel
theorem dL_law_1116 : decode cL_law 1116 = .ok (.iaload, 1) := by decide +kernel
theorem dL_law_1117 : decode cL_law 1117 = .ok (.aload_n 0, 1) := by decide +kernel
theorem dL_law_1118 : decode cL_law 1118 = .ok (.iload 4, 2) := by decide +kernel
theorem dL_law_1120 : decode cL_law 1120 = .ok (.iconst 3, 1) := by decide +kernel
theorem dL_law_1121 : decode cL_law 1121 = .ok (.iadd, 1) := by decide +kernel
theorem dL_law_1122 : decode cL_law 1122 = .ok (.iaload, 1) := by decide +kernel
theorem dL_law_1123 : decode cL_law 1123 = .ok (.aload_n 3, 1) := by decide +kernel
theorem dL_law_1124 : decode cL_law 1124 = .ok (.invokestatic 150, 3) := by decide +kernel
theorem dL_law_1127 : decode cL_law 1127 = .ok (.istore 5, 2) := by decide +kernel
theorem dL_law_1129 : decode cL_law 1129 = .ok (.aload_n 2, 1) := by decide +kernel
theorem dL_law_1130 : decode cL_law 1130 = .ok (.aload_n 0, 1) := by decide +kernel
theorem dL_law_1131 : decode cL_law 1131 = .ok (.iload 4, 2) := by decide +kernel
theorem dL_law_1133 : decode cL_law 1133 = .ok (.iconst 1, 1) := by decide +kernel
theorem dL_law_1134 : decode cL_law 1134 = .ok (.iadd, 1) := by decide +kernel
theorem dL_law_1135 : decode cL_law 1135 = .ok (.iaload, 1) := by decide +kernel
theorem dL_law_1136 : decode cL_law 1136 = .ok (.aload_n 0, 1) := by decide +kernel
theorem dL_law_1137 : decode cL_law 1137 = .ok (.iload 4, 2) := by decide +kernel
theorem dL_law_1139 : decode cL_law 1139 = .ok (.iconst 2, 1) := by decide +kernel
theorem dL_law_1140 : decode cL_law 1140 = .ok (.iadd, 1) := by decide +kernel
theorem dL_law_1141 : decode cL_law 1141 = .ok (.iaload, 1) := by decide +kernel
theorem dL_law_1142 : decode cL_law 1142 = .ok (.aload_n 0, 1) := by decide +kernel
theorem dL_law_1143 : decode cL_law 1143 = .ok (.iload 4, 2) := by decide +kernel
theorem dL_law_1145 : decode cL_law 1145 = .ok (.iconst 3, 1) := by decide +kernel
theorem dL_law_1146 : decode cL_law 1146 = .ok (.iadd, 1) := by decide +kernel
theorem dL_law_1147 : decode cL_law 1147 = .ok (.iaload, 1) := by decide +kernel
theorem dL_law_1148 : decode cL_law 1148 = .ok (.invokevirtual 152, 3) := by decide +kernel
theorem dL_law_1151 : decode cL_law 1151 = .ok (.istore 6, 2) := by decide +kernel
theorem dL_law_1153 : decode cL_law 1153 = .ok (.aload_n 2, 1) := by decide +kernel
theorem dL_law_1154 : decode cL_law 1154 = .ok (.invokevirtual 90, 3) := by decide +kernel
theorem dL_law_1157 : decode cL_law 1157 = .ok (.iload 5, 2) := by decide +kernel
theorem dL_law_1159 : decode cL_law 1159 = .ok (.if_icmp .eq 5, 3) := by decide +kernel
theorem dL_law_1162 : decode cL_law 1162 = .ok (.iconst 0, 1) := by decide +kernel
theorem dL_law_1163 : decode cL_law 1163 = .ok (.ireturn, 1) := by decide +kernel
theorem dL_law_1164 : decode cL_law 1164 = .ok (.iload 5, 2) := by decide +kernel
theorem dL_law_1166 : decode cL_law 1166 = .ok (.ifCond .ne 15, 3) := by decide +kernel
theorem dL_law_1169 : decode cL_law 1169 = .ok (.aload_n 3, 1) := by decide +kernel
theorem dL_law_1170 : decode cL_law 1170 = .ok (.iconst 0, 1) := by decide +kernel
theorem dL_law_1171 : decode cL_law 1171 = .ok (.laload, 1) := by decide +kernel
theorem dL_law_1172 : decode cL_law 1172 = .ok (.iload 6, 2) := by decide +kernel
theorem dL_law_1174 : decode cL_law 1174 = .ok (.i2l, 1) := by decide +kernel
theorem dL_law_1175 : decode cL_law 1175 = .ok (.lcmp, 1) := by decide +kernel
theorem dL_law_1176 : decode cL_law 1176 = .ok (.ifCond .eq 5, 3) := by decide +kernel
theorem dL_law_1179 : decode cL_law 1179 = .ok (.iconst 0, 1) := by decide +kernel
theorem dL_law_1180 : decode cL_law 1180 = .ok (.ireturn, 1) := by decide +kernel
theorem dL_law_1181 : decode cL_law 1181 = .ok (.goto 413, 3) := by decide +kernel
theorem dL_law_1184 : decode cL_law 1184 = .ok (.aload_n 1, 1) := by decide +kernel
theorem dL_law_1185 : decode cL_law 1185 = .ok (.aload_n 0, 1) := by decide +kernel
theorem dL_law_1186 : decode cL_law 1186 = .ok (.iload 4, 2) := by decide +kernel
theorem dL_law_1188 : decode cL_law 1188 = .ok (.iconst 1, 1) := by decide +kernel
theorem dL_law_1189 : decode cL_law 1189 = .ok (.iadd, 1) := by decide +kernel
theorem dL_law_1190 : decode cL_law 1190 = .ok (.iaload, 1) := by decide +kernel
theorem dL_law_1191 : decode cL_law 1191 = .ok (.aload_n 0, 1) := by decide +kernel
theorem dL_law_1192 : decode cL_law 1192 = .ok (.iload 4, 2) := by decide +kernel
theorem dL_law_1194 : decode cL_law 1194 = .ok (.iconst 2, 1) := by decide +kernel
theorem dL_law_1195 : decode cL_law 1195 = .ok (.iadd, 1) := by decide +kernel
theorem dL_law_1196 : decode cL_law 1196 = .ok (.iaload, 1) := by decide +kernel
theorem dL_law_1197 : decode cL_law 1197 = .ok (.aload_n 0, 1) := by decide +kernel
theorem dL_law_1198 : decode cL_law 1198 = .ok (.iload 4, 2) := by decide +kernel
theorem dL_law_1200 : decode cL_law 1200 = .ok (.iconst 3, 1) := by decide +kernel
theorem dL_law_1201 : decode cL_law 1201 = .ok (.iadd, 1) := by decide +kernel
theorem dL_law_1202 : decode cL_law 1202 = .ok (.iaload, 1) := by decide +kernel
theorem dL_law_1203 : decode cL_law 1203 = .ok (.aload_n 3, 1) := by decide +kernel
theorem dL_law_1204 : decode cL_law 1204 = .ok (.invokestatic 153, 3) := by decide +kernel
theorem dL_law_1207 : decode cL_law 1207 = .ok (.istore 5, 2) := by decide +kernel
theorem dL_law_1209 : decode cL_law 1209 = .ok (.aload_n 2, 1) := by decide +kernel
theorem dL_law_1210 : decode cL_law 1210 = .ok (.aload_n 0, 1) := by decide +kernel
theorem dL_law_1211 : decode cL_law 1211 = .ok (.iload 4, 2) := by decide +kernel
theorem dL_law_1213 : decode cL_law 1213 = .ok (.iconst 1, 1) := by decide +kernel
theorem dL_law_1214 : decode cL_law 1214 = .ok (.iadd, 1) := by decide +kernel
theorem dL_law_1215 : decode cL_law 1215 = .ok (.iaload, 1) := by decide +kernel
theorem dL_law_1216 : decode cL_law 1216 = .ok (.aload_n 0, 1) := by decide +kernel
theorem dL_law_1217 : decode cL_law 1217 = .ok (.iload 4, 2) := by decide +kernel
theorem dL_law_1219 : decode cL_law 1219 = .ok (.iconst 2, 1) := by decide +kernel
theorem dL_law_1220 : decode cL_law 1220 = .ok (.iadd, 1) := by decide +kernel
theorem dL_law_1221 : decode cL_law 1221 = .ok (.iaload, 1) := by decide +kernel
theorem dL_law_1222 : decode cL_law 1222 = .ok (.aload_n 0, 1) := by decide +kernel
theorem dL_law_1223 : decode cL_law 1223 = .ok (.iload 4, 2) := by decide +kernel
theorem dL_law_1225 : decode cL_law 1225 = .ok (.iconst 3, 1) := by decide +kernel
theorem dL_law_1226 : decode cL_law 1226 = .ok (.iadd, 1) := by decide +kernel
theorem dL_law_1227 : decode cL_law 1227 = .ok (.iaload, 1) := by decide +kernel
theorem dL_law_1228 : decode cL_law 1228 = .ok (.invokevirtual 155, 3) := by decide +kernel
theorem dL_law_1231 : decode cL_law 1231 = .ok (.istore 6, 2) := by decide +kernel
theorem dL_law_1233 : decode cL_law 1233 = .ok (.aload_n 2, 1) := by decide +kernel
theorem dL_law_1234 : decode cL_law 1234 = .ok (.invokevirtual 90, 3) := by decide +kernel
theorem dL_law_1237 : decode cL_law 1237 = .ok (.iload 5, 2) := by decide +kernel
theorem dL_law_1239 : decode cL_law 1239 = .ok (.if_icmp .eq 5, 3) := by decide +kernel
theorem dL_law_1242 : decode cL_law 1242 = .ok (.iconst 0, 1) := by decide +kernel
theorem dL_law_1243 : decode cL_law 1243 = .ok (.ireturn, 1) := by decide +kernel
theorem dL_law_1244 : decode cL_law 1244 = .ok (.iload 5, 2) := by decide +kernel
theorem dL_law_1246 : decode cL_law 1246 = .ok (.ifCond .ne 15, 3) := by decide +kernel
theorem dL_law_1249 : decode cL_law 1249 = .ok (.aload_n 3, 1) := by decide +kernel
theorem dL_law_1250 : decode cL_law 1250 = .ok (.iconst 0, 1) := by decide +kernel
theorem dL_law_1251 : decode cL_law 1251 = .ok (.laload, 1) := by decide +kernel
theorem dL_law_1252 : decode cL_law 1252 = .ok (.iload 6, 2) := by decide +kernel
theorem dL_law_1254 : decode cL_law 1254 = .ok (.i2l, 1) := by decide +kernel
theorem dL_law_1255 : decode cL_law 1255 = .ok (.lcmp, 1) := by decide +kernel
theorem dL_law_1256 : decode cL_law 1256 = .ok (.ifCond .eq 5, 3) := by decide +kernel
theorem dL_law_1259 : decode cL_law 1259 = .ok (.iconst 0, 1) := by decide +kernel
theorem dL_law_1260 : decode cL_law 1260 = .ok (.ireturn, 1) := by decide +kernel
theorem dL_law_1261 : decode cL_law 1261 = .ok (.goto 333, 3) := by decide +kernel
theorem dL_law_1264 : decode cL_law 1264 = .ok (.aload_n 1, 1) := by decide +kernel
theorem dL_law_1265 : decode cL_law 1265 = .ok (.aload_n 0, 1) := by decide +kernel
theorem dL_law_1266 : decode cL_law 1266 = .ok (.iload 4, 2) := by decide +kernel
theorem dL_law_1268 : decode cL_law 1268 = .ok (.iconst 1, 1) := by decide +kernel
theorem dL_law_1269 : decode cL_law 1269 = .ok (.iadd, 1) := by decide +kernel
theorem dL_law_1270 : decode cL_law 1270 = .ok (.iaload, 1) := by decide +kernel
theorem dL_law_1271 : decode cL_law 1271 = .ok (.aload_n 0, 1) := by decide +kernel
theorem dL_law_1272 : decode cL_law 1272 = .ok (.iload 4, 2) := by decide +kernel
theorem dL_law_1274 : decode cL_law 1274 = .ok (.iconst 2, 1) := by decide +kernel
theorem dL_law_1275 : decode cL_law 1275 = .ok (.iadd, 1) := by decide +kernel
theorem dL_law_1276 : decode cL_law 1276 = .ok (.iaload, 1) := by decide +kernel
theorem dL_law_1277 : decode cL_law 1277 = .ok (.aload_n 3, 1) := by decide +kernel
theorem dL_law_1278 : decode cL_law 1278 = .ok (.invokestatic 156, 3) := by decide +kernel
theorem dL_law_1281 : decode cL_law 1281 = .ok (.istore 5, 2) := by decide +kernel
theorem dL_law_1283 : decode cL_law 1283 = .ok (.aload_n 2, 1) := by decide +kernel
theorem dL_law_1284 : decode cL_law 1284 = .ok (.aload_n 0, 1) := by decide +kernel
theorem dL_law_1285 : decode cL_law 1285 = .ok (.iload 4, 2) := by decide +kernel
theorem dL_law_1287 : decode cL_law 1287 = .ok (.iconst 1, 1) := by decide +kernel
theorem dL_law_1288 : decode cL_law 1288 = .ok (.iadd, 1) := by decide +kernel
theorem dL_law_1289 : decode cL_law 1289 = .ok (.iaload, 1) := by decide +kernel
theorem dL_law_1290 : decode cL_law 1290 = .ok (.aload_n 0, 1) := by decide +kernel
theorem dL_law_1291 : decode cL_law 1291 = .ok (.iload 4, 2) := by decide +kernel
theorem dL_law_1293 : decode cL_law 1293 = .ok (.iconst 2, 1) := by decide +kernel
theorem dL_law_1294 : decode cL_law 1294 = .ok (.iadd, 1) := by decide +kernel
theorem dL_law_1295 : decode cL_law 1295 = .ok (.iaload, 1) := by decide +kernel
theorem dL_law_1296 : decode cL_law 1296 = .ok (.invokevirtual 158, 3) := by decide +kernel
theorem dL_law_1299 : decode cL_law 1299 = .ok (.istore 6, 2) := by decide +kernel
theorem dL_law_1301 : decode cL_law 1301 = .ok (.aload_n 2, 1) := by decide +kernel
theorem dL_law_1302 : decode cL_law 1302 = .ok (.invokevirtual 90, 3) := by decide +kernel
theorem dL_law_1305 : decode cL_law 1305 = .ok (.iload 5, 2) := by decide +kernel
theorem dL_law_1307 : decode cL_law 1307 = .ok (.if_icmp .eq 5, 3) := by decide +kernel
theorem dL_law_1310 : decode cL_law 1310 = .ok (.iconst 0, 1) := by decide +kernel
theorem dL_law_1311 : decode cL_law 1311 = .ok (.ireturn, 1) := by decide +kernel
theorem dL_law_1312 : decode cL_law 1312 = .ok (.iload 5, 2) := by decide +kernel
theorem dL_law_1314 : decode cL_law 1314 = .ok (.ifCond .ne 15, 3) := by decide +kernel
theorem dL_law_1317 : decode cL_law 1317 = .ok (.aload_n 3, 1) := by decide +kernel
theorem dL_law_1318 : decode cL_law 1318 = .ok (.iconst 0, 1) := by decide +kernel
theorem dL_law_1319 : decode cL_law 1319 = .ok (.laload, 1) := by decide +kernel
theorem dL_law_1320 : decode cL_law 1320 = .ok (.iload 6, 2) := by decide +kernel
theorem dL_law_1322 : decode cL_law 1322 = .ok (.i2l, 1) := by decide +kernel
theorem dL_law_1323 : decode cL_law 1323 = .ok (.lcmp, 1) := by decide +kernel
theorem dL_law_1324 : decode cL_law 1324 = .ok (.ifCond .eq 5, 3) := by decide +kernel
theorem dL_law_1327 : decode cL_law 1327 = .ok (.iconst 0, 1) := by decide +kernel
theorem dL_law_1328 : decode cL_law 1328 = .ok (.ireturn, 1) := by decide +kernel
theorem dL_law_1329 : decode cL_law 1329 = .ok (.goto 265, 3) := by decide +kernel
theorem dL_law_1332 : decode cL_law 1332 = .ok (.aload_n 1, 1) := by decide +kernel
theorem dL_law_1333 : decode cL_law 1333 = .ok (.aload_n 0, 1) := by decide +kernel
theorem dL_law_1334 : decode cL_law 1334 = .ok (.iload 4, 2) := by decide +kernel
theorem dL_law_1336 : decode cL_law 1336 = .ok (.iconst 1, 1) := by decide +kernel
theorem dL_law_1337 : decode cL_law 1337 = .ok (.iadd, 1) := by decide +kernel
theorem dL_law_1338 : decode cL_law 1338 = .ok (.iaload, 1) := by decide +kernel
theorem dL_law_1339 : decode cL_law 1339 = .ok (.aload_n 0, 1) := by decide +kernel
theorem dL_law_1340 : decode cL_law 1340 = .ok (.iload 4, 2) := by decide +kernel
theorem dL_law_1342 : decode cL_law 1342 = .ok (.iconst 2, 1) := by decide +kernel
theorem dL_law_1343 : decode cL_law 1343 = .ok (.iadd, 1) := by decide +kernel
theorem dL_law_1344 : decode cL_law 1344 = .ok (.iaload, 1) := by decide +kernel
theorem dL_law_1345 : decode cL_law 1345 = .ok (.aload_n 3, 1) := by decide +kernel
theorem dL_law_1346 : decode cL_law 1346 = .ok (.invokestatic 159, 3) := by decide +kernel
theorem dL_law_1349 : decode cL_law 1349 = .ok (.istore 5, 2) := by decide +kernel
theorem dL_law_1351 : decode cL_law 1351 = .ok (.aload_n 2, 1) := by decide +kernel
theorem dL_law_1352 : decode cL_law 1352 = .ok (.aload_n 0, 1) := by decide +kernel
theorem dL_law_1353 : decode cL_law 1353 = .ok (.iload 4, 2) := by decide +kernel
theorem dL_law_1355 : decode cL_law 1355 = .ok (.iconst 1, 1) := by decide +kernel
theorem dL_law_1356 : decode cL_law 1356 = .ok (.iadd, 1) := by decide +kernel
theorem dL_law_1357 : decode cL_law 1357 = .ok (.iaload, 1) := by decide +kernel
theorem dL_law_1358 : decode cL_law 1358 = .ok (.aload_n 0, 1) := by decide +kernel
theorem dL_law_1359 : decode cL_law 1359 = .ok (.iload 4, 2) := by decide +kernel
theorem dL_law_1361 : decode cL_law 1361 = .ok (.iconst 2, 1) := by decide +kernel
theorem dL_law_1362 : decode cL_law 1362 = .ok (.iadd, 1) := by decide +kernel
theorem dL_law_1363 : decode cL_law 1363 = .ok (.iaload, 1) := by decide +kernel
theorem dL_law_1364 : decode cL_law 1364 = .ok (.invokevirtual 161, 3) := by decide +kernel
theorem dL_law_1367 : decode cL_law 1367 = .ok (.istore 6, 2) := by decide +kernel
theorem dL_law_1369 : decode cL_law 1369 = .ok (.aload_n 2, 1) := by decide +kernel
theorem dL_law_1370 : decode cL_law 1370 = .ok (.invokevirtual 90, 3) := by decide +kernel
theorem dL_law_1373 : decode cL_law 1373 = .ok (.iload 5, 2) := by decide +kernel
theorem dL_law_1375 : decode cL_law 1375 = .ok (.if_icmp .eq 5, 3) := by decide +kernel
theorem dL_law_1378 : decode cL_law 1378 = .ok (.iconst 0, 1) := by decide +kernel
theorem dL_law_1379 : decode cL_law 1379 = .ok (.ireturn, 1) := by decide +kernel
theorem dL_law_1380 : decode cL_law 1380 = .ok (.iload 5, 2) := by decide +kernel
theorem dL_law_1382 : decode cL_law 1382 = .ok (.ifCond .ne 15, 3) := by decide +kernel
theorem dL_law_1385 : decode cL_law 1385 = .ok (.aload_n 3, 1) := by decide +kernel
theorem dL_law_1386 : decode cL_law 1386 = .ok (.iconst 0, 1) := by decide +kernel
theorem dL_law_1387 : decode cL_law 1387 = .ok (.laload, 1) := by decide +kernel
theorem dL_law_1388 : decode cL_law 1388 = .ok (.iload 6, 2) := by decide +kernel
theorem dL_law_1390 : decode cL_law 1390 = .ok (.i2l, 1) := by decide +kernel
theorem dL_law_1391 : decode cL_law 1391 = .ok (.lcmp, 1) := by decide +kernel
theorem dL_law_1392 : decode cL_law 1392 = .ok (.ifCond .eq 5, 3) := by decide +kernel
theorem dL_law_1395 : decode cL_law 1395 = .ok (.iconst 0, 1) := by decide +kernel
theorem dL_law_1396 : decode cL_law 1396 = .ok (.ireturn, 1) := by decide +kernel
theorem dL_law_1397 : decode cL_law 1397 = .ok (.goto 197, 3) := by decide +kernel
theorem dL_law_1400 : decode cL_law 1400 = .ok (.aload_n 1, 1) := by decide +kernel
theorem dL_law_1401 : decode cL_law 1401 = .ok (.aload_n 0, 1) := by decide +kernel
theorem dL_law_1402 : decode cL_law 1402 = .ok (.iload 4, 2) := by decide +kernel
theorem dL_law_1404 : decode cL_law 1404 = .ok (.iconst 1, 1) := by decide +kernel
theorem dL_law_1405 : decode cL_law 1405 = .ok (.iadd, 1) := by decide +kernel
theorem dL_law_1406 : decode cL_law 1406 = .ok (.iaload, 1) := by decide +kernel
theorem dL_law_1407 : decode cL_law 1407 = .ok (.aload_n 3, 1) := by decide +kernel
theorem dL_law_1408 : decode cL_law 1408 = .ok (.invokestatic 162, 3) := by decide +kernel
theorem dL_law_1411 : decode cL_law 1411 = .ok (.istore 5, 2) := by decide +kernel
theorem dL_law_1413 : decode cL_law 1413 = .ok (.aload_n 2, 1) := by decide +kernel
theorem dL_law_1414 : decode cL_law 1414 = .ok (.aload_n 0, 1) := by decide +kernel
theorem dL_law_1415 : decode cL_law 1415 = .ok (.iload 4, 2) := by decide +kernel
theorem dL_law_1417 : decode cL_law 1417 = .ok (.iconst 1, 1) := by decide +kernel
theorem dL_law_1418 : decode cL_law 1418 = .ok (.iadd, 1) := by decide +kernel
theorem dL_law_1419 : decode cL_law 1419 = .ok (.iaload, 1) := by decide +kernel
theorem dL_law_1420 : decode cL_law 1420 = .ok (.invokevirtual 164, 3) := by decide +kernel
theorem dL_law_1423 : decode cL_law 1423 = .ok (.istore 6, 2) := by decide +kernel
theorem dL_law_1425 : decode cL_law 1425 = .ok (.aload_n 2, 1) := by decide +kernel
theorem dL_law_1426 : decode cL_law 1426 = .ok (.invokevirtual 90, 3) := by decide +kernel
theorem dL_law_1429 : decode cL_law 1429 = .ok (.iload 5, 2) := by decide +kernel
theorem dL_law_1431 : decode cL_law 1431 = .ok (.if_icmp .eq 5, 3) := by decide +kernel
theorem dL_law_1434 : decode cL_law 1434 = .ok (.iconst 0, 1) := by decide +kernel
theorem dL_law_1435 : decode cL_law 1435 = .ok (.ireturn, 1) := by decide +kernel
theorem dL_law_1436 : decode cL_law 1436 = .ok (.iload 5, 2) := by decide +kernel
theorem dL_law_1438 : decode cL_law 1438 = .ok (.ifCond .ne 15, 3) := by decide +kernel
theorem dL_law_1441 : decode cL_law 1441 = .ok (.aload_n 3, 1) := by decide +kernel
theorem dL_law_1442 : decode cL_law 1442 = .ok (.iconst 0, 1) := by decide +kernel
theorem dL_law_1443 : decode cL_law 1443 = .ok (.laload, 1) := by decide +kernel
theorem dL_law_1444 : decode cL_law 1444 = .ok (.iload 6, 2) := by decide +kernel
theorem dL_law_1446 : decode cL_law 1446 = .ok (.i2l, 1) := by decide +kernel
theorem dL_law_1447 : decode cL_law 1447 = .ok (.lcmp, 1) := by decide +kernel
theorem dL_law_1448 : decode cL_law 1448 = .ok (.ifCond .eq 5, 3) := by decide +kernel
theorem dL_law_1451 : decode cL_law 1451 = .ok (.iconst 0, 1) := by decide +kernel
theorem dL_law_1452 : decode cL_law 1452 = .ok (.ireturn, 1) := by decide +kernel
theorem dL_law_1453 : decode cL_law 1453 = .ok (.goto 141, 3) := by decide +kernel
theorem dL_law_1456 : decode cL_law 1456 = .ok (.aload_n 1, 1) := by decide +kernel
theorem dL_law_1457 : decode cL_law 1457 = .ok (.aload_n 0, 1) := by decide +kernel
theorem dL_law_1458 : decode cL_law 1458 = .ok (.iload 4, 2) := by decide +kernel
theorem dL_law_1460 : decode cL_law 1460 = .ok (.iconst 1, 1) := by decide +kernel
theorem dL_law_1461 : decode cL_law 1461 = .ok (.iadd, 1) := by decide +kernel
theorem dL_law_1462 : decode cL_law 1462 = .ok (.iaload, 1) := by decide +kernel
theorem dL_law_1463 : decode cL_law 1463 = .ok (.aload_n 3, 1) := by decide +kernel
theorem dL_law_1464 : decode cL_law 1464 = .ok (.invokestatic 165, 3) := by decide +kernel
theorem dL_law_1467 : decode cL_law 1467 = .ok (.istore 5, 2) := by decide +kernel
theorem dL_law_1469 : decode cL_law 1469 = .ok (.aload_n 2, 1) := by decide +kernel
theorem dL_law_1470 : decode cL_law 1470 = .ok (.aload_n 0, 1) := by decide +kernel
theorem dL_law_1471 : decode cL_law 1471 = .ok (.iload 4, 2) := by decide +kernel
theorem dL_law_1473 : decode cL_law 1473 = .ok (.iconst 1, 1) := by decide +kernel
theorem dL_law_1474 : decode cL_law 1474 = .ok (.iadd, 1) := by decide +kernel
theorem dL_law_1475 : decode cL_law 1475 = .ok (.iaload, 1) := by decide +kernel
theorem dL_law_1476 : decode cL_law 1476 = .ok (.invokevirtual 167, 3) := by decide +kernel
theorem dL_law_1479 : decode cL_law 1479 = .ok (.istore 6, 2) := by decide +kernel
theorem dL_law_1481 : decode cL_law 1481 = .ok (.aload_n 2, 1) := by decide +kernel
theorem dL_law_1482 : decode cL_law 1482 = .ok (.invokevirtual 90, 3) := by decide +kernel
theorem dL_law_1485 : decode cL_law 1485 = .ok (.iload 5, 2) := by decide +kernel
theorem dL_law_1487 : decode cL_law 1487 = .ok (.if_icmp .eq 5, 3) := by decide +kernel
theorem dL_law_1490 : decode cL_law 1490 = .ok (.iconst 0, 1) := by decide +kernel
theorem dL_law_1491 : decode cL_law 1491 = .ok (.ireturn, 1) := by decide +kernel
theorem dL_law_1492 : decode cL_law 1492 = .ok (.iload 5, 2) := by decide +kernel
theorem dL_law_1494 : decode cL_law 1494 = .ok (.ifCond .ne 15, 3) := by decide +kernel
theorem dL_law_1497 : decode cL_law 1497 = .ok (.aload_n 3, 1) := by decide +kernel
theorem dL_law_1498 : decode cL_law 1498 = .ok (.iconst 0, 1) := by decide +kernel
theorem dL_law_1499 : decode cL_law 1499 = .ok (.laload, 1) := by decide +kernel
theorem dL_law_1500 : decode cL_law 1500 = .ok (.iload 6, 2) := by decide +kernel
theorem dL_law_1502 : decode cL_law 1502 = .ok (.i2l, 1) := by decide +kernel
theorem dL_law_1503 : decode cL_law 1503 = .ok (.lcmp, 1) := by decide +kernel
theorem dL_law_1504 : decode cL_law 1504 = .ok (.ifCond .eq 5, 3) := by decide +kernel
theorem dL_law_1507 : decode cL_law 1507 = .ok (.iconst 0, 1) := by decide +kernel
theorem dL_law_1508 : decode cL_law 1508 = .ok (.ireturn, 1) := by decide +kernel
theorem dL_law_1509 : decode cL_law 1509 = .ok (.goto 85, 3) := by decide +kernel
theorem dL_law_1512 : decode cL_law 1512 = .ok (.aload_n 1, 1) := by decide +kernel
theorem dL_law_1513 : decode cL_law 1513 = .ok (.aload_n 0, 1) := by decide +kernel
theorem dL_law_1514 : decode cL_law 1514 = .ok (.iload 4, 2) := by decide +kernel
theorem dL_law_1516 : decode cL_law 1516 = .ok (.iconst 1, 1) := by decide +kernel
theorem dL_law_1517 : decode cL_law 1517 = .ok (.iadd, 1) := by decide +kernel
theorem dL_law_1518 : decode cL_law 1518 = .ok (.iaload, 1) := by decide +kernel
theorem dL_law_1519 : decode cL_law 1519 = .ok (.aload_n 0, 1) := by decide +kernel
theorem dL_law_1520 : decode cL_law 1520 = .ok (.iload 4, 2) := by decide +kernel
theorem dL_law_1522 : decode cL_law 1522 = .ok (.iconst 2, 1) := by decide +kernel
theorem dL_law_1523 : decode cL_law 1523 = .ok (.iadd, 1) := by decide +kernel
theorem dL_law_1524 : decode cL_law 1524 = .ok (.iaload, 1) := by decide +kernel
theorem dL_law_1525 : decode cL_law 1525 = .ok (.aload_n 3, 1) := by decide +kernel
theorem dL_law_1526 : decode cL_law 1526 = .ok (.invokestatic 168, 3) := by decide +kernel
theorem dL_law_1529 : decode cL_law 1529 = .ok (.istore 5, 2) := by decide +kernel
theorem dL_law_1531 : decode cL_law 1531 = .ok (.aload_n 2, 1) := by decide +kernel
theorem dL_law_1532 : decode cL_law 1532 = .ok (.aload_n 0, 1) := by decide +kernel
theorem dL_law_1533 : decode cL_law 1533 = .ok (.iload 4, 2) := by decide +kernel
theorem dL_law_1535 : decode cL_law 1535 = .ok (.iconst 1, 1) := by decide +kernel
theorem dL_law_1536 : decode cL_law 1536 = .ok (.iadd, 1) := by decide +kernel
theorem dL_law_1537 : decode cL_law 1537 = .ok (.iaload, 1) := by decide +kernel
theorem dL_law_1538 : decode cL_law 1538 = .ok (.aload_n 0, 1) := by decide +kernel
theorem dL_law_1539 : decode cL_law 1539 = .ok (.iload 4, 2) := by decide +kernel
theorem dL_law_1541 : decode cL_law 1541 = .ok (.iconst 2, 1) := by decide +kernel
theorem dL_law_1542 : decode cL_law 1542 = .ok (.iadd, 1) := by decide +kernel
theorem dL_law_1543 : decode cL_law 1543 = .ok (.iaload, 1) := by decide +kernel
theorem dL_law_1544 : decode cL_law 1544 = .ok (.invokevirtual 170, 3) := by decide +kernel
theorem dL_law_1547 : decode cL_law 1547 = .ok (.istore 6, 2) := by decide +kernel
theorem dL_law_1549 : decode cL_law 1549 = .ok (.aload_n 2, 1) := by decide +kernel
theorem dL_law_1550 : decode cL_law 1550 = .ok (.invokevirtual 90, 3) := by decide +kernel
theorem dL_law_1553 : decode cL_law 1553 = .ok (.iload 5, 2) := by decide +kernel
theorem dL_law_1555 : decode cL_law 1555 = .ok (.if_icmp .eq 5, 3) := by decide +kernel
theorem dL_law_1558 : decode cL_law 1558 = .ok (.iconst 0, 1) := by decide +kernel
theorem dL_law_1559 : decode cL_law 1559 = .ok (.ireturn, 1) := by decide +kernel
theorem dL_law_1560 : decode cL_law 1560 = .ok (.iload 5, 2) := by decide +kernel
theorem dL_law_1562 : decode cL_law 1562 = .ok (.ifCond .ne 15, 3) := by decide +kernel
theorem dL_law_1565 : decode cL_law 1565 = .ok (.aload_n 3, 1) := by decide +kernel
theorem dL_law_1566 : decode cL_law 1566 = .ok (.iconst 0, 1) := by decide +kernel
theorem dL_law_1567 : decode cL_law 1567 = .ok (.laload, 1) := by decide +kernel
theorem dL_law_1568 : decode cL_law 1568 = .ok (.iload 6, 2) := by decide +kernel
theorem dL_law_1570 : decode cL_law 1570 = .ok (.i2l, 1) := by decide +kernel
theorem dL_law_1571 : decode cL_law 1571 = .ok (.lcmp, 1) := by decide +kernel
theorem dL_law_1572 : decode cL_law 1572 = .ok (.ifCond .eq 5, 3) := by decide +kernel
theorem dL_law_1575 : decode cL_law 1575 = .ok (.iconst 0, 1) := by decide +kernel
theorem dL_law_1576 : decode cL_law 1576 = .ok (.ireturn, 1) := by decide +kernel
theorem dL_law_1577 : decode cL_law 1577 = .ok (.goto 17, 3) := by decide +kernel
theorem dL_law_1580 : decode cL_law 1580 = .ok (.aload_n 1, 1) := by decide +kernel
theorem dL_law_1581 : decode cL_law 1581 = .ok (.invokevirtual 171, 3) := by decide +kernel
theorem dL_law_1584 : decode cL_law 1584 = .ok (.aload_n 2, 1) := by decide +kernel
theorem dL_law_1585 : decode cL_law 1585 = .ok (.invokevirtual 175, 3) := by decide +kernel
theorem dL_law_1588 : decode cL_law 1588 = .ok (.lcmp, 1) := by decide +kernel
theorem dL_law_1589 : decode cL_law 1589 = .ok (.ifCond .eq 5, 3) := by decide +kernel
theorem dL_law_1592 : decode cL_law 1592 = .ok (.iconst 0, 1) := by decide +kernel
theorem dL_law_1593 : decode cL_law 1593 = .ok (.ireturn, 1) := by decide +kernel
theorem dL_law_1594 : decode cL_law 1594 = .ok (.iinc 4 5, 3) := by decide +kernel
theorem dL_law_1597 : decode cL_law 1597 = .ok (.goto (-1574), 3) := by decide +kernel
theorem dL_law_1600 : decode cL_law 1600 = .ok (.iconst 1, 1) := by decide +kernel
theorem dL_law_1601 : decode cL_law 1601 = .ok (.ireturn, 1) := by decide +kernel
end
section
/-! THE STATE: a world is a list of cells at the addresses ad 0, ad 1 ..; what they hold of ints is sg k j (cell k, slot j); references never move. WC: the class's 59 cells; WM: the reference's 9. -/
abbrev dd_S : Type := Nat → Nat → Int32
abbrev dd_G : Type := va_G × ClassId × ClassId × ClassId
def dd_up (sg : dd_S) (k : Nat) (f : Nat → Int32) : dd_S := fun j => if j = k then f else sg j
/-- one int set -/
def st2 (sg : dd_S) (k j : Nat) (v : Int32) : dd_S := dd_up sg k (upd (sg k) j v)
def dd_wd (n : Nat) (cd : Nat → (Nat → Int32) → va_E) (ad : Nat → Nat) (sg : dd_S) : va_W := (List.range n).map fun k => (ad k, cd k (sg k))
theorem dd_at {n : Nat} {cd : Nat → (Nat → Int32) → va_E} {ad : Nat → Nat} {sg : dd_S} {X : va_W} {k : Nat} (h : k < n) {e : va_E} (he : cd k (sg k) = e) : (dd_wd n cd ad sg ++ X)[k]? = some (ad k, e) := by
  subst he
  rw [List.getElem?_append_left (by simp [dd_wd, h])]
  simp [dd_wd, h]
theorem dd_set {n : Nat} {cd : Nat → (Nat → Int32) → va_E} {ad : Nat → Nat} {sg : dd_S} {X : va_W} {k : Nat} (h : k < n) {e : va_E} {f : Nat → Int32} (he : cd k f = e) : (dd_wd n cd ad sg ++ X).set k (ad k, e) = dd_wd n cd ad (dd_up sg k f) ++ X := by
  subst he
  rw [List.set_append_left (h := by simp [dd_wd, h])]
  congr 1
  apply List.ext_getElem?
  intro i
  rw [List.getElem?_set]
  by_cases hi : i < n
  · by_cases hk : k = i
    · subst hk
      simp [dd_wd, dd_up, h]
    · simp [dd_wd, dd_up, hi, hk, Ne.symm hk]
  · have e1 : ¬ k = i := by omega
    simp [dd_wd, hi, e1]
theorem dd_len {n : Nat} {cd : Nat → (Nat → Int32) → va_E} {ad : Nat → Nat} {sg : dd_S} : (dd_wd n cd ad sg).length = n := by simp [dd_wd]
/-- apartness speaks of addresses alone -/
theorem dd_ads {A : Nat → Prop} {w1 w2 : va_W} (h : va_D A w1) (e : w1.map (·.1) = w2.map (·.1)) : va_D A w2 := by
  have key : ∀ (k : Nat) (q : Nat × va_E), w2[k]? = some q → ∃ q0, w1[k]? = some q0 ∧ q0.1 = q.1 := by
    intro k q hk
    have h1 : (w1.map (·.1))[k]? = some q.1 := by rw [e, List.getElem?_map, hk]; rfl
    rw [List.getElem?_map] at h1
    cases hq : w1[k]? with
    | none => rw [hq] at h1; cases h1
    | some q0 => rw [hq] at h1; exact ⟨q0, rfl, Option.some.inj h1⟩
  refine ⟨fun i j x y hi hj hxy => ?_, fun k q hk => ?_⟩
  · obtain ⟨x0, h1, h2⟩ := key i x hi
    obtain ⟨y0, h3, h4⟩ := key j y hj
    exact h.1 i j x0 y0 h1 h3 (h2.trans (hxy.trans h4.symm))
  · obtain ⟨q0, h1, h2⟩ := key k q hk
    rw [← h2]
    exact h.2 k q0 h1
theorem dd_D {n : Nat} {cd : Nat → (Nat → Int32) → va_E} {ad : Nat → Nat} {sg s2 : dd_S} {X : va_W} {A : Nat → Prop} (h : va_D A (dd_wd n cd ad sg ++ X)) : va_D A (dd_wd n cd ad s2 ++ X) := dd_ads h (by simp [dd_wd])
/-- what a method may change: its world's cells, and new ones -/
def dd_A (n : Nat) (ad : Nat → Nat) (X : va_W) (sz : Nat) : Nat → Prop := fun q => (∃ k, k < n ∧ q = ad k) ∨ (∃ x, x ∈ X ∧ q = x.1) ∨ sz ≤ q
theorem dd_A_mono {n : Nat} {ad : Nat → Nat} {X : va_W} {sz s2 : Nat} (h : sz ≤ s2) {q : Nat} (hq : dd_A n ad X s2 q) : dd_A n ad X sz q := hq.imp id (Or.imp id (Nat.le_trans h))
theorem dd_A_more {n : Nat} {ad : Nat → Nat} {X : va_W} {t : Nat × va_E} {sz s2 : Nat} (h : sz ≤ s2) (ht : sz ≤ t.1) {q : Nat} (hq : dd_A n ad (X ++ [t]) s2 q) : dd_A n ad X sz q := by
  rcases hq with h1 | ⟨x, hx, e⟩ | h1
  · exact Or.inl h1
  · rcases List.mem_append.mp hx with h2 | h2
    · exact Or.inr (Or.inl ⟨x, h2, e⟩)
    · rw [List.mem_singleton.mp h2] at e
      exact Or.inr (Or.inr (by rw [e]; exact ht))
  · exact Or.inr (Or.inr (Nat.le_trans h h1))
theorem dd_A_new {n : Nat} {ad : Nat → Nat} {X : va_W} {sz q : Nat} (h : sz ≤ q) : dd_A n ad X sz q := Or.inr (Or.inr h)
theorem dd_A_D {n : Nat} {cd : Nat → (Nat → Int32) → va_E} {ad : Nat → Nat} {sg : dd_S} {X : va_W} {A : Nat → Prop} {sz : Nat} (h : va_D A (dd_wd n cd ad sg ++ X)) : va_D (dd_A n ad X sz) (dd_wd n cd ad sg ++ X) := by
  refine ⟨h.1, fun k q hk => ?_⟩
  rcases List.mem_append.mp (List.mem_of_getElem? hk) with h1 | h1
  · obtain ⟨j, hj, e⟩ := List.mem_map.mp h1
    exact Or.inl ⟨j, List.mem_range.mp hj, by rw [← e]⟩
  · exact Or.inr (Or.inl ⟨q, h1, rfl⟩)
/-! the class's cells: 0..14 duties (12 the trial, 13 the other one, 14 the stand-in), 15..29 their trips, 30 the desk, 31 the timetable, 32 the rules, 33 the row of duties, 34 dutyOfTrip, 35 the roster, 36 the queue (37, 38), 39 the exchange, 40 the ways, 41..44 from, to, departure, arrival, 45..52 the roster's rows, 53..58 the ways' rows -/
def cdC (c : ClassId × ClassId × ClassId) (ad : Nat → Nat) (k : Nat) (f : Nat → Int32) : va_E :=
  if k < 15 then .inr (0, [.ref (ad (15 + k)), .int (f 1), .int (f 2), .int (f 3), .int (f 4), .int (f 5), .int (f 6), .int (f 7), .int (f 8)])
  else if k < 30 then .inl (c.1, 40, .inl f)
  else if 53 ≤ k then .inl (c.1, 6, .inl f)
  else if 45 ≤ k then .inl (c.1, 7, .inl f)
  else if k = 30 then .inr (5, [.ref (ad 31), .ref (ad 32), .ref (ad 33), .ref (ad 34), .ref (ad 35), .int (f 5), .int (f 6), .ref (ad 12), .ref (ad 13), .ref (ad 36), .ref (ad 39), .ref (ad 14)])
  else if k = 31 then .inr (4, [.ref (ad 40), .ref (ad 41), .ref (ad 42), .ref (ad 43), .ref (ad 44), .int (f 5)])
  else if k = 32 then .inr (3, [.int (f 0), .int (f 1), .int (f 2), .int (f 3)])
  else if k = 33 then .inl (c.2.1, 12, .inr (.inr (.inr (.inr (fun j => some (ad j))))))
  else if k = 35 then .inl (c.2.2, 8, .inr (.inr (.inr (.inr (fun j => some (ad (45 + j)))))))
  else if k = 36 then .inr (2, [.ref (ad 37), .ref (ad 38), .int (f 2)])
  else if k = 39 then .inr (1, [.int (f 0), .int (f 1), .int (f 2), .int (f 3)])
  else if k = 40 then .inl (c.2.2, 6, .inr (.inr (.inr (.inr (fun j => some (ad (53 + j)))))))
  else .inl (c.1, 40, .inl f)
abbrev WC (g : dd_G) (ad : Nat → Nat) (sg : dd_S) : va_W := dd_wd 59 (cdC g.2 ad) ad sg
section
variable {c : ClassId × ClassId × ClassId} {ad : Nat → Nat} {f : Nat → Int32}
theorem cc_duty {d : Nat} (h : d < 15) : cdC c ad d f = .inr (0, [.ref (ad (15 + d)), .int (f 1), .int (f 2), .int (f 3), .int (f 4), .int (f 5), .int (f 6), .int (f 7), .int (f 8)]) := by simp [cdC, h]
theorem cc_trips {d : Nat} (h : d < 15) : cdC c ad (15 + d) f = .inl (c.1, 40, .inl f) := by
  have h1 : ¬ 15 + d < 15 := by omega
  have h2 : 15 + d < 30 := by omega
  simp [cdC, h1, h2]
theorem cc_30 : cdC c ad 30 f = .inr (5, [.ref (ad 31), .ref (ad 32), .ref (ad 33), .ref (ad 34), .ref (ad 35), .int (f 5), .int (f 6), .ref (ad 12), .ref (ad 13), .ref (ad 36), .ref (ad 39), .ref (ad 14)]) := rfl
theorem cc_31 : cdC c ad 31 f = .inr (4, [.ref (ad 40), .ref (ad 41), .ref (ad 42), .ref (ad 43), .ref (ad 44), .int (f 5)]) := rfl
theorem cc_32 : cdC c ad 32 f = .inr (3, [.int (f 0), .int (f 1), .int (f 2), .int (f 3)]) := rfl
theorem cc_33 : cdC c ad 33 f = .inl (c.2.1, 12, .inr (.inr (.inr (.inr (fun j => some (ad j)))))) := rfl
theorem cc_34 : cdC c ad 34 f = .inl (c.1, 40, .inl f) := rfl
theorem cc_35 : cdC c ad 35 f = .inl (c.2.2, 8, .inr (.inr (.inr (.inr (fun j => some (ad (45 + j))))))) := rfl
theorem cc_36 : cdC c ad 36 f = .inr (2, [.ref (ad 37), .ref (ad 38), .int (f 2)]) := rfl
theorem cc_37 : cdC c ad 37 f = .inl (c.1, 40, .inl f) := rfl
theorem cc_38 : cdC c ad 38 f = .inl (c.1, 40, .inl f) := rfl
theorem cc_39 : cdC c ad 39 f = .inr (1, [.int (f 0), .int (f 1), .int (f 2), .int (f 3)]) := rfl
theorem cc_40 : cdC c ad 40 f = .inl (c.2.2, 6, .inr (.inr (.inr (.inr (fun j => some (ad (53 + j))))))) := rfl
theorem cc_41 : cdC c ad 41 f = .inl (c.1, 40, .inl f) := rfl
theorem cc_42 : cdC c ad 42 f = .inl (c.1, 40, .inl f) := rfl
theorem cc_43 : cdC c ad 43 f = .inl (c.1, 40, .inl f) := rfl
theorem cc_44 : cdC c ad 44 f = .inl (c.1, 40, .inl f) := rfl
theorem cc_roster {i : Nat} (h : i < 8) : cdC c ad (45 + i) f = .inl (c.1, 7, .inl f) := by
  have h1 : ¬ 45 + i < 15 := by omega
  have h2 : ¬ 45 + i < 30 := by omega
  have h3 : ¬ 53 ≤ 45 + i := by omega
  have h4 : 45 ≤ 45 + i := by omega
  simp only [cdC, if_neg h1, if_neg h2, if_neg h3, if_pos h4]
theorem cc_ways {i : Nat} (h : i < 6) : cdC c ad (53 + i) f = .inl (c.1, 6, .inl f) := by
  have h1 : ¬ 53 + i < 15 := by omega
  have h2 : ¬ 53 + i < 30 := by omega
  have h3 : 53 ≤ 53 + i := by omega
  simp only [cdC, if_neg h1, if_neg h2, if_pos h3]
end
/-! the reference's cells: 0 the model, 1 ways, 2..5 froms, tos, departures, arrivals, 6 dutyOf, 7 given, 8 row -/
def cdM (c : ClassId × ClassId × ClassId) (ad : Nat → Nat) (k : Nat) (f : Nat → Int32) : va_E :=
  if k = 0 then .inr (6, [.int (f 0), .ref (ad 1), .int (f 2), .ref (ad 2), .ref (ad 3), .ref (ad 4), .ref (ad 5), .ref (ad 6), .int (f 8), .int (f 9), .ref (ad 7), .int (f 11), .int (f 12), .int (f 13), .int (f 14), .ref (ad 8), .int (f 16), .int (f 17), .int (f 18), .int (f 19), .int (f 20), .int (f 21), .int (f 22), .int (f 23), .int (f 24)])
  else if k = 1 then .inl (c.1, 36, .inl f)
  else if k = 7 then .inl (c.1, 56, .inl f)
  else .inl (c.1, 40, .inl f)
abbrev WM (g : dd_G) (ad : Nat → Nat) (sg : dd_S) : va_W := dd_wd 9 (cdM g.2 ad) ad sg
section
variable {c : ClassId × ClassId × ClassId} {ad : Nat → Nat} {f : Nat → Int32}
theorem cm_0 : cdM c ad 0 f = .inr (6, [.int (f 0), .ref (ad 1), .int (f 2), .ref (ad 2), .ref (ad 3), .ref (ad 4), .ref (ad 5), .ref (ad 6), .int (f 8), .int (f 9), .ref (ad 7), .int (f 11), .int (f 12), .int (f 13), .int (f 14), .ref (ad 8), .int (f 16), .int (f 17), .int (f 18), .int (f 19), .int (f 20), .int (f 21), .int (f 22), .int (f 23), .int (f 24)]) := rfl
theorem cm_1 : cdM c ad 1 f = .inl (c.1, 36, .inl f) := rfl
theorem cm_2 : cdM c ad 2 f = .inl (c.1, 40, .inl f) := rfl
theorem cm_3 : cdM c ad 3 f = .inl (c.1, 40, .inl f) := rfl
theorem cm_4 : cdM c ad 4 f = .inl (c.1, 40, .inl f) := rfl
theorem cm_5 : cdM c ad 5 f = .inl (c.1, 40, .inl f) := rfl
theorem cm_6 : cdM c ad 6 f = .inl (c.1, 40, .inl f) := rfl
theorem cm_7 : cdM c ad 7 f = .inl (c.1, 56, .inl f) := rfl
theorem cm_8 : cdM c ad 8 f = .inl (c.1, 40, .inl f) := rfl
end
/-! words -/
def lw_all : List Cond := lw_tbl.filter goodWord
theorem lw_in {w : Cond} (i : Nat) (h : lw_tbl[i]? = some w) (hg : goodWord w = true) : w ∈ lw_all := List.mem_filter.mpr ⟨List.mem_of_getElem? h, hg⟩
theorem lw_allGood : ∀ w ∈ lw_all, goodWord w = true := fun _ h => (List.mem_filter.mp h).2
abbrev lw_ws (y : MethodName) (c : ByteArray) (n : Nat) (r : Option FieldType) : List Cond := Cond.code y c n r :: lw_all
theorem lw_gi {y : MethodName} {c : ByteArray} {n : Nat} {r : Option FieldType} (h : Cond.code y c n r ∈ lw_all) : GoodIn lw_all (lw_ws y c n r) := fun w hw => by
  have hm : w ∈ lw_all := (List.mem_cons.mp hw).elim (fun e => e ▸ h) id
  exact ⟨hm, good_of_word (lw_allGood w hm)⟩
theorem lw_gV {own C : String} {i : Nat} {y : MethodName} {c : ByteArray} {n : Nat} {r : Option FieldType} (h1 : Cond.methodLink own i y ∈ lw_all) (h2 : Cond.instanceMethod y ∈ lw_all) (h3 : Cond.selects C y y ∈ lw_all) (h4 : Cond.initialized C ∈ lw_all) (h : Cond.code y c n r ∈ lw_all) : GoodIn lw_all (wsV own i C y (lw_ws y c n r)) := by
  intro w hw
  rcases List.mem_append.mp hw with h9 | h9
  · have hm : w ∈ lw_all := by
      rcases List.mem_cons.mp h9 with e | h9
      · exact e ▸ h1
      rcases List.mem_cons.mp h9 with e | h9
      · exact e ▸ h2
      rcases List.mem_cons.mp h9 with e | h9
      · exact e ▸ h3
      rcases List.mem_cons.mp h9 with e | h9
      · exact e ▸ h4
      · cases h9
    exact ⟨hm, good_of_word (lw_allGood w hm)⟩
  · exact lw_gi h w h9
theorem lw_gS {own : String} {i : Nat} {y : MethodName} {c : ByteArray} {n : Nat} {r : Option FieldType} (h1 : Cond.methodLink own i y ∈ lw_all) (h2 : Cond.static y ∈ lw_all) (h4 : Cond.initialized own ∈ lw_all) (h : Cond.code y c n r ∈ lw_all) : GoodIn lw_all (wsS own i y (lw_ws y c n r)) := by
  intro w hw
  rcases List.mem_append.mp hw with h9 | h9
  · have hm : w ∈ lw_all := by
      rcases List.mem_cons.mp h9 with e | h9
      · exact e ▸ h1
      rcases List.mem_cons.mp h9 with e | h9
      · exact e ▸ h2
      rcases List.mem_cons.mp h9 with e | h9
      · exact e ▸ h4
      · cases h9
    exact ⟨hm, good_of_word (lw_allGood w hm)⟩
  · exact lw_gi h w h9
/-- the words of nest mates: they aren't 'good', so they go with the world's facts -/
def nw_is : Cond → Bool
  | .fieldLinkNest .. => true
  | .methodLinkNest .. => true
  | _ => false
def lw_nest : List Cond := tables_1.filter nw_is
theorem nw_in {w : Cond} (i : Nat) (h : tables_1[i]? = some w) (hg : nw_is w = true) : w ∈ lw_nest := List.mem_filter.mpr ⟨List.mem_of_getElem? h, hg⟩
theorem nw_warm {w : Cond} (hw : nw_is w = true) {s U : State} (hW : s.WarmedH U.vm) (h : va_Nw w s) : va_Nw w U := by
  cases w <;> first | (simp [nw_is] at hw; done) | exact va_Nw.warmF hW h | exact va_Nw.warmM hW h
theorem nw_same {w : Cond} (hw : nw_is w = true) {s U : State} (hv : s.vm = U.vm) (h : va_Nw w s) : va_Nw w U := by
  cases w <;> first | (simp [nw_is] at hw; done) | exact va_Nw.same rfl hv h
abbrev dd_tys (c : ClassId × ClassId × ClassId) : List (ClassId × FieldType) := [(c.1, .int), (c.2.1, .object RX0), (c.2.2, .array .int)]
def KC (g : dd_G) (U : State) : Prop := va_K g.1 vwCl (dd_tys g.2) U ∧ ∀ w ∈ lw_nest, va_Nw w U
theorem KC.warm {g : dd_G} {s U : State} (hW : s.WarmedH U.vm) (h : KC g s) : KC g U := ⟨va_K.moved hW.alike h.1, fun w hw => nw_warm (List.mem_filter.mp hw).2 hW (h.2 w hw)⟩
theorem KC.same {g : dd_G} {s U : State} (hv : s.vm = U.vm) (h : KC g s) : KC g U := ⟨va_K.moved (by rw [hv]; exact Vm.Alike.refl _) h.1, fun w hw => nw_same (List.mem_filter.mp hw).2 hv (h.2 w hw)⟩
/-- a method's start over a world -/
def PreW (g : dd_G) (ws : va_W) (sz : Nat) (U : State) : Prop := U.heap.size = sz ∧ va_P g.1 vwCl ws U.heap ∧ KC g U ∧ va_D (fun _ => True) ws
theorem PreW.blind {g : dd_G} {ws : va_W} {sz : Nat} {av : List Value} : FrameBlind (va_Pc av (PreW g ws sz)) := fun a U fr mk h => ⟨h.1, h.2.1, h.2.2.1, KC.same (s := U) (U := U.calling fr mk a) rfl h.2.2.2.1, h.2.2.2.2⟩
theorem preW_of {g : dd_G} {ws : va_W} {s U : State} {H : Heap} {A : Nat → Prop} (hK : KC g s) (hP : va_P g.1 vwCl ws H) (hD : va_D A ws) (hU : U.heap = H) (hW : s.WarmedH U.vm) : PreW g ws H.size U := ⟨by rw [hU], by rw [hU]; exact hP, hK.warm hW, hD.weaken fun _ _ _ _ => trivial⟩
theorem preS_of {g : dd_G} {ws : va_W} {s : State} {H : Heap} {A : Nat → Prop} {As : List Value} (hK : KC g s) (hP : va_P g.1 vwCl ws H) (hD : va_D A ws) : PreS s H (va_Pc As (PreW g ws H.size)) As := ⟨PreW.blind, fun U hU hW => ⟨rfl, preW_of hK hP hD hU hW⟩⟩
theorem preV_of {g : dd_G} {ws : va_W} {s : State} {H : Heap} {A : Nat → Prop} {a k ci : Nat} {q : vw_C} {fs : List Value} {As : List Value} (hK : KC g s) (hP : va_P g.1 vwCl ws H) (hD : va_D A ws) (he : ws[k]? = some (a, .inr (ci, fs))) (hc : vwCl[ci]? = some q) : PreV s H q.1 a (va_Pc (.ref a :: As) (PreW g ws H.size)) As := ⟨PreW.blind, va_recv hK.1 hP hc he, fun U hU hW => ⟨rfl, preW_of hK hP hD hU hW⟩⟩
/-! ends: the answer, the world behind -/
abbrev QI (g : dd_G) (ws : va_W) (A : Nat → Prop) (r0 : Int32) : Array Value → State → Outcome → State → Prop := va_Qi (fun (r : Int32) (_ : Unit) => r = r0) (fun _ t => va_P g.1 vwCl ws t.heap) A
abbrev QL (g : dd_G) (ws : va_W) (A : Nat → Prop) (r0 : Int64) : Array Value → State → Outcome → State → Prop := va_Ql (fun (r : Int64) (_ : Unit) => r = r0) (fun _ t => va_P g.1 vwCl ws t.heap) A
abbrev QV (g : dd_G) (ws : va_W) (A : Nat → Prop) : Array Value → State → Outcome → State → Prop := va_Qv (fun (_ : Unit) => True) (fun _ t => va_P g.1 vwCl ws t.heap) A
abbrev QR (g : dd_G) (ws : va_W) (A : Nat → Prop) (a0 : Nat) : Array Value → State → Outcome → State → Prop := va_Qr (fun (_ : Unit) => True) (fun _ a t => a = a0 ∧ va_P g.1 vwCl ws t.heap) A
section
variable {p : Program} {l : Launch} {e : Env} {R : Room} {s : State} {m : MethodId} {args : Array Value} {below : List Frame} {meth : Method} {c : Code} {H : Heap} {locs : List Loc} {cells slots mc ms : Nat} {Q : State → Prop}
variable {cc : ByteArray} {pc : Nat} {ls : Array Slot} {rest st0 : List Value} {a : Array Value} {g : dd_G} {ad : Nat → Nat} {sg : dd_S} {ws w1 : va_W} {A0 A1 : Nat → Prop} {H0 : Heap} {free : Addr → Prop}
theorem cl_i {r0 : Int32} (hr : va_Run p l e R s m args below meth c H locs cells slots mc ms (F0 m pc ls st0) rest (QI g w1 A1 r0 a) free) (hS : va_S A0 H0 H locs) (hA : ∀ q, A1 q → A0 q) (hf : ∀ q, free q → A0 q)
    (kk : ∀ (H1 : Heap) (locs1 : List Loc), va_P g.1 vwCl w1 H1 → va_S A0 H0 H1 locs1 → W p l e R s m args below meth c H1 locs1 (cells + mc) (slots + ms) Q (F0 m (pc + 3) ls (.int r0 :: rest))) : W p l e R s m args below meth c H locs cells slots Q (F0 m pc ls st0) :=
  va_calli hr hS (fun q _ h => hA q h) hf fun r u t H1 locs1 ht hvm hw hB hz hk hS1 => by
    subst hw
    rw [ht] at hB
    exact kk H1 locs1 hB hS1
theorem cl_l {r0 : Int64} (hr : va_Run p l e R s m args below meth c H locs cells slots mc ms (F0 m pc ls st0) rest (QL g w1 A1 r0 a) free) (hS : va_S A0 H0 H locs) (hA : ∀ q, A1 q → A0 q) (hf : ∀ q, free q → A0 q)
    (kk : ∀ (H1 : Heap) (locs1 : List Loc), va_P g.1 vwCl w1 H1 → va_S A0 H0 H1 locs1 → W p l e R s m args below meth c H1 locs1 (cells + mc) (slots + ms) Q (F0 m (pc + 3) ls (.long r0 :: rest))) : W p l e R s m args below meth c H locs cells slots Q (F0 m pc ls st0) :=
  va_calll hr hS (fun q _ h => hA q h) hf fun r u t H1 locs1 ht hvm hw hB hz hk hS1 => by
    subst hw
    rw [ht] at hB
    exact kk H1 locs1 hB hS1
theorem cl_v (hr : va_Run p l e R s m args below meth c H locs cells slots mc ms (F0 m pc ls st0) rest (QV g w1 A1 a) free) (hS : va_S A0 H0 H locs) (hA : ∀ q, A1 q → A0 q) (hf : ∀ q, free q → A0 q)
    (kk : ∀ (H1 : Heap) (locs1 : List Loc), va_P g.1 vwCl w1 H1 → va_S A0 H0 H1 locs1 → W p l e R s m args below meth c H1 locs1 (cells + mc) (slots + ms) Q (F0 m (pc + 3) ls rest)) : W p l e R s m args below meth c H locs cells slots Q (F0 m pc ls st0) :=
  va_callv hr hS (fun q _ h => hA q h) hf fun u t H1 locs1 ht hvm hw hB hz hk hS1 => by
    rw [ht] at hB
    exact kk H1 locs1 hB hS1
theorem cl_r {a0 : Nat} (hr : va_Run p l e R s m args below meth c H locs cells slots mc ms (F0 m pc ls st0) rest (QR g w1 A1 a0 a) free) (hS : va_S A0 H0 H locs) (hA : ∀ q, A1 q → A0 q) (hf : ∀ q, free q → A0 q)
    (kk : ∀ (H1 : Heap) (locs1 : List Loc), va_P g.1 vwCl w1 H1 → va_S A0 H0 H1 locs1 → W p l e R s m args below meth c H1 locs1 (cells + mc) (slots + ms) Q (F0 m (pc + 3) ls (.ref a0 :: rest))) : W p l e R s m args below meth c H locs cells slots Q (F0 m pc ls st0) :=
  va_callr hr hS (fun q _ h => hA q h) hf fun u ra t H1 locs1 ht hvm hw hB hz hk hS1 => by
    obtain ⟨e1, hB⟩ := hB
    subst e1
    rw [ht] at hB
    exact kk H1 locs1 hB hS1
/-- an int array's place is read, written -/
theorem W_iald {n N : Nat} {cd : Nat → (Nat → Int32) → va_E} {X : va_W} (hexec : p.tables.exec = Jvm.exec) (hb : c.code = cc) (hK : KC g s) (hP : va_P g.1 vwCl (dd_wd n cd ad sg ++ X) H) (k : Nat) (hk : k < n) (he : cd k (sg k) = .inl (g.2.1, N, .inl (sg k))) {i : Int32} (hin : vp_in i N) (hdg : decode cc pc = .ok (.iaload, 1))
    (kk : W p l e R s m args below meth c H locs cells slots Q (F0 m (pc + 1) ls (.int (sg k i.toNatClampNeg) :: rest))) : W p l e R s m args below meth c H locs cells slots Q (F0 m pc ls (.int i :: .ref (ad k) :: rest)) :=
  va_iald hexec hb hK.1 hP k 0 (dd_at hk he) rfl hin hdg kk
theorem W_iast {n N : Nat} {cd : Nat → (Nat → Int32) → va_E} {X : va_W} (hexec : p.tables.exec = Jvm.exec) (hb : c.code = cc) (hK : KC g s) (hP : va_P g.1 vwCl (dd_wd n cd ad sg ++ X) H) (hD : ∀ s2 : dd_S, va_D A0 (dd_wd n cd ad s2 ++ X)) (hS : va_S A0 H0 H locs) (k : Nat) (hk : k < n) (he : ∀ f : Nat → Int32, cd k f = .inl (g.2.1, N, .inl f)) {i x : Int32} (hin : vp_in i N) (hdg : decode cc pc = .ok (.iastore, 1))
    (kk : ∀ (H1 : Heap) (locs1 : List Loc), va_P g.1 vwCl (dd_wd n cd ad (st2 sg k i.toNatClampNeg x) ++ X) H1 → va_S A0 H0 H1 locs1 → W p l e R s m args below meth c H1 locs1 cells slots Q (F0 m (pc + 1) ls rest)) : W p l e R s m args below meth c H locs cells slots Q (F0 m pc ls (.int x :: .int i :: .ref (ad k) :: rest)) :=
  va_iast hexec hb hK.1 hP (hD sg) hS k 0 (dd_at hk (he _)) rfl hin hdg fun H1 locs1 hP1 _ hS1 => by
    rw [dd_set hk (he _)] at hP1
    exact kk H1 locs1 hP1 hS1
theorem W_aald {n N : Nat} {cA : ClassId} {ty : FieldType} {cd : Nat → (Nat → Int32) → va_E} {X : va_W} {b : Nat → Nat} (hexec : p.tables.exec = Jvm.exec) (hb : c.code = cc) (hK : KC g s) (hP : va_P g.1 vwCl (dd_wd n cd ad sg ++ X) H) (k : Nat) (hk : k < n) (he : cd k (sg k) = .inl (cA, N, .inr (.inr (.inr (.inr (fun j => some (ad (b j)))))))) (t : Nat) (ht : (dd_tys g.2)[t]? = some (cA, ty)) (hrf : ty.isReference = true) {i : Int32} (hin : vp_in i N) (hdg : decode cc pc = .ok (.aaload, 1))
    (kk : W p l e R s m args below meth c H locs cells slots Q (F0 m (pc + 1) ls (.ref (ad (b i.toNatClampNeg)) :: rest))) : W p l e R s m args below meth c H locs cells slots Q (F0 m pc ls (.int i :: .ref (ad k) :: rest)) := by
  have hlt : i.toNatClampNeg < N := Nat.not_le.mp fun q => hin (Or.inr q)
  exact W.aald (v := va_rf (some (ad (b i.toNatClampNeg)))) (ty := ty) hexec hb (hP k _ (dd_at hk he)) ((hK.1.2 t _ ht).1 N (fun j => va_rf (some (ad (b j))))) hrf (fun q => by cases q) (by show ¬ (i < 0 ∨ (arrV _ _ _).slots.size ≤ _); rw [arrV_size]; exact hin) (by show (arrV _ _ _).slots[_]? = _; rw [arrV_read _ _ hlt]) rfl rfl hdg kk
theorem W_alen {n N : Nat} {cA : ClassId} {ty : FieldType} {cd : Nat → (Nat → Int32) → va_E} {X : va_W} {x} (hexec : p.tables.exec = Jvm.exec) (hb : c.code = cc) (hK : KC g s) (hP : va_P g.1 vwCl (dd_wd n cd ad sg ++ X) H) (k : Nat) (hk : k < n) (he : cd k (sg k) = .inl (cA, N, x)) (t : Nat) (ht : (dd_tys g.2)[t]? = some (cA, ty)) {v : Int32} (hv : Int32.ofNat N = v) (hdg : decode cc pc = .ok (.arraylength, 1))
    (kk : W p l e R s m args below meth c H locs cells slots Q (F0 m (pc + 1) ls (.int v :: rest))) : W p l e R s m args below meth c H locs cells slots Q (F0 m pc ls (.ref (ad k) :: rest)) :=
  va_alen hexec hb hK.1 hP k t (dd_at hk he) ht hv hdg kk
theorem W_get {n : Nat} {cd : Nat → (Nat → Int32) → va_E} {X : va_W} {own ref C : String} {T : u_T} {N ci index : Nat} (hexec : p.tables.exec = Jvm.exec) (hb : c.code = cc) (hts : ∀ w ∈ lw_all, w.before args s = true) (hin : ∀ w ∈ u_ws C T N, w ∈ lw_all) (hown : s.vm.findClass own = some m.cls) (hK : KC g s) (hP : va_P g.1 vwCl (dd_wd n cd ad sg ++ X) H) (k : Nat) (hk : k < n) {fs : List Value} (he : cd k (sg k) = .inr (ci, fs)) (hc : vwCl[ci]? = some (C, T, N)) (j : Nat) (hj : j < N) (hlink : Cond.fieldLink own index ref (T j).2.1 (T j).2.2.1 ∈ lw_all) (href : (T j).1 = ref) {v : Value} (hv : fs[j]? = some v) (hdg : decode cc pc = .ok (.getfield index, 3))
    (kk : W p l e R s m args below meth c H locs cells slots Q (F0 m (pc + 3) ls (v :: rest))) : W p l e R s m args below meth c H locs cells slots Q (F0 m pc ls (.ref (ad k) :: rest)) :=
  va_get hexec hb hts hin hown hK.1 hP k (dd_at hk he) hc j hj (hts _ hlink) (fun x h => href ▸ h) hv hdg kk
theorem W_getN {n : Nat} {cd : Nat → (Nat → Int32) → va_E} {X : va_W} {own ref C host : String} {T : u_T} {N ci index : Nat} (hexec : p.tables.exec = Jvm.exec) (hb : c.code = cc) (hts : ∀ w ∈ lw_all, w.before args s = true) (hin : ∀ w ∈ u_ws C T N, w ∈ lw_all) (hown : s.vm.findClass own = some m.cls) (hK : KC g s) (hP : va_P g.1 vwCl (dd_wd n cd ad sg ++ X) H) (k : Nat) (hk : k < n) {fs : List Value} (he : cd k (sg k) = .inr (ci, fs)) (hc : vwCl[ci]? = some (C, T, N)) (j : Nat) (hj : j < N) (hlink : Cond.fieldLinkNest own index ref (T j).2.1 (T j).2.2.1 host ∈ lw_nest) (href : (T j).1 = ref) {v : Value} (hv : fs[j]? = some v) (hdg : decode cc pc = .ok (.getfield index, 3))
    (kk : W p l e R s m args below meth c H locs cells slots Q (F0 m (pc + 3) ls (v :: rest))) : W p l e R s m args below meth c H locs cells slots Q (F0 m pc ls (.ref (ad k) :: rest)) :=
  va_getN hexec hb hts hin hown hK.1 hP k (dd_at hk he) hc j hj (va_Nw.use rfl (hK.2 _ hlink)) (fun x h => href ▸ h) hv hdg kk
theorem W_put {n : Nat} {cd : Nat → (Nat → Int32) → va_E} {X : va_W} {own ref C : String} {T : u_T} {N ci index : Nat} (hexec : p.tables.exec = Jvm.exec) (hb : c.code = cc) (hts : ∀ w ∈ lw_all, w.before args s = true) (hin : ∀ w ∈ u_ws C T N, w ∈ lw_all) (ty0 : Nat → FieldType) (hty : ∀ k, k < N → parseFieldDescriptor (T k).2.2.1 = some (ty0 k)) (hnm : ∀ a, a < N → ∀ b, b < N → a ≠ b → (T a).2.1 ≠ (T b).2.1) (hown : s.vm.findClass own = some m.cls) (hK : KC g s) (hP : va_P g.1 vwCl (dd_wd n cd ad sg ++ X) H) (hD : ∀ s2 : dd_S, va_D A0 (dd_wd n cd ad s2 ++ X)) (hS : va_S A0 H0 H locs) (k : Nat) (hk : k < n) {fs : List Value} (he : cd k (sg k) = .inr (ci, fs)) (hc : vwCl[ci]? = some (C, T, N)) (j : Nat) (hj : j < N) (hlink : Cond.fieldLink own index ref (T j).2.1 (T j).2.2.1 ∈ lw_all) (href : (T j).1 = ref) (hfin : (T j).2.2.2 = false) {ty : FieldType} {x : Int32} (hd : parseFieldDescriptor (T j).2.2.1 = some ty) (hn : narrow ty (.int x) = .int x) (hfit : fits ty (.int x) = true) (hl : j < fs.length) (he2 : cd k (upd (sg k) j x) = .inr (ci, fs.set j (.int x))) (hdg : decode cc pc = .ok (.putfield index, 3))
    (kk : ∀ (H1 : Heap) (locs1 : List Loc), va_P g.1 vwCl (dd_wd n cd ad (st2 sg k j x) ++ X) H1 → va_S A0 H0 H1 locs1 → W p l e R s m args below meth c H1 locs1 cells slots Q (F0 m (pc + 3) ls rest)) : W p l e R s m args below meth c H locs cells slots Q (F0 m pc ls (.int x :: .ref (ad k) :: rest)) :=
  va_put hexec hb hts hin ty0 hty hnm hown hK.1 hP (hD sg) hS k (dd_at hk he) hc j hj (hts _ hlink) (fun x h => href ▸ h) hfin hd hn hfit hl hdg fun H1 locs1 hP1 _ hS1 => by
    rw [dd_set hk he2] at hP1
    exact kk H1 locs1 hP1 hS1
theorem W_putN {n : Nat} {cd : Nat → (Nat → Int32) → va_E} {X : va_W} {own ref C host : String} {T : u_T} {N ci index : Nat} (hexec : p.tables.exec = Jvm.exec) (hb : c.code = cc) (hts : ∀ w ∈ lw_all, w.before args s = true) (hin : ∀ w ∈ u_ws C T N, w ∈ lw_all) (ty0 : Nat → FieldType) (hty : ∀ k, k < N → parseFieldDescriptor (T k).2.2.1 = some (ty0 k)) (hnm : ∀ a, a < N → ∀ b, b < N → a ≠ b → (T a).2.1 ≠ (T b).2.1) (hown : s.vm.findClass own = some m.cls) (hK : KC g s) (hP : va_P g.1 vwCl (dd_wd n cd ad sg ++ X) H) (hD : ∀ s2 : dd_S, va_D A0 (dd_wd n cd ad s2 ++ X)) (hS : va_S A0 H0 H locs) (k : Nat) (hk : k < n) {fs : List Value} (he : cd k (sg k) = .inr (ci, fs)) (hc : vwCl[ci]? = some (C, T, N)) (j : Nat) (hj : j < N) (hlink : Cond.fieldLinkNest own index ref (T j).2.1 (T j).2.2.1 host ∈ lw_nest) (href : (T j).1 = ref) (hfin : (T j).2.2.2 = false) {ty : FieldType} {x : Int32} (hd : parseFieldDescriptor (T j).2.2.1 = some ty) (hn : narrow ty (.int x) = .int x) (hfit : fits ty (.int x) = true) (hl : j < fs.length) (he2 : cd k (upd (sg k) j x) = .inr (ci, fs.set j (.int x))) (hdg : decode cc pc = .ok (.putfield index, 3))
    (kk : ∀ (H1 : Heap) (locs1 : List Loc), va_P g.1 vwCl (dd_wd n cd ad (st2 sg k j x) ++ X) H1 → va_S A0 H0 H1 locs1 → W p l e R s m args below meth c H1 locs1 cells slots Q (F0 m (pc + 3) ls rest)) : W p l e R s m args below meth c H locs cells slots Q (F0 m pc ls (.int x :: .ref (ad k) :: rest)) :=
  va_putN hexec hb hts hin ty0 hty hnm hown hK.1 hP (hD sg) hS k (dd_at hk he) hc j hj (va_Nw.use rfl (hK.2 _ hlink)) (fun x h => href ▸ h) hfin hd hn hfit hl hdg fun H1 locs1 hP1 _ hS1 => by
    rw [dd_set hk he2] at hP1
    exact kk H1 locs1 hP1 hS1
end
/-! the pure side: what a method's code computes, as a partial function; the parts that it is made of -/
def gd {α : Type} (b : Bool) (x : Option α) : Option α := if b = true then x else none
def bd {α β : Type} (x : Option α) (f : α → Option β) : Option β := x.bind f
def bd2 {α β γ : Type} (x : Option (α × β)) (f : α → β → Option γ) : Option γ := x.bind fun q => f q.1 q.2
def lt {α β : Type} (x : α) (f : α → β) : β := f x
def ix (i : Int32) (n : Nat) : Bool := decide (¬ (i < 0 ∨ n ≤ i.toNatClampNeg))
def bz (x : Int32) : Bool := decide (x = 0 ∨ x = 1)
theorem gd_so {α : Type} {b : Bool} {x : Option α} {y : α} (h : gd b x = some y) : b = true ∧ x = some y := by
  unfold gd at h
  split at h
  · exact ⟨by assumption, h⟩
  · cases h
theorem bd_so {α β : Type} {x : Option α} {f : α → Option β} {y : β} (h : bd x f = some y) : ∃ a, x = some a ∧ f a = some y := by
  cases x with
  | none => cases h
  | some a => exact ⟨a, rfl, h⟩
theorem bd2_so {α β γ : Type} {x : Option (α × β)} {f : α → β → Option γ} {y : γ} (h : bd2 x f = some y) : ∃ a b, x = some (a, b) ∧ f a b = some y := by
  cases x with
  | none => cases h
  | some a => exact ⟨a.1, a.2, rfl, h⟩
theorem lt_so {α β : Type} {x z : α} {f : α → β} {y : β} (e : z = x) (h : lt x f = y) : f z = y := by subst e; exact h
theorem lt_ex {α β : Type} {x : α} {f : α → β} {y : β} (h : lt x f = y) : ∃ z, z = x ∧ f z = y := ⟨x, rfl, h⟩
theorem if_t {α : Type} {c : Prop} [Decidable c] {a b y : α} (h : c) (hf : (if c then a else b) = y) : a = y := by rw [if_pos h] at hf; exact hf
theorem if_f {α : Type} {c : Prop} [Decidable c] {a b y : α} (h : ¬ c) (hf : (if c then a else b) = y) : b = y := by rw [if_neg h] at hf; exact hf
theorem ix_in {i : Int32} {n : Nat} (h : ix i n = true) : vp_in i n := by
  unfold ix at h
  unfold vp_in
  exact of_decide_eq_true h
theorem ix_lt {i : Int32} {n m : Nat} (h : ix i n = true) (hm : n ≤ m) : i.toNatClampNeg < m := by
  have h1 := ix_in h
  unfold vp_in at h1
  omega
theorem bz_z {x : Int32} (h : bz x = true) : narrow .boolean (.int x) = .int x := by
  rcases of_decide_eq_true h with e | e <;> rw [e] <;> rfl
theorem bz_f {x : Int32} (h : bz x = true) : fits .boolean (.int x) = true := by
  rcases of_decide_eq_true h with e | e <;> rw [e] <;> rfl
theorem so1 {α : Type} {a b : α} (h : some a = some b) : a = b := Option.some.inj h
theorem so2 {α β : Type} {a c : α} {b d : β} (h : some (a, b) = some (c, d)) : a = c ∧ b = d := by cases h; exact ⟨rfl, rfl⟩
theorem nth_lt15 {i : Nat} (h : i < 12) : i < 15 := by omega
theorem P_at {D : va_G} {cl : List vw_C} {ws : va_W} {H : Heap} {t : State} (ht : t.heap = H) (hP : va_P D cl ws H) : va_P D cl ws t.heap := by rw [ht]; exact hP
theorem P_at2 {D : va_G} {cl : List vw_C} {n : Nat} {cd : Nat → (Nat → Int32) → va_E} {ad : Nat → Nat} {X : va_W} {s1 s2 : dd_S} {H : Heap} {t : State} (e : s1 = s2) (ht : t.heap = H) (hP : va_P D cl (dd_wd n cd ad s1 ++ X) H) : va_P D cl (dd_wd n cd ad s2 ++ X) t.heap := by subst e; rw [ht]; exact hP
end
section
def f_X4_departureOf_23 (sg : dd_S) (a1 : Int32) (t0 : Int32) : Option (Int32) := some t0
def f_X4_departureOf_22 (sg : dd_S) (a1 : Int32) : Option (Int32) := f_X4_departureOf_23 sg a1 (0 : Int32)
def f_X4_departureOf (sg : dd_S) (a1 : Int32) : Option (Int32) := if a1 < (0 : Int32) then (f_X4_departureOf_22 sg a1) else (if (40 : Int32) ≤ a1 then (f_X4_departureOf_22 sg a1) else (gd (ix a1 40) (f_X4_departureOf_23 sg a1 (sg 43 a1.toNatClampNeg))))
def f_X4_fromOf_23 (sg : dd_S) (a1 : Int32) (t0 : Int32) : Option (Int32) := some t0
def f_X4_fromOf_22 (sg : dd_S) (a1 : Int32) : Option (Int32) := f_X4_fromOf_23 sg a1 (0 : Int32)
def f_X4_fromOf (sg : dd_S) (a1 : Int32) : Option (Int32) := if a1 < (0 : Int32) then (f_X4_fromOf_22 sg a1) else (if (40 : Int32) ≤ a1 then (f_X4_fromOf_22 sg a1) else (gd (ix a1 40) (f_X4_fromOf_23 sg a1 (sg 41 a1.toNatClampNeg))))
def f_X4_toOf_23 (sg : dd_S) (a1 : Int32) (t0 : Int32) : Option (Int32) := some t0
def f_X4_toOf_22 (sg : dd_S) (a1 : Int32) : Option (Int32) := f_X4_toOf_23 sg a1 (0 : Int32)
def f_X4_toOf (sg : dd_S) (a1 : Int32) : Option (Int32) := if a1 < (0 : Int32) then (f_X4_toOf_22 sg a1) else (if (40 : Int32) ≤ a1 then (f_X4_toOf_22 sg a1) else (gd (ix a1 40) (f_X4_toOf_23 sg a1 (sg 42 a1.toNatClampNeg))))
def f_X4_arrivalOf_23 (sg : dd_S) (a1 : Int32) (t0 : Int32) : Option (Int32) := some t0
def f_X4_arrivalOf_22 (sg : dd_S) (a1 : Int32) : Option (Int32) := f_X4_arrivalOf_23 sg a1 (0 : Int32)
def f_X4_arrivalOf (sg : dd_S) (a1 : Int32) : Option (Int32) := if a1 < (0 : Int32) then (f_X4_arrivalOf_22 sg a1) else (if (40 : Int32) ≤ a1 then (f_X4_arrivalOf_22 sg a1) else (gd (ix a1 40) (f_X4_arrivalOf_23 sg a1 (sg 44 a1.toNatClampNeg))))
def f_X4_minutesOf (sg : dd_S) (a1 : Int32) : Option (Int32) := bd (f_X4_arrivalOf sg a1) (fun r2 : Int32 => bd (f_X4_departureOf sg a1) (fun r4 : Int32 => some (r2 - r4)))
def f_X4_wayFrom_32 (sg : dd_S) (a1 : Int32) (a2 : Int32) (t0 : Int32) : Option (Int32) := some t0
def f_X4_wayFrom_31 (sg : dd_S) (a1 : Int32) (a2 : Int32) : Option (Int32) := f_X4_wayFrom_32 sg a1 a2 (0 : Int32)
def f_X4_wayFrom (sg : dd_S) (a1 : Int32) (a2 : Int32) : Option (Int32) := if a1 < (0 : Int32) then (f_X4_wayFrom_31 sg a1 a2) else (if (6 : Int32) ≤ a1 then (f_X4_wayFrom_31 sg a1 a2) else (if a2 < (0 : Int32) then (f_X4_wayFrom_31 sg a1 a2) else (if (6 : Int32) ≤ a2 then (f_X4_wayFrom_31 sg a1 a2) else (gd (ix a1 6) (gd (ix a2 6) (f_X4_wayFrom_32 sg a1 a2 (sg (53 + a1.toNatClampNeg) a2.toNatClampNeg)))))))
def f_X0_tripIn_23 (sg : dd_S) (d : Nat) (a1 : Int32) (t0 : Int32) : Option (Int32) := some t0
def f_X0_tripIn_22 (sg : dd_S) (d : Nat) (a1 : Int32) : Option (Int32) := f_X0_tripIn_23 sg d a1 (-1 : Int32)
def f_X0_tripIn (sg : dd_S) (d : Nat) (a1 : Int32) : Option (Int32) := if a1 < (0 : Int32) then (f_X0_tripIn_22 sg d a1) else (if (40 : Int32) ≤ a1 then (f_X0_tripIn_22 sg d a1) else (gd (ix a1 40) (f_X0_tripIn_23 sg d a1 (sg (15 + d) a1.toNatClampNeg))))
def f_X0_placeOf_2 (sg : dd_S) (d : Nat) (a1 : Int32) : Nat → Int32 → Option (Int32)
  | 0, _ => none
  | n + 1, v2 => if (sg d 1) ≤ v2 then (some (-1 : Int32)) else (bd (f_X0_tripIn sg d v2) (fun r3 : Int32 => if r3 = a1 then (some v2) else (lt (v2 + (1 : Int32)) (fun x5 : Int32 => f_X0_placeOf_2 sg d a1 n x5))))
def f_X0_placeOf (sg : dd_S) (d : Nat) (a1 : Int32) : Option (Int32) := f_X0_placeOf_2 sg d a1 64 (0 : Int32)
def f_X0_append_39 (d : Nat) (a1 : Int32) (sg : dd_S) : Option (dd_S) := some sg
def f_X0_append (sg : dd_S) (d : Nat) (a1 : Int32) : Option (dd_S) := if (sg d 1) < (0 : Int32) then (f_X0_append_39 d a1 sg) else (if (40 : Int32) ≤ (sg d 1) then (f_X0_append_39 d a1 sg) else (gd (ix (sg d 1) 40) (lt (st2 sg (15 + d) (sg d 1).toNatClampNeg a1) (fun sg4 : dd_S => lt (st2 sg4 d 1 ((sg4 d 1) + (1 : Int32))) (fun sg5 : dd_S => f_X0_append_39 d a1 sg5)))))
def f_X0_insert_86 (d : Nat) (a1 : Int32) (sg : dd_S) : Option (Int32 × dd_S) := some ((0 : Int32), sg)
def f_X0_insert_94 (d : Nat) (a1 : Int32) : Nat → dd_S → Int32 → Int32 → Option (Int32 × dd_S)
  | 0, _, _, _ => none
  | n + 1, sg, v4, v6 => if v6 ≤ v4 then (gd (ix v4 40) (lt (st2 sg (15 + d) v4.toNatClampNeg a1) (fun sg20 : dd_S => lt (st2 sg20 d 1 ((sg20 d 1) + (1 : Int32))) (fun sg21 : dd_S => some ((1 : Int32), sg21))))) else (gd (ix (v6 - (1 : Int32)) 40) (gd (ix v6 40) (lt (st2 sg (15 + d) v6.toNatClampNeg (sg (15 + d) (v6 - (1 : Int32)).toNatClampNeg)) (fun sg24 : dd_S => lt (v6 + (-1 : Int32)) (fun x25 : Int32 => f_X0_insert_94 d a1 n sg24 v4 x25)))))
def f_X0_insert_67 (d : Nat) (a1 : Int32) (sg : dd_S) (v4 : Int32) (t0 : Int32) : Option (Int32 × dd_S) := if t0 = (0 : Int32) then (if (sg d 1) < (40 : Int32) then (f_X0_insert_94 d a1 64 sg v4 (sg d 1)) else (f_X0_insert_86 d a1 sg)) else (f_X0_insert_86 d a1 sg)
def f_X0_insert_66 (d : Nat) (a1 : Int32) (sg : dd_S) (v4 : Int32) : Option (Int32 × dd_S) := f_X0_insert_67 d a1 sg v4 (0 : Int32)
def f_X0_insert_39 (d : Nat) (a1 : Int32) (sg : dd_S) (v3 : Int32) (v4 : Int32) : Option (Int32 × dd_S) := if (sg d 1) ≤ v4 then (f_X0_insert_66 d a1 sg v4) else (bd (f_X0_tripIn sg d v4) (fun r12 : Int32 => bd (f_X4_departureOf sg r12) (fun r14 : Int32 => if r14 = v3 then (f_X0_insert_67 d a1 sg v4 (1 : Int32)) else (f_X0_insert_66 d a1 sg v4))))
def f_X0_insert_12 (d : Nat) (a1 : Int32) : Nat → dd_S → Int32 → Int32 → Option (Int32 × dd_S)
  | 0, _, _, _ => none
  | n + 1, sg, v3, v4 => if v4 ≤ (0 : Int32) then (f_X0_insert_39 d a1 sg v3 v4) else (bd (f_X0_tripIn sg d (v4 - (1 : Int32))) (fun r5 : Int32 => bd (f_X4_departureOf sg r5) (fun r7 : Int32 => if r7 < v3 then (f_X0_insert_39 d a1 sg v3 v4) else (lt (v4 + (-1 : Int32)) (fun x9 : Int32 => f_X0_insert_12 d a1 n sg v3 x9)))))
def f_X0_insert (sg : dd_S) (d : Nat) (a1 : Int32) : Option (Int32 × dd_S) := bd (f_X4_departureOf sg a1) (fun r2 : Int32 => f_X0_insert_12 d a1 64 sg r2 (sg d 1))
end
section
theorem qw_0 : Cond.fieldLink RX4 23 (TX4 3).1 (TX4 3).2.1 (TX4 3).2.2.1 ∈ lw_all := lw_in 99 (by decide +kernel) rfl
theorem qw_1 : Cond.fieldLink RX4 16 (TX4 1).1 (TX4 1).2.1 (TX4 1).2.2.1 ∈ lw_all := lw_in 97 (by decide +kernel) rfl
theorem qw_2 : Cond.fieldLink RX4 20 (TX4 2).1 (TX4 2).2.1 (TX4 2).2.2.1 ∈ lw_all := lw_in 98 (by decide +kernel) rfl
theorem qw_3 : Cond.fieldLink RX4 26 (TX4 4).1 (TX4 4).2.1 (TX4 4).2.2.1 ∈ lw_all := lw_in 100 (by decide +kernel) rfl
theorem qw_4 : Cond.methodLink RX4 33 yX4_arrivalOf ∈ lw_all := lw_in 365 (by decide +kernel) rfl
theorem qw_5 : Cond.instanceMethod yX4_arrivalOf ∈ lw_all := lw_in 354 (by decide +kernel) rfl
theorem qw_6 : Cond.selects RX4 yX4_arrivalOf yX4_arrivalOf ∈ lw_all := lw_in 355 (by decide +kernel) rfl
theorem qw_7 : Cond.initialized RX4 ∈ lw_all := lw_in 67 (by decide +kernel) rfl
theorem qw_8 : Cond.code yX4_arrivalOf cX4_arrivalOf 2 (some .int) ∈ lw_all := lw_in 356 (by decide +kernel) rfl
theorem qw_9 : Cond.methodLink RX4 37 yX4_departureOf ∈ lw_all := lw_in 366 (by decide +kernel) rfl
theorem qw_10 : Cond.instanceMethod yX4_departureOf ∈ lw_all := lw_in 277 (by decide +kernel) rfl
theorem qw_11 : Cond.selects RX4 yX4_departureOf yX4_departureOf ∈ lw_all := lw_in 278 (by decide +kernel) rfl
theorem qw_12 : Cond.code yX4_departureOf cX4_departureOf 2 (some .int) ∈ lw_all := lw_in 279 (by decide +kernel) rfl
theorem qw_13 : Cond.fieldLink RX4 11 (TX4 0).1 (TX4 0).2.1 (TX4 0).2.2.1 ∈ lw_all := lw_in 96 (by decide +kernel) rfl
theorem qw_14 : Cond.fieldLink RX0 9 (TX0 0).1 (TX0 0).2.1 (TX0 0).2.2.1 ∈ lw_all := lw_in 151 (by decide +kernel) rfl
theorem qw_15 : Cond.fieldLink RX0 19 (TX0 1).1 (TX0 1).2.1 (TX0 1).2.2.1 ∈ lw_all := lw_in 152 (by decide +kernel) rfl
theorem qw_16 : Cond.methodLink RX0 23 yX0_tripIn ∈ lw_all := lw_in 320 (by decide +kernel) rfl
theorem qw_17 : Cond.instanceMethod yX0_tripIn ∈ lw_all := lw_in 321 (by decide +kernel) rfl
theorem qw_18 : Cond.selects RX0 yX0_tripIn yX0_tripIn ∈ lw_all := lw_in 322 (by decide +kernel) rfl
theorem qw_19 : Cond.initialized RX0 ∈ lw_all := lw_in 69 (by decide +kernel) rfl
theorem qw_20 : Cond.code yX0_tripIn cX0_tripIn 2 (some .int) ∈ lw_all := lw_in 323 (by decide +kernel) rfl
theorem qw_21 : Cond.methodLink RX0 27 yX4_departureOf ∈ lw_all := lw_in 332 (by decide +kernel) rfl
theorem inw_X4 : ∀ w ∈ wsX40, w ∈ lw_all := by decide +kernel
theorem gf_X4_23 {p : Program} {l : Launch} {e : Env} {R : Room} {s : State} {m : MethodId} {args : Array Value} {below : List Frame} {meth : Method} {c : Code} {H : Heap} {locs : List Loc} {cells slots : Nat} {Q : State → Prop} {cc : ByteArray} {pc : Nat} {ls : Array Slot} {rest : List Value} {g : dd_G} {ad : Nat → Nat} {sg : dd_S} {X : va_W} (hx : p.tables.exec = Jvm.exec) (hb : c.code = cc) (hts : ∀ w ∈ lw_all, w.before args s = true) (hown : s.vm.findClass RX4 = some m.cls) (hK : KC g s) (hP : va_P g.1 vwCl (WC g ad sg ++ X) H) (hdg : decode cc pc = .ok (.getfield 23, 3))
    (kk : W p l e R s m args below meth c H locs cells slots Q (F0 m (pc + 3) ls (.ref (ad 43) :: rest))) : W p l e R s m args below meth c H locs cells slots Q (F0 m pc ls (.ref (ad 31) :: rest)) :=
  W_get hx hb hts inw_X4 hown hK hP 31 (by decide) cc_31 rfl 3 (by decide) qw_0 rfl rfl hdg kk
theorem gf_X4_16 {p : Program} {l : Launch} {e : Env} {R : Room} {s : State} {m : MethodId} {args : Array Value} {below : List Frame} {meth : Method} {c : Code} {H : Heap} {locs : List Loc} {cells slots : Nat} {Q : State → Prop} {cc : ByteArray} {pc : Nat} {ls : Array Slot} {rest : List Value} {g : dd_G} {ad : Nat → Nat} {sg : dd_S} {X : va_W} (hx : p.tables.exec = Jvm.exec) (hb : c.code = cc) (hts : ∀ w ∈ lw_all, w.before args s = true) (hown : s.vm.findClass RX4 = some m.cls) (hK : KC g s) (hP : va_P g.1 vwCl (WC g ad sg ++ X) H) (hdg : decode cc pc = .ok (.getfield 16, 3))
    (kk : W p l e R s m args below meth c H locs cells slots Q (F0 m (pc + 3) ls (.ref (ad 41) :: rest))) : W p l e R s m args below meth c H locs cells slots Q (F0 m pc ls (.ref (ad 31) :: rest)) :=
  W_get hx hb hts inw_X4 hown hK hP 31 (by decide) cc_31 rfl 1 (by decide) qw_1 rfl rfl hdg kk
theorem gf_X4_20 {p : Program} {l : Launch} {e : Env} {R : Room} {s : State} {m : MethodId} {args : Array Value} {below : List Frame} {meth : Method} {c : Code} {H : Heap} {locs : List Loc} {cells slots : Nat} {Q : State → Prop} {cc : ByteArray} {pc : Nat} {ls : Array Slot} {rest : List Value} {g : dd_G} {ad : Nat → Nat} {sg : dd_S} {X : va_W} (hx : p.tables.exec = Jvm.exec) (hb : c.code = cc) (hts : ∀ w ∈ lw_all, w.before args s = true) (hown : s.vm.findClass RX4 = some m.cls) (hK : KC g s) (hP : va_P g.1 vwCl (WC g ad sg ++ X) H) (hdg : decode cc pc = .ok (.getfield 20, 3))
    (kk : W p l e R s m args below meth c H locs cells slots Q (F0 m (pc + 3) ls (.ref (ad 42) :: rest))) : W p l e R s m args below meth c H locs cells slots Q (F0 m pc ls (.ref (ad 31) :: rest)) :=
  W_get hx hb hts inw_X4 hown hK hP 31 (by decide) cc_31 rfl 2 (by decide) qw_2 rfl rfl hdg kk
theorem gf_X4_26 {p : Program} {l : Launch} {e : Env} {R : Room} {s : State} {m : MethodId} {args : Array Value} {below : List Frame} {meth : Method} {c : Code} {H : Heap} {locs : List Loc} {cells slots : Nat} {Q : State → Prop} {cc : ByteArray} {pc : Nat} {ls : Array Slot} {rest : List Value} {g : dd_G} {ad : Nat → Nat} {sg : dd_S} {X : va_W} (hx : p.tables.exec = Jvm.exec) (hb : c.code = cc) (hts : ∀ w ∈ lw_all, w.before args s = true) (hown : s.vm.findClass RX4 = some m.cls) (hK : KC g s) (hP : va_P g.1 vwCl (WC g ad sg ++ X) H) (hdg : decode cc pc = .ok (.getfield 26, 3))
    (kk : W p l e R s m args below meth c H locs cells slots Q (F0 m (pc + 3) ls (.ref (ad 44) :: rest))) : W p l e R s m args below meth c H locs cells slots Q (F0 m pc ls (.ref (ad 31) :: rest)) :=
  W_get hx hb hts inw_X4 hown hK hP 31 (by decide) cc_31 rfl 4 (by decide) qw_3 rfl rfl hdg kk
theorem gl_X4_33 : GoodIn lw_all (wsV RX4 33 RX4 yX4_arrivalOf (lw_ws yX4_arrivalOf cX4_arrivalOf 2 (some .int))) := lw_gV qw_4 qw_5 qw_6 qw_7 qw_8
theorem yd_X4_arrivalOf : yX4_arrivalOf.cls = RX4 ∧ yX4_arrivalOf.cls ≠ "java/lang/invoke/MethodHandle" ∧ yX4_arrivalOf.cls ≠ "java/lang/invoke/VarHandle" ∧ (parseMethodDescriptor yX4_arrivalOf.desc).map (fun d => d.parameters.length) = some 1 := by decide +kernel
theorem gl_X4_37 : GoodIn lw_all (wsV RX4 37 RX4 yX4_departureOf (lw_ws yX4_departureOf cX4_departureOf 2 (some .int))) := lw_gV qw_9 qw_10 qw_11 qw_7 qw_12
theorem yd_X4_departureOf : yX4_departureOf.cls = RX4 ∧ yX4_departureOf.cls ≠ "java/lang/invoke/MethodHandle" ∧ yX4_departureOf.cls ≠ "java/lang/invoke/VarHandle" ∧ (parseMethodDescriptor yX4_departureOf.desc).map (fun d => d.parameters.length) = some 1 := by decide +kernel
theorem gf_X4_11 {p : Program} {l : Launch} {e : Env} {R : Room} {s : State} {m : MethodId} {args : Array Value} {below : List Frame} {meth : Method} {c : Code} {H : Heap} {locs : List Loc} {cells slots : Nat} {Q : State → Prop} {cc : ByteArray} {pc : Nat} {ls : Array Slot} {rest : List Value} {g : dd_G} {ad : Nat → Nat} {sg : dd_S} {X : va_W} (hx : p.tables.exec = Jvm.exec) (hb : c.code = cc) (hts : ∀ w ∈ lw_all, w.before args s = true) (hown : s.vm.findClass RX4 = some m.cls) (hK : KC g s) (hP : va_P g.1 vwCl (WC g ad sg ++ X) H) (hdg : decode cc pc = .ok (.getfield 11, 3))
    (kk : W p l e R s m args below meth c H locs cells slots Q (F0 m (pc + 3) ls (.ref (ad 40) :: rest))) : W p l e R s m args below meth c H locs cells slots Q (F0 m pc ls (.ref (ad 31) :: rest)) :=
  W_get hx hb hts inw_X4 hown hK hP 31 (by decide) cc_31 rfl 0 (by decide) qw_13 rfl rfl hdg kk
theorem inw_X0 : ∀ w ∈ wsX00, w ∈ lw_all := by decide +kernel
theorem gf_X0_9 {p : Program} {l : Launch} {e : Env} {R : Room} {s : State} {m : MethodId} {args : Array Value} {below : List Frame} {meth : Method} {c : Code} {H : Heap} {locs : List Loc} {cells slots : Nat} {Q : State → Prop} {cc : ByteArray} {pc : Nat} {ls : Array Slot} {rest : List Value} {g : dd_G} {ad : Nat → Nat} {sg : dd_S} {X : va_W} (hx : p.tables.exec = Jvm.exec) (hb : c.code = cc) (hts : ∀ w ∈ lw_all, w.before args s = true) (hown : s.vm.findClass RX0 = some m.cls) (hK : KC g s) (hP : va_P g.1 vwCl (WC g ad sg ++ X) H) {d : Nat} (hd : d < 15) (hdg : decode cc pc = .ok (.getfield 9, 3))
    (kk : W p l e R s m args below meth c H locs cells slots Q (F0 m (pc + 3) ls (.ref (ad (15 + d)) :: rest))) : W p l e R s m args below meth c H locs cells slots Q (F0 m pc ls (.ref (ad d) :: rest)) :=
  W_get hx hb hts inw_X0 hown hK hP d (by omega) (cc_duty hd) rfl 0 (by decide) qw_14 rfl rfl hdg kk
theorem gf_X0_19 {p : Program} {l : Launch} {e : Env} {R : Room} {s : State} {m : MethodId} {args : Array Value} {below : List Frame} {meth : Method} {c : Code} {H : Heap} {locs : List Loc} {cells slots : Nat} {Q : State → Prop} {cc : ByteArray} {pc : Nat} {ls : Array Slot} {rest : List Value} {g : dd_G} {ad : Nat → Nat} {sg : dd_S} {X : va_W} (hx : p.tables.exec = Jvm.exec) (hb : c.code = cc) (hts : ∀ w ∈ lw_all, w.before args s = true) (hown : s.vm.findClass RX0 = some m.cls) (hK : KC g s) (hP : va_P g.1 vwCl (WC g ad sg ++ X) H) {d : Nat} (hd : d < 15) (hdg : decode cc pc = .ok (.getfield 19, 3))
    (kk : W p l e R s m args below meth c H locs cells slots Q (F0 m (pc + 3) ls (.int (sg d 1) :: rest))) : W p l e R s m args below meth c H locs cells slots Q (F0 m pc ls (.ref (ad d) :: rest)) :=
  W_get hx hb hts inw_X0 hown hK hP d (by omega) (cc_duty hd) rfl 1 (by decide) qw_15 rfl rfl hdg kk
theorem gl_X0_23 : GoodIn lw_all (wsV RX0 23 RX0 yX0_tripIn (lw_ws yX0_tripIn cX0_tripIn 2 (some .int))) := lw_gV qw_16 qw_17 qw_18 qw_19 qw_20
theorem yd_X0_tripIn : yX0_tripIn.cls = RX0 ∧ yX0_tripIn.cls ≠ "java/lang/invoke/MethodHandle" ∧ yX0_tripIn.cls ≠ "java/lang/invoke/VarHandle" ∧ (parseMethodDescriptor yX0_tripIn.desc).map (fun d => d.parameters.length) = some 1 := by decide +kernel
theorem pf_X0_19 {p : Program} {l : Launch} {e : Env} {R : Room} {s : State} {m : MethodId} {args : Array Value} {below : List Frame} {meth : Method} {c : Code} {H : Heap} {locs : List Loc} {cells slots : Nat} {Q : State → Prop} {cc : ByteArray} {pc : Nat} {ls : Array Slot} {rest : List Value} {g : dd_G} {ad : Nat → Nat} {sg : dd_S} {X : va_W} {A0 : Nat → Prop} {H0 : Heap} {x : Int32} (hx : p.tables.exec = Jvm.exec) (hb : c.code = cc) (hts : ∀ w ∈ lw_all, w.before args s = true) (hown : s.vm.findClass RX0 = some m.cls) (hK : KC g s) (hP : va_P g.1 vwCl (WC g ad sg ++ X) H) (hD : ∀ s2 : dd_S, va_D A0 (WC g ad s2 ++ X)) (hS : va_S A0 H0 H locs) {d : Nat} (hd : d < 15) (hdg : decode cc pc = .ok (.putfield 19, 3))
    (kk : ∀ (H1 : Heap) (locs1 : List Loc), va_P g.1 vwCl (WC g ad (st2 sg d 1 x) ++ X) H1 → va_S A0 H0 H1 locs1 → W p l e R s m args below meth c H1 locs1 cells slots Q (F0 m (pc + 3) ls rest)) : W p l e R s m args below meth c H locs cells slots Q (F0 m pc ls (.int x :: .ref (ad d) :: rest)) :=
  W_put hx hb hts inw_X0 tyX0 tyX0_ok nmX0 hown hK hP hD hS d (by omega) (cc_duty hd) rfl 1 (by decide) qw_15 rfl rfl (ty := .int) (tyX0_ok 1 (by decide)) rfl rfl (Nat.le_of_ble_eq_true rfl) ((cc_duty hd).trans rfl) hdg kk
theorem gl_X0_27 : GoodIn lw_all (wsV RX0 27 RX4 yX4_departureOf (lw_ws yX4_departureOf cX4_departureOf 2 (some .int))) := lw_gV qw_21 qw_10 qw_11 qw_7 qw_12
end
section
set_option maxHeartbeats 4000000 in
set_option maxRecDepth 100000 in
theorem c_X4_departureOf (l : Launch) (g : dd_G) (ad : Nat → Nat) (X : va_W) (sz : Nat) (sg : dd_S) (a1 : Int32) (r0 : Int32) (hf : f_X4_departureOf sg a1 = some (r0)) : Met l yX4_departureOf (lw_ws yX4_departureOf cX4_departureOf 2 (some .int)) ({ frames := 0, cells := 0, slots := 0, locals := 0 } : Room) (va_Pc [.ref (ad 31), .int a1] (PreW g (WC g ad sg ++ X) sz)) (QI g (WC g ad sg ++ X) (dd_A 59 ad X sz) r0) 0 0 (dd_A 59 ad X sz) := by
  refine Met.ofW (cc := cX4_departureOf) (maxL := 2) (ret := some .int) (by decide) rfl ?_
  intro p e s m args below meth c s₁ B hml hv
  obtain ⟨rfl, rfl, hP, hK, hD0⟩ := hv
  have hx := B.exec
  have hb := B.bytes
  have hr := B.returns
  have hts := atoms_spec (ws := (lw_ws yX4_departureOf cX4_departureOf 2 (some .int))) B.pre
  have hts : ∀ w ∈ lw_all, w.before _ s = true := fun w h => hts w (List.mem_cons_of_mem _ h)
  have hown : s.vm.findClass RX4 = some m.cls := findClass_of_methodNamed B.named
  have hlocks := B.notSynchronized
  have hD : ∀ s2 : dd_S, va_D (dd_A 59 ad X s.heap.size) (WC g ad s2 ++ X) := fun s2 => dd_D (dd_A_D hD0)
  have hS : va_S (dd_A 59 ad X s.heap.size) s.heap s.heap [] := va_S.rf
  have hL_23 : ∀ (t0 : Int32) (H : Heap) (locs : List Loc) (ls : Array Slot), f_X4_departureOf_23 sg a1 t0 = some (r0) → va_P g.1 vwCl (WC g ad sg ++ X) H → va_S (dd_A 59 ad X s.heap.size) s.heap H locs → lv_has ls 2 [] → W p l e (headSpec (lw_ws yX4_departureOf cX4_departureOf 2 (some .int)) ({ frames := 0, cells := 0, slots := 0, locals := 0 } : Room)).room s m ([.ref (ad 31), .int a1] : List Value).toArray below meth c H locs 0 0 (MQ below (QI g (WC g ad sg ++ X) (dd_A 59 ad X s.heap.size) r0) ([.ref (ad 31), .int a1] : List Value).toArray s 0 0 (dd_A 59 ad X s.heap.size)) (F0 m 23 ls [.int t0]) := by
    intro t0 H locs ls hf hP hS hl
    unfold f_X4_departureOf_23 at hf
    exact W.iret (v := t0) hx hb hr (fun t ht hW => ⟨⟨t0, (), rfl, so1 hf, P_at ht hP⟩, hS.F ht⟩) hS.2.2 dX4_departureOf_23
  have hL_22 : ∀ (H : Heap) (locs : List Loc) (ls : Array Slot), f_X4_departureOf_22 sg a1 = some (r0) → va_P g.1 vwCl (WC g ad sg ++ X) H → va_S (dd_A 59 ad X s.heap.size) s.heap H locs → lv_has ls 2 [] → W p l e (headSpec (lw_ws yX4_departureOf cX4_departureOf 2 (some .int)) ({ frames := 0, cells := 0, slots := 0, locals := 0 } : Room)).room s m ([.ref (ad 31), .int a1] : List Value).toArray below meth c H locs 0 0 (MQ below (QI g (WC g ad sg ++ X) (dd_A 59 ad X s.heap.size) r0) ([.ref (ad 31), .int a1] : List Value).toArray s 0 0 (dd_A 59 ad X s.heap.size)) (F0 m 22 ls []) := by
    intro H locs ls hf hP hS hl
    unfold f_X4_departureOf_22 at hf
    refine lv_iconst (v := (0 : Int32)) hx hb dX4_departureOf_22 (by decide) ?_
    exact hL_23 (0 : Int32) _ _ _ hf hP hS (lv_sub hl [] rfl)
  unfold f_X4_departureOf at hf
  have hl := lv_entry ([.ref (ad 31), .int a1]) (n := 2) (Nat.le_of_ble_eq_true rfl)
  rw [lg_entry_eq]
  generalize (lg_sl ([.ref (ad 31), .int a1]) ++ List.replicate (2 - (lg_sl ([.ref (ad 31), .int a1])).length) Slot.unset).toArray = ls at hl ⊢
  have hl : lv_has ls 2 [(0, .ref (ad 31)), (1, .int a1)] := hl
  refine lv_iload_n hx hb dX4_departureOf_0 rfl (lv_at hl 1 rfl) ?_
  refine lv_if_lt (tgt := 22) hx hb dX4_departureOf_1 (by decide) (fun c1 => ?_) (fun c1 => ?_)
  · have hf := if_t c1 hf
    exact hL_22 _ _ _ hf hP hS (lv_sub hl [] rfl)
  · have hf := if_f c1 hf
    refine lv_iload_n hx hb dX4_departureOf_4 rfl (lv_at hl 1 rfl) ?_
    refine lv_aload_n hx hb dX4_departureOf_5 rfl (lv_at hl 0 rfl) ?_
    refine gf_X4_23 hx hb hts hown hK hP dX4_departureOf_6 ?_
    refine W_alen (v := (40 : Int32)) hx hb hK hP 43 (by decide) cc_43 0 rfl (by decide) dX4_departureOf_9 ?_
    refine lv_icmp_ge (tgt := 22) hx hb dX4_departureOf_10 (by decide) (fun c2 => ?_) (fun c2 => ?_)
    · have hf := if_t c2 hf
      exact hL_22 _ _ _ hf hP hS (lv_sub hl [] rfl)
    · have hf := if_f c2 hf
      refine lv_aload_n hx hb dX4_departureOf_13 rfl (lv_at hl 0 rfl) ?_
      refine gf_X4_23 hx hb hts hown hK hP dX4_departureOf_14 ?_
      refine lv_iload_n hx hb dX4_departureOf_17 rfl (lv_at hl 1 rfl) ?_
      obtain ⟨hi3, hf⟩ := gd_so hf
      refine W_iald hx hb hK hP 43 (by decide) cc_43 (ix_in hi3) dX4_departureOf_18 ?_
      refine lv_goto (tgt := 23) hx hb dX4_departureOf_19 (by decide) ?_
      exact hL_23 (sg 43 a1.toNatClampNeg) _ _ _ hf hP hS (lv_sub hl [] rfl)
set_option maxHeartbeats 4000000 in
set_option maxRecDepth 100000 in
theorem c_X4_fromOf (l : Launch) (g : dd_G) (ad : Nat → Nat) (X : va_W) (sz : Nat) (sg : dd_S) (a1 : Int32) (r0 : Int32) (hf : f_X4_fromOf sg a1 = some (r0)) : Met l yX4_fromOf (lw_ws yX4_fromOf cX4_fromOf 2 (some .int)) ({ frames := 0, cells := 0, slots := 0, locals := 0 } : Room) (va_Pc [.ref (ad 31), .int a1] (PreW g (WC g ad sg ++ X) sz)) (QI g (WC g ad sg ++ X) (dd_A 59 ad X sz) r0) 0 0 (dd_A 59 ad X sz) := by
  refine Met.ofW (cc := cX4_fromOf) (maxL := 2) (ret := some .int) (by decide) rfl ?_
  intro p e s m args below meth c s₁ B hml hv
  obtain ⟨rfl, rfl, hP, hK, hD0⟩ := hv
  have hx := B.exec
  have hb := B.bytes
  have hr := B.returns
  have hts := atoms_spec (ws := (lw_ws yX4_fromOf cX4_fromOf 2 (some .int))) B.pre
  have hts : ∀ w ∈ lw_all, w.before _ s = true := fun w h => hts w (List.mem_cons_of_mem _ h)
  have hown : s.vm.findClass RX4 = some m.cls := findClass_of_methodNamed B.named
  have hlocks := B.notSynchronized
  have hD : ∀ s2 : dd_S, va_D (dd_A 59 ad X s.heap.size) (WC g ad s2 ++ X) := fun s2 => dd_D (dd_A_D hD0)
  have hS : va_S (dd_A 59 ad X s.heap.size) s.heap s.heap [] := va_S.rf
  have hL_23 : ∀ (t0 : Int32) (H : Heap) (locs : List Loc) (ls : Array Slot), f_X4_fromOf_23 sg a1 t0 = some (r0) → va_P g.1 vwCl (WC g ad sg ++ X) H → va_S (dd_A 59 ad X s.heap.size) s.heap H locs → lv_has ls 2 [] → W p l e (headSpec (lw_ws yX4_fromOf cX4_fromOf 2 (some .int)) ({ frames := 0, cells := 0, slots := 0, locals := 0 } : Room)).room s m ([.ref (ad 31), .int a1] : List Value).toArray below meth c H locs 0 0 (MQ below (QI g (WC g ad sg ++ X) (dd_A 59 ad X s.heap.size) r0) ([.ref (ad 31), .int a1] : List Value).toArray s 0 0 (dd_A 59 ad X s.heap.size)) (F0 m 23 ls [.int t0]) := by
    intro t0 H locs ls hf hP hS hl
    unfold f_X4_fromOf_23 at hf
    exact W.iret (v := t0) hx hb hr (fun t ht hW => ⟨⟨t0, (), rfl, so1 hf, P_at ht hP⟩, hS.F ht⟩) hS.2.2 dX4_fromOf_23
  have hL_22 : ∀ (H : Heap) (locs : List Loc) (ls : Array Slot), f_X4_fromOf_22 sg a1 = some (r0) → va_P g.1 vwCl (WC g ad sg ++ X) H → va_S (dd_A 59 ad X s.heap.size) s.heap H locs → lv_has ls 2 [] → W p l e (headSpec (lw_ws yX4_fromOf cX4_fromOf 2 (some .int)) ({ frames := 0, cells := 0, slots := 0, locals := 0 } : Room)).room s m ([.ref (ad 31), .int a1] : List Value).toArray below meth c H locs 0 0 (MQ below (QI g (WC g ad sg ++ X) (dd_A 59 ad X s.heap.size) r0) ([.ref (ad 31), .int a1] : List Value).toArray s 0 0 (dd_A 59 ad X s.heap.size)) (F0 m 22 ls []) := by
    intro H locs ls hf hP hS hl
    unfold f_X4_fromOf_22 at hf
    refine lv_iconst (v := (0 : Int32)) hx hb dX4_fromOf_22 (by decide) ?_
    exact hL_23 (0 : Int32) _ _ _ hf hP hS (lv_sub hl [] rfl)
  unfold f_X4_fromOf at hf
  have hl := lv_entry ([.ref (ad 31), .int a1]) (n := 2) (Nat.le_of_ble_eq_true rfl)
  rw [lg_entry_eq]
  generalize (lg_sl ([.ref (ad 31), .int a1]) ++ List.replicate (2 - (lg_sl ([.ref (ad 31), .int a1])).length) Slot.unset).toArray = ls at hl ⊢
  have hl : lv_has ls 2 [(0, .ref (ad 31)), (1, .int a1)] := hl
  refine lv_iload_n hx hb dX4_fromOf_0 rfl (lv_at hl 1 rfl) ?_
  refine lv_if_lt (tgt := 22) hx hb dX4_fromOf_1 (by decide) (fun c1 => ?_) (fun c1 => ?_)
  · have hf := if_t c1 hf
    exact hL_22 _ _ _ hf hP hS (lv_sub hl [] rfl)
  · have hf := if_f c1 hf
    refine lv_iload_n hx hb dX4_fromOf_4 rfl (lv_at hl 1 rfl) ?_
    refine lv_aload_n hx hb dX4_fromOf_5 rfl (lv_at hl 0 rfl) ?_
    refine gf_X4_16 hx hb hts hown hK hP dX4_fromOf_6 ?_
    refine W_alen (v := (40 : Int32)) hx hb hK hP 41 (by decide) cc_41 0 rfl (by decide) dX4_fromOf_9 ?_
    refine lv_icmp_ge (tgt := 22) hx hb dX4_fromOf_10 (by decide) (fun c2 => ?_) (fun c2 => ?_)
    · have hf := if_t c2 hf
      exact hL_22 _ _ _ hf hP hS (lv_sub hl [] rfl)
    · have hf := if_f c2 hf
      refine lv_aload_n hx hb dX4_fromOf_13 rfl (lv_at hl 0 rfl) ?_
      refine gf_X4_16 hx hb hts hown hK hP dX4_fromOf_14 ?_
      refine lv_iload_n hx hb dX4_fromOf_17 rfl (lv_at hl 1 rfl) ?_
      obtain ⟨hi3, hf⟩ := gd_so hf
      refine W_iald hx hb hK hP 41 (by decide) cc_41 (ix_in hi3) dX4_fromOf_18 ?_
      refine lv_goto (tgt := 23) hx hb dX4_fromOf_19 (by decide) ?_
      exact hL_23 (sg 41 a1.toNatClampNeg) _ _ _ hf hP hS (lv_sub hl [] rfl)
set_option maxHeartbeats 4000000 in
set_option maxRecDepth 100000 in
theorem c_X4_toOf (l : Launch) (g : dd_G) (ad : Nat → Nat) (X : va_W) (sz : Nat) (sg : dd_S) (a1 : Int32) (r0 : Int32) (hf : f_X4_toOf sg a1 = some (r0)) : Met l yX4_toOf (lw_ws yX4_toOf cX4_toOf 2 (some .int)) ({ frames := 0, cells := 0, slots := 0, locals := 0 } : Room) (va_Pc [.ref (ad 31), .int a1] (PreW g (WC g ad sg ++ X) sz)) (QI g (WC g ad sg ++ X) (dd_A 59 ad X sz) r0) 0 0 (dd_A 59 ad X sz) := by
  refine Met.ofW (cc := cX4_toOf) (maxL := 2) (ret := some .int) (by decide) rfl ?_
  intro p e s m args below meth c s₁ B hml hv
  obtain ⟨rfl, rfl, hP, hK, hD0⟩ := hv
  have hx := B.exec
  have hb := B.bytes
  have hr := B.returns
  have hts := atoms_spec (ws := (lw_ws yX4_toOf cX4_toOf 2 (some .int))) B.pre
  have hts : ∀ w ∈ lw_all, w.before _ s = true := fun w h => hts w (List.mem_cons_of_mem _ h)
  have hown : s.vm.findClass RX4 = some m.cls := findClass_of_methodNamed B.named
  have hlocks := B.notSynchronized
  have hD : ∀ s2 : dd_S, va_D (dd_A 59 ad X s.heap.size) (WC g ad s2 ++ X) := fun s2 => dd_D (dd_A_D hD0)
  have hS : va_S (dd_A 59 ad X s.heap.size) s.heap s.heap [] := va_S.rf
  have hL_23 : ∀ (t0 : Int32) (H : Heap) (locs : List Loc) (ls : Array Slot), f_X4_toOf_23 sg a1 t0 = some (r0) → va_P g.1 vwCl (WC g ad sg ++ X) H → va_S (dd_A 59 ad X s.heap.size) s.heap H locs → lv_has ls 2 [] → W p l e (headSpec (lw_ws yX4_toOf cX4_toOf 2 (some .int)) ({ frames := 0, cells := 0, slots := 0, locals := 0 } : Room)).room s m ([.ref (ad 31), .int a1] : List Value).toArray below meth c H locs 0 0 (MQ below (QI g (WC g ad sg ++ X) (dd_A 59 ad X s.heap.size) r0) ([.ref (ad 31), .int a1] : List Value).toArray s 0 0 (dd_A 59 ad X s.heap.size)) (F0 m 23 ls [.int t0]) := by
    intro t0 H locs ls hf hP hS hl
    unfold f_X4_toOf_23 at hf
    exact W.iret (v := t0) hx hb hr (fun t ht hW => ⟨⟨t0, (), rfl, so1 hf, P_at ht hP⟩, hS.F ht⟩) hS.2.2 dX4_toOf_23
  have hL_22 : ∀ (H : Heap) (locs : List Loc) (ls : Array Slot), f_X4_toOf_22 sg a1 = some (r0) → va_P g.1 vwCl (WC g ad sg ++ X) H → va_S (dd_A 59 ad X s.heap.size) s.heap H locs → lv_has ls 2 [] → W p l e (headSpec (lw_ws yX4_toOf cX4_toOf 2 (some .int)) ({ frames := 0, cells := 0, slots := 0, locals := 0 } : Room)).room s m ([.ref (ad 31), .int a1] : List Value).toArray below meth c H locs 0 0 (MQ below (QI g (WC g ad sg ++ X) (dd_A 59 ad X s.heap.size) r0) ([.ref (ad 31), .int a1] : List Value).toArray s 0 0 (dd_A 59 ad X s.heap.size)) (F0 m 22 ls []) := by
    intro H locs ls hf hP hS hl
    unfold f_X4_toOf_22 at hf
    refine lv_iconst (v := (0 : Int32)) hx hb dX4_toOf_22 (by decide) ?_
    exact hL_23 (0 : Int32) _ _ _ hf hP hS (lv_sub hl [] rfl)
  unfold f_X4_toOf at hf
  have hl := lv_entry ([.ref (ad 31), .int a1]) (n := 2) (Nat.le_of_ble_eq_true rfl)
  rw [lg_entry_eq]
  generalize (lg_sl ([.ref (ad 31), .int a1]) ++ List.replicate (2 - (lg_sl ([.ref (ad 31), .int a1])).length) Slot.unset).toArray = ls at hl ⊢
  have hl : lv_has ls 2 [(0, .ref (ad 31)), (1, .int a1)] := hl
  refine lv_iload_n hx hb dX4_toOf_0 rfl (lv_at hl 1 rfl) ?_
  refine lv_if_lt (tgt := 22) hx hb dX4_toOf_1 (by decide) (fun c1 => ?_) (fun c1 => ?_)
  · have hf := if_t c1 hf
    exact hL_22 _ _ _ hf hP hS (lv_sub hl [] rfl)
  · have hf := if_f c1 hf
    refine lv_iload_n hx hb dX4_toOf_4 rfl (lv_at hl 1 rfl) ?_
    refine lv_aload_n hx hb dX4_toOf_5 rfl (lv_at hl 0 rfl) ?_
    refine gf_X4_20 hx hb hts hown hK hP dX4_toOf_6 ?_
    refine W_alen (v := (40 : Int32)) hx hb hK hP 42 (by decide) cc_42 0 rfl (by decide) dX4_toOf_9 ?_
    refine lv_icmp_ge (tgt := 22) hx hb dX4_toOf_10 (by decide) (fun c2 => ?_) (fun c2 => ?_)
    · have hf := if_t c2 hf
      exact hL_22 _ _ _ hf hP hS (lv_sub hl [] rfl)
    · have hf := if_f c2 hf
      refine lv_aload_n hx hb dX4_toOf_13 rfl (lv_at hl 0 rfl) ?_
      refine gf_X4_20 hx hb hts hown hK hP dX4_toOf_14 ?_
      refine lv_iload_n hx hb dX4_toOf_17 rfl (lv_at hl 1 rfl) ?_
      obtain ⟨hi3, hf⟩ := gd_so hf
      refine W_iald hx hb hK hP 42 (by decide) cc_42 (ix_in hi3) dX4_toOf_18 ?_
      refine lv_goto (tgt := 23) hx hb dX4_toOf_19 (by decide) ?_
      exact hL_23 (sg 42 a1.toNatClampNeg) _ _ _ hf hP hS (lv_sub hl [] rfl)
set_option maxHeartbeats 4000000 in
set_option maxRecDepth 100000 in
theorem c_X4_arrivalOf (l : Launch) (g : dd_G) (ad : Nat → Nat) (X : va_W) (sz : Nat) (sg : dd_S) (a1 : Int32) (r0 : Int32) (hf : f_X4_arrivalOf sg a1 = some (r0)) : Met l yX4_arrivalOf (lw_ws yX4_arrivalOf cX4_arrivalOf 2 (some .int)) ({ frames := 0, cells := 0, slots := 0, locals := 0 } : Room) (va_Pc [.ref (ad 31), .int a1] (PreW g (WC g ad sg ++ X) sz)) (QI g (WC g ad sg ++ X) (dd_A 59 ad X sz) r0) 0 0 (dd_A 59 ad X sz) := by
  refine Met.ofW (cc := cX4_arrivalOf) (maxL := 2) (ret := some .int) (by decide) rfl ?_
  intro p e s m args below meth c s₁ B hml hv
  obtain ⟨rfl, rfl, hP, hK, hD0⟩ := hv
  have hx := B.exec
  have hb := B.bytes
  have hr := B.returns
  have hts := atoms_spec (ws := (lw_ws yX4_arrivalOf cX4_arrivalOf 2 (some .int))) B.pre
  have hts : ∀ w ∈ lw_all, w.before _ s = true := fun w h => hts w (List.mem_cons_of_mem _ h)
  have hown : s.vm.findClass RX4 = some m.cls := findClass_of_methodNamed B.named
  have hlocks := B.notSynchronized
  have hD : ∀ s2 : dd_S, va_D (dd_A 59 ad X s.heap.size) (WC g ad s2 ++ X) := fun s2 => dd_D (dd_A_D hD0)
  have hS : va_S (dd_A 59 ad X s.heap.size) s.heap s.heap [] := va_S.rf
  have hL_23 : ∀ (t0 : Int32) (H : Heap) (locs : List Loc) (ls : Array Slot), f_X4_arrivalOf_23 sg a1 t0 = some (r0) → va_P g.1 vwCl (WC g ad sg ++ X) H → va_S (dd_A 59 ad X s.heap.size) s.heap H locs → lv_has ls 2 [] → W p l e (headSpec (lw_ws yX4_arrivalOf cX4_arrivalOf 2 (some .int)) ({ frames := 0, cells := 0, slots := 0, locals := 0 } : Room)).room s m ([.ref (ad 31), .int a1] : List Value).toArray below meth c H locs 0 0 (MQ below (QI g (WC g ad sg ++ X) (dd_A 59 ad X s.heap.size) r0) ([.ref (ad 31), .int a1] : List Value).toArray s 0 0 (dd_A 59 ad X s.heap.size)) (F0 m 23 ls [.int t0]) := by
    intro t0 H locs ls hf hP hS hl
    unfold f_X4_arrivalOf_23 at hf
    exact W.iret (v := t0) hx hb hr (fun t ht hW => ⟨⟨t0, (), rfl, so1 hf, P_at ht hP⟩, hS.F ht⟩) hS.2.2 dX4_arrivalOf_23
  have hL_22 : ∀ (H : Heap) (locs : List Loc) (ls : Array Slot), f_X4_arrivalOf_22 sg a1 = some (r0) → va_P g.1 vwCl (WC g ad sg ++ X) H → va_S (dd_A 59 ad X s.heap.size) s.heap H locs → lv_has ls 2 [] → W p l e (headSpec (lw_ws yX4_arrivalOf cX4_arrivalOf 2 (some .int)) ({ frames := 0, cells := 0, slots := 0, locals := 0 } : Room)).room s m ([.ref (ad 31), .int a1] : List Value).toArray below meth c H locs 0 0 (MQ below (QI g (WC g ad sg ++ X) (dd_A 59 ad X s.heap.size) r0) ([.ref (ad 31), .int a1] : List Value).toArray s 0 0 (dd_A 59 ad X s.heap.size)) (F0 m 22 ls []) := by
    intro H locs ls hf hP hS hl
    unfold f_X4_arrivalOf_22 at hf
    refine lv_iconst (v := (0 : Int32)) hx hb dX4_arrivalOf_22 (by decide) ?_
    exact hL_23 (0 : Int32) _ _ _ hf hP hS (lv_sub hl [] rfl)
  unfold f_X4_arrivalOf at hf
  have hl := lv_entry ([.ref (ad 31), .int a1]) (n := 2) (Nat.le_of_ble_eq_true rfl)
  rw [lg_entry_eq]
  generalize (lg_sl ([.ref (ad 31), .int a1]) ++ List.replicate (2 - (lg_sl ([.ref (ad 31), .int a1])).length) Slot.unset).toArray = ls at hl ⊢
  have hl : lv_has ls 2 [(0, .ref (ad 31)), (1, .int a1)] := hl
  refine lv_iload_n hx hb dX4_arrivalOf_0 rfl (lv_at hl 1 rfl) ?_
  refine lv_if_lt (tgt := 22) hx hb dX4_arrivalOf_1 (by decide) (fun c1 => ?_) (fun c1 => ?_)
  · have hf := if_t c1 hf
    exact hL_22 _ _ _ hf hP hS (lv_sub hl [] rfl)
  · have hf := if_f c1 hf
    refine lv_iload_n hx hb dX4_arrivalOf_4 rfl (lv_at hl 1 rfl) ?_
    refine lv_aload_n hx hb dX4_arrivalOf_5 rfl (lv_at hl 0 rfl) ?_
    refine gf_X4_26 hx hb hts hown hK hP dX4_arrivalOf_6 ?_
    refine W_alen (v := (40 : Int32)) hx hb hK hP 44 (by decide) cc_44 0 rfl (by decide) dX4_arrivalOf_9 ?_
    refine lv_icmp_ge (tgt := 22) hx hb dX4_arrivalOf_10 (by decide) (fun c2 => ?_) (fun c2 => ?_)
    · have hf := if_t c2 hf
      exact hL_22 _ _ _ hf hP hS (lv_sub hl [] rfl)
    · have hf := if_f c2 hf
      refine lv_aload_n hx hb dX4_arrivalOf_13 rfl (lv_at hl 0 rfl) ?_
      refine gf_X4_26 hx hb hts hown hK hP dX4_arrivalOf_14 ?_
      refine lv_iload_n hx hb dX4_arrivalOf_17 rfl (lv_at hl 1 rfl) ?_
      obtain ⟨hi3, hf⟩ := gd_so hf
      refine W_iald hx hb hK hP 44 (by decide) cc_44 (ix_in hi3) dX4_arrivalOf_18 ?_
      refine lv_goto (tgt := 23) hx hb dX4_arrivalOf_19 (by decide) ?_
      exact hL_23 (sg 44 a1.toNatClampNeg) _ _ _ hf hP hS (lv_sub hl [] rfl)
set_option maxHeartbeats 4000000 in
set_option maxRecDepth 100000 in
theorem c_X4_minutesOf (l : Launch) (g : dd_G) (ad : Nat → Nat) (X : va_W) (sz : Nat) (sg : dd_S) (a1 : Int32) (r0 : Int32) (hf : f_X4_minutesOf sg a1 = some (r0)) : Met l yX4_minutesOf (lw_ws yX4_minutesOf cX4_minutesOf 2 (some .int)) ({ frames := 1, cells := 0, slots := 0, locals := 21 } : Room) (va_Pc [.ref (ad 31), .int a1] (PreW g (WC g ad sg ++ X) sz)) (QI g (WC g ad sg ++ X) (dd_A 59 ad X sz) r0) 0 0 (dd_A 59 ad X sz) := by
  refine Met.ofW (cc := cX4_minutesOf) (maxL := 2) (ret := some .int) (by decide) rfl ?_
  intro p e s m args below meth c s₁ B hml hv
  obtain ⟨rfl, rfl, hP, hK, hD0⟩ := hv
  have hx := B.exec
  have hb := B.bytes
  have hr := B.returns
  have hts := atoms_spec (ws := (lw_ws yX4_minutesOf cX4_minutesOf 2 (some .int))) B.pre
  have hts : ∀ w ∈ lw_all, w.before _ s = true := fun w h => hts w (List.mem_cons_of_mem _ h)
  have hown : s.vm.findClass RX4 = some m.cls := findClass_of_methodNamed B.named
  have hlocks := B.notSynchronized
  have hD : ∀ s2 : dd_S, va_D (dd_A 59 ad X s.heap.size) (WC g ad s2 ++ X) := fun s2 => dd_D (dd_A_D hD0)
  have hS : va_S (dd_A 59 ad X s.heap.size) s.heap s.heap [] := va_S.rf
  unfold f_X4_minutesOf at hf
  have hl := lv_entry ([.ref (ad 31), .int a1]) (n := 2) (Nat.le_of_ble_eq_true rfl)
  rw [lg_entry_eq]
  generalize (lg_sl ([.ref (ad 31), .int a1]) ++ List.replicate (2 - (lg_sl ([.ref (ad 31), .int a1])).length) Slot.unset).toArray = ls at hl ⊢
  have hl : lv_has ls 2 [(0, .ref (ad 31)), (1, .int a1)] := hl
  refine lv_aload_n hx hb dX4_minutesOf_0 rfl (lv_at hl 0 rfl) ?_
  refine lv_iload_n hx hb dX4_minutesOf_1 rfl (lv_at hl 1 rfl) ?_
  obtain ⟨r2, q1, hf⟩ := bd_so hf
  refine cl_i (va_runV (As := [.int a1]) (rest := []) ⟨hx, hb, hml, hown, hts⟩ (c_X4_arrivalOf l g ad X _ sg a1 r2 q1) (cwV 1 hts gl_X4_33 rfl rfl rfl yd_X4_arrivalOf ⟨Nat.le_of_ble_eq_true rfl, Nat.le_of_ble_eq_true rfl⟩) (preV_of hK hP (hD sg) (dd_at (by decide) cc_31) rfl) rfl rfl hl.1 rfl (lv_room (Nat.le_of_ble_eq_true rfl)) dX4_minutesOf_2 ⟨Nat.le_of_ble_eq_true rfl, Nat.le_of_ble_eq_true rfl⟩) hS (fun q h => dd_A_mono hS.1 h) (fun q h => dd_A_mono hS.1 h) (fun H locs hP hS => ?_)
  refine lv_aload_n hx hb dX4_minutesOf_5 rfl (lv_at hl 0 rfl) ?_
  refine lv_iload_n hx hb dX4_minutesOf_6 rfl (lv_at hl 1 rfl) ?_
  obtain ⟨r4, q3, hf⟩ := bd_so hf
  refine cl_i (va_runV (As := [.int a1]) (rest := [.int r2]) ⟨hx, hb, hml, hown, hts⟩ (c_X4_departureOf l g ad X _ sg a1 r4 q3) (cwV 1 hts gl_X4_37 rfl rfl rfl yd_X4_departureOf ⟨Nat.le_of_ble_eq_true rfl, Nat.le_of_ble_eq_true rfl⟩) (preV_of hK hP (hD sg) (dd_at (by decide) cc_31) rfl) rfl rfl hl.1 rfl (lv_room (Nat.le_of_ble_eq_true rfl)) dX4_minutesOf_7 ⟨Nat.le_of_ble_eq_true rfl, Nat.le_of_ble_eq_true rfl⟩) hS (fun q h => dd_A_mono hS.1 h) (fun q h => dd_A_mono hS.1 h) (fun H locs hP hS => ?_)
  refine lv_isub hx hb dX4_minutesOf_10 ?_
  exact W.iret (v := (r2 - r4)) hx hb hr (fun t ht hW => ⟨⟨(r2 - r4), (), rfl, so1 hf, P_at ht hP⟩, hS.F ht⟩) hS.2.2 dX4_minutesOf_11
set_option maxHeartbeats 4000000 in
set_option maxRecDepth 100000 in
theorem c_X4_wayFrom (l : Launch) (g : dd_G) (ad : Nat → Nat) (X : va_W) (sz : Nat) (sg : dd_S) (a1 : Int32) (a2 : Int32) (r0 : Int32) (hf : f_X4_wayFrom sg a1 a2 = some (r0)) : Met l yX4_wayFrom (lw_ws yX4_wayFrom cX4_wayFrom 3 (some .int)) ({ frames := 0, cells := 0, slots := 0, locals := 0 } : Room) (va_Pc [.ref (ad 31), .int a1, .int a2] (PreW g (WC g ad sg ++ X) sz)) (QI g (WC g ad sg ++ X) (dd_A 59 ad X sz) r0) 0 0 (dd_A 59 ad X sz) := by
  refine Met.ofW (cc := cX4_wayFrom) (maxL := 3) (ret := some .int) (by decide) rfl ?_
  intro p e s m args below meth c s₁ B hml hv
  obtain ⟨rfl, rfl, hP, hK, hD0⟩ := hv
  have hx := B.exec
  have hb := B.bytes
  have hr := B.returns
  have hts := atoms_spec (ws := (lw_ws yX4_wayFrom cX4_wayFrom 3 (some .int))) B.pre
  have hts : ∀ w ∈ lw_all, w.before _ s = true := fun w h => hts w (List.mem_cons_of_mem _ h)
  have hown : s.vm.findClass RX4 = some m.cls := findClass_of_methodNamed B.named
  have hlocks := B.notSynchronized
  have hD : ∀ s2 : dd_S, va_D (dd_A 59 ad X s.heap.size) (WC g ad s2 ++ X) := fun s2 => dd_D (dd_A_D hD0)
  have hS : va_S (dd_A 59 ad X s.heap.size) s.heap s.heap [] := va_S.rf
  have hL_32 : ∀ (t0 : Int32) (H : Heap) (locs : List Loc) (ls : Array Slot), f_X4_wayFrom_32 sg a1 a2 t0 = some (r0) → va_P g.1 vwCl (WC g ad sg ++ X) H → va_S (dd_A 59 ad X s.heap.size) s.heap H locs → lv_has ls 3 [] → W p l e (headSpec (lw_ws yX4_wayFrom cX4_wayFrom 3 (some .int)) ({ frames := 0, cells := 0, slots := 0, locals := 0 } : Room)).room s m ([.ref (ad 31), .int a1, .int a2] : List Value).toArray below meth c H locs 0 0 (MQ below (QI g (WC g ad sg ++ X) (dd_A 59 ad X s.heap.size) r0) ([.ref (ad 31), .int a1, .int a2] : List Value).toArray s 0 0 (dd_A 59 ad X s.heap.size)) (F0 m 32 ls [.int t0]) := by
    intro t0 H locs ls hf hP hS hl
    unfold f_X4_wayFrom_32 at hf
    exact W.iret (v := t0) hx hb hr (fun t ht hW => ⟨⟨t0, (), rfl, so1 hf, P_at ht hP⟩, hS.F ht⟩) hS.2.2 dX4_wayFrom_32
  have hL_31 : ∀ (H : Heap) (locs : List Loc) (ls : Array Slot), f_X4_wayFrom_31 sg a1 a2 = some (r0) → va_P g.1 vwCl (WC g ad sg ++ X) H → va_S (dd_A 59 ad X s.heap.size) s.heap H locs → lv_has ls 3 [] → W p l e (headSpec (lw_ws yX4_wayFrom cX4_wayFrom 3 (some .int)) ({ frames := 0, cells := 0, slots := 0, locals := 0 } : Room)).room s m ([.ref (ad 31), .int a1, .int a2] : List Value).toArray below meth c H locs 0 0 (MQ below (QI g (WC g ad sg ++ X) (dd_A 59 ad X s.heap.size) r0) ([.ref (ad 31), .int a1, .int a2] : List Value).toArray s 0 0 (dd_A 59 ad X s.heap.size)) (F0 m 31 ls []) := by
    intro H locs ls hf hP hS hl
    unfold f_X4_wayFrom_31 at hf
    refine lv_iconst (v := (0 : Int32)) hx hb dX4_wayFrom_31 (by decide) ?_
    exact hL_32 (0 : Int32) _ _ _ hf hP hS (lv_sub hl [] rfl)
  unfold f_X4_wayFrom at hf
  have hl := lv_entry ([.ref (ad 31), .int a1, .int a2]) (n := 3) (Nat.le_of_ble_eq_true rfl)
  rw [lg_entry_eq]
  generalize (lg_sl ([.ref (ad 31), .int a1, .int a2]) ++ List.replicate (3 - (lg_sl ([.ref (ad 31), .int a1, .int a2])).length) Slot.unset).toArray = ls at hl ⊢
  have hl : lv_has ls 3 [(0, .ref (ad 31)), (1, .int a1), (2, .int a2)] := hl
  refine lv_iload_n hx hb dX4_wayFrom_0 rfl (lv_at hl 1 rfl) ?_
  refine lv_if_lt (tgt := 31) hx hb dX4_wayFrom_1 (by decide) (fun c1 => ?_) (fun c1 => ?_)
  · have hf := if_t c1 hf
    exact hL_31 _ _ _ hf hP hS (lv_sub hl [] rfl)
  · have hf := if_f c1 hf
    refine lv_iload_n hx hb dX4_wayFrom_4 rfl (lv_at hl 1 rfl) ?_
    refine lv_bipush (v := (6 : Int32)) hx hb dX4_wayFrom_5 (by decide) ?_
    refine lv_icmp_ge (tgt := 31) hx hb dX4_wayFrom_7 (by decide) (fun c2 => ?_) (fun c2 => ?_)
    · have hf := if_t c2 hf
      exact hL_31 _ _ _ hf hP hS (lv_sub hl [] rfl)
    · have hf := if_f c2 hf
      refine lv_iload_n hx hb dX4_wayFrom_10 rfl (lv_at hl 2 rfl) ?_
      refine lv_if_lt (tgt := 31) hx hb dX4_wayFrom_11 (by decide) (fun c3 => ?_) (fun c3 => ?_)
      · have hf := if_t c3 hf
        exact hL_31 _ _ _ hf hP hS (lv_sub hl [] rfl)
      · have hf := if_f c3 hf
        refine lv_iload_n hx hb dX4_wayFrom_14 rfl (lv_at hl 2 rfl) ?_
        refine lv_bipush (v := (6 : Int32)) hx hb dX4_wayFrom_15 (by decide) ?_
        refine lv_icmp_ge (tgt := 31) hx hb dX4_wayFrom_17 (by decide) (fun c4 => ?_) (fun c4 => ?_)
        · have hf := if_t c4 hf
          exact hL_31 _ _ _ hf hP hS (lv_sub hl [] rfl)
        · have hf := if_f c4 hf
          refine lv_aload_n hx hb dX4_wayFrom_20 rfl (lv_at hl 0 rfl) ?_
          refine gf_X4_11 hx hb hts hown hK hP dX4_wayFrom_21 ?_
          refine lv_iload_n hx hb dX4_wayFrom_24 rfl (lv_at hl 1 rfl) ?_
          obtain ⟨hi5, hf⟩ := gd_so hf
          refine W_aald (b := fun j => 53 + j) hx hb hK hP 40 (by decide) cc_40 2 rfl rfl (ix_in hi5) dX4_wayFrom_25 ?_
          refine lv_iload_n hx hb dX4_wayFrom_26 rfl (lv_at hl 2 rfl) ?_
          obtain ⟨hi6, hf⟩ := gd_so hf
          refine W_iald hx hb hK hP (53 + a1.toNatClampNeg) (by have := ix_lt (m := 6) hi5 (by decide); omega) (cc_ways (ix_lt hi5 (by decide))) (ix_in hi6) dX4_wayFrom_27 ?_
          refine lv_goto (tgt := 32) hx hb dX4_wayFrom_28 (by decide) ?_
          exact hL_32 (sg (53 + a1.toNatClampNeg) a2.toNatClampNeg) _ _ _ hf hP hS (lv_sub hl [] rfl)
set_option maxHeartbeats 4000000 in
set_option maxRecDepth 100000 in
theorem c_X0_tripIn (l : Launch) (g : dd_G) (ad : Nat → Nat) (X : va_W) (sz : Nat) (sg : dd_S) (d : Nat) (a1 : Int32) (hd : d < 15) (r0 : Int32) (hf : f_X0_tripIn sg d a1 = some (r0)) : Met l yX0_tripIn (lw_ws yX0_tripIn cX0_tripIn 2 (some .int)) ({ frames := 0, cells := 0, slots := 0, locals := 0 } : Room) (va_Pc [.ref (ad d), .int a1] (PreW g (WC g ad sg ++ X) sz)) (QI g (WC g ad sg ++ X) (dd_A 59 ad X sz) r0) 0 0 (dd_A 59 ad X sz) := by
  refine Met.ofW (cc := cX0_tripIn) (maxL := 2) (ret := some .int) (by decide) rfl ?_
  intro p e s m args below meth c s₁ B hml hv
  obtain ⟨rfl, rfl, hP, hK, hD0⟩ := hv
  have hx := B.exec
  have hb := B.bytes
  have hr := B.returns
  have hts := atoms_spec (ws := (lw_ws yX0_tripIn cX0_tripIn 2 (some .int))) B.pre
  have hts : ∀ w ∈ lw_all, w.before _ s = true := fun w h => hts w (List.mem_cons_of_mem _ h)
  have hown : s.vm.findClass RX0 = some m.cls := findClass_of_methodNamed B.named
  have hlocks := B.notSynchronized
  have hD : ∀ s2 : dd_S, va_D (dd_A 59 ad X s.heap.size) (WC g ad s2 ++ X) := fun s2 => dd_D (dd_A_D hD0)
  have hS : va_S (dd_A 59 ad X s.heap.size) s.heap s.heap [] := va_S.rf
  have hL_23 : ∀ (t0 : Int32) (H : Heap) (locs : List Loc) (ls : Array Slot), f_X0_tripIn_23 sg d a1 t0 = some (r0) → va_P g.1 vwCl (WC g ad sg ++ X) H → va_S (dd_A 59 ad X s.heap.size) s.heap H locs → lv_has ls 2 [] → W p l e (headSpec (lw_ws yX0_tripIn cX0_tripIn 2 (some .int)) ({ frames := 0, cells := 0, slots := 0, locals := 0 } : Room)).room s m ([.ref (ad d), .int a1] : List Value).toArray below meth c H locs 0 0 (MQ below (QI g (WC g ad sg ++ X) (dd_A 59 ad X s.heap.size) r0) ([.ref (ad d), .int a1] : List Value).toArray s 0 0 (dd_A 59 ad X s.heap.size)) (F0 m 23 ls [.int t0]) := by
    intro t0 H locs ls hf hP hS hl
    unfold f_X0_tripIn_23 at hf
    exact W.iret (v := t0) hx hb hr (fun t ht hW => ⟨⟨t0, (), rfl, so1 hf, P_at ht hP⟩, hS.F ht⟩) hS.2.2 dX0_tripIn_23
  have hL_22 : ∀ (H : Heap) (locs : List Loc) (ls : Array Slot), f_X0_tripIn_22 sg d a1 = some (r0) → va_P g.1 vwCl (WC g ad sg ++ X) H → va_S (dd_A 59 ad X s.heap.size) s.heap H locs → lv_has ls 2 [] → W p l e (headSpec (lw_ws yX0_tripIn cX0_tripIn 2 (some .int)) ({ frames := 0, cells := 0, slots := 0, locals := 0 } : Room)).room s m ([.ref (ad d), .int a1] : List Value).toArray below meth c H locs 0 0 (MQ below (QI g (WC g ad sg ++ X) (dd_A 59 ad X s.heap.size) r0) ([.ref (ad d), .int a1] : List Value).toArray s 0 0 (dd_A 59 ad X s.heap.size)) (F0 m 22 ls []) := by
    intro H locs ls hf hP hS hl
    unfold f_X0_tripIn_22 at hf
    refine lv_iconst (v := (-1 : Int32)) hx hb dX0_tripIn_22 (by decide) ?_
    exact hL_23 (-1 : Int32) _ _ _ hf hP hS (lv_sub hl [] rfl)
  unfold f_X0_tripIn at hf
  have hl := lv_entry ([.ref (ad d), .int a1]) (n := 2) (Nat.le_of_ble_eq_true rfl)
  rw [lg_entry_eq]
  generalize (lg_sl ([.ref (ad d), .int a1]) ++ List.replicate (2 - (lg_sl ([.ref (ad d), .int a1])).length) Slot.unset).toArray = ls at hl ⊢
  have hl : lv_has ls 2 [(0, .ref (ad d)), (1, .int a1)] := hl
  refine lv_iload_n hx hb dX0_tripIn_0 rfl (lv_at hl 1 rfl) ?_
  refine lv_if_lt (tgt := 22) hx hb dX0_tripIn_1 (by decide) (fun c1 => ?_) (fun c1 => ?_)
  · have hf := if_t c1 hf
    exact hL_22 _ _ _ hf hP hS (lv_sub hl [] rfl)
  · have hf := if_f c1 hf
    refine lv_iload_n hx hb dX0_tripIn_4 rfl (lv_at hl 1 rfl) ?_
    refine lv_aload_n hx hb dX0_tripIn_5 rfl (lv_at hl 0 rfl) ?_
    refine gf_X0_9 hx hb hts hown hK hP hd dX0_tripIn_6 ?_
    refine W_alen (v := (40 : Int32)) hx hb hK hP (15 + d) (by omega) (cc_trips hd) 0 rfl (by decide) dX0_tripIn_9 ?_
    refine lv_icmp_ge (tgt := 22) hx hb dX0_tripIn_10 (by decide) (fun c2 => ?_) (fun c2 => ?_)
    · have hf := if_t c2 hf
      exact hL_22 _ _ _ hf hP hS (lv_sub hl [] rfl)
    · have hf := if_f c2 hf
      refine lv_aload_n hx hb dX0_tripIn_13 rfl (lv_at hl 0 rfl) ?_
      refine gf_X0_9 hx hb hts hown hK hP hd dX0_tripIn_14 ?_
      refine lv_iload_n hx hb dX0_tripIn_17 rfl (lv_at hl 1 rfl) ?_
      obtain ⟨hi3, hf⟩ := gd_so hf
      refine W_iald hx hb hK hP (15 + d) (by omega) (cc_trips hd) (ix_in hi3) dX0_tripIn_18 ?_
      refine lv_goto (tgt := 23) hx hb dX0_tripIn_19 (by decide) ?_
      exact hL_23 (sg (15 + d) a1.toNatClampNeg) _ _ _ hf hP hS (lv_sub hl [] rfl)
set_option maxHeartbeats 4000000 in
set_option maxRecDepth 100000 in
theorem c_X0_placeOf (l : Launch) (g : dd_G) (ad : Nat → Nat) (X : va_W) (sz : Nat) (sg : dd_S) (d : Nat) (a1 : Int32) (hd : d < 15) (r0 : Int32) (hf : f_X0_placeOf sg d a1 = some (r0)) : Met l yX0_placeOf (lw_ws yX0_placeOf cX0_placeOf 3 (some .int)) ({ frames := 1, cells := 0, slots := 0, locals := 21 } : Room) (va_Pc [.ref (ad d), .int a1] (PreW g (WC g ad sg ++ X) sz)) (QI g (WC g ad sg ++ X) (dd_A 59 ad X sz) r0) 0 0 (dd_A 59 ad X sz) := by
  refine Met.ofW (cc := cX0_placeOf) (maxL := 3) (ret := some .int) (by decide) rfl ?_
  intro p e s m args below meth c s₁ B hml hv
  obtain ⟨rfl, rfl, hP, hK, hD0⟩ := hv
  have hx := B.exec
  have hb := B.bytes
  have hr := B.returns
  have hts := atoms_spec (ws := (lw_ws yX0_placeOf cX0_placeOf 3 (some .int))) B.pre
  have hts : ∀ w ∈ lw_all, w.before _ s = true := fun w h => hts w (List.mem_cons_of_mem _ h)
  have hown : s.vm.findClass RX0 = some m.cls := findClass_of_methodNamed B.named
  have hlocks := B.notSynchronized
  have hD : ∀ s2 : dd_S, va_D (dd_A 59 ad X s.heap.size) (WC g ad s2 ++ X) := fun s2 => dd_D (dd_A_D hD0)
  have hS : va_S (dd_A 59 ad X s.heap.size) s.heap s.heap [] := va_S.rf
  have hL_2 : ∀ (n : Nat), ∀ (v2 : Int32) (H : Heap) (locs : List Loc) (ls : Array Slot), f_X0_placeOf_2 sg d a1 n v2 = some (r0) → va_P g.1 vwCl (WC g ad sg ++ X) H → va_S (dd_A 59 ad X s.heap.size) s.heap H locs → lv_has ls 3 [(0, .ref (ad d)), (1, .int a1), (2, .int v2)] → W p l e (headSpec (lw_ws yX0_placeOf cX0_placeOf 3 (some .int)) ({ frames := 1, cells := 0, slots := 0, locals := 21 } : Room)).room s m ([.ref (ad d), .int a1] : List Value).toArray below meth c H locs 0 0 (MQ below (QI g (WC g ad sg ++ X) (dd_A 59 ad X s.heap.size) r0) ([.ref (ad d), .int a1] : List Value).toArray s 0 0 (dd_A 59 ad X s.heap.size)) (F0 m 2 ls []) := by
    intro n
    induction n with
    | zero =>
      intro v2 H locs ls hf
      rw [f_X0_placeOf_2] at hf
      cases hf
    | succ n ih =>
      intro v2 H locs ls hf hP hS hl
      rw [f_X0_placeOf_2] at hf
      refine lv_iload_n hx hb dX0_placeOf_2 rfl (lv_at hl 2 rfl) ?_
      refine lv_aload_n hx hb dX0_placeOf_3 rfl (lv_at hl 0 rfl) ?_
      refine gf_X0_19 hx hb hts hown hK hP hd dX0_placeOf_4 ?_
      refine lv_icmp_ge (tgt := 27) hx hb dX0_placeOf_7 (by decide) (fun c1 => ?_) (fun c1 => ?_)
      · have hf := if_t c1 hf
        refine lv_iconst (v := (-1 : Int32)) hx hb dX0_placeOf_27 (by decide) ?_
        exact W.iret (v := (-1 : Int32)) hx hb hr (fun t ht hW => ⟨⟨(-1 : Int32), (), rfl, so1 hf, P_at ht hP⟩, hS.F ht⟩) hS.2.2 dX0_placeOf_28
      · have hf := if_f c1 hf
        refine lv_aload_n hx hb dX0_placeOf_10 rfl (lv_at hl 0 rfl) ?_
        refine lv_iload_n hx hb dX0_placeOf_11 rfl (lv_at hl 2 rfl) ?_
        obtain ⟨r3, q2, hf⟩ := bd_so hf
        refine cl_i (va_runV (As := [.int v2]) (rest := []) ⟨hx, hb, hml, hown, hts⟩ (c_X0_tripIn l g ad X _ sg d v2 hd r3 q2) (cwV 1 hts gl_X0_23 rfl rfl rfl yd_X0_tripIn ⟨Nat.le_of_ble_eq_true rfl, Nat.le_of_ble_eq_true rfl⟩) (preV_of hK hP (hD sg) (dd_at (Nat.lt_trans hd (by decide)) (cc_duty hd)) rfl) rfl rfl hl.1 rfl (lv_room (Nat.le_of_ble_eq_true rfl)) dX0_placeOf_12 ⟨Nat.le_of_ble_eq_true rfl, Nat.le_of_ble_eq_true rfl⟩) hS (fun q h => dd_A_mono hS.1 h) (fun q h => dd_A_mono hS.1 h) (fun H locs hP hS => ?_)
        refine lv_iload_n hx hb dX0_placeOf_15 rfl (lv_at hl 1 rfl) ?_
        refine lv_icmp_ne (tgt := 21) hx hb dX0_placeOf_16 (by decide) (fun c4 => ?_) (fun c4 => ?_)
        · have hf := if_f c4 hf
          obtain ⟨x5, ex5, hf⟩ := lt_ex hf
          refine lv_iinc (v := x5) (lv' := [(2, .int x5), (0, .ref (ad d)), (1, .int a1)]) hx hb dX0_placeOf_21 hl (k := 2) rfl (by rw [ex5]; rfl) (by decide) rfl (fun ls hl => ?_)
          refine lv_goto (tgt := 2) hx hb dX0_placeOf_24 (by decide) ?_
          exact ih x5 _ _ _ hf hP hS (lv_sub hl [1, 2, 0] rfl)
        · have hf := if_t c4 hf
          refine lv_iload_n hx hb dX0_placeOf_19 rfl (lv_at hl 2 rfl) ?_
          exact W.iret (v := v2) hx hb hr (fun t ht hW => ⟨⟨v2, (), rfl, so1 hf, P_at ht hP⟩, hS.F ht⟩) hS.2.2 dX0_placeOf_20
  unfold f_X0_placeOf at hf
  have hl := lv_entry ([.ref (ad d), .int a1]) (n := 3) (Nat.le_of_ble_eq_true rfl)
  rw [lg_entry_eq]
  generalize (lg_sl ([.ref (ad d), .int a1]) ++ List.replicate (3 - (lg_sl ([.ref (ad d), .int a1])).length) Slot.unset).toArray = ls at hl ⊢
  have hl : lv_has ls 3 [(0, .ref (ad d)), (1, .int a1)] := hl
  refine lv_iconst (v := (0 : Int32)) hx hb dX0_placeOf_0 (by decide) ?_
  refine lv_istore_n (lv' := [(2, .int (0 : Int32)), (0, .ref (ad d)), (1, .int a1)]) hx hb dX0_placeOf_1 rfl hl (by decide) rfl (fun ls hl => ?_)
  exact hL_2 64 (0 : Int32) _ _ _ hf hP hS (lv_sub hl [1, 2, 0] rfl)
set_option maxHeartbeats 4000000 in
set_option maxRecDepth 100000 in
theorem c_X0_append (l : Launch) (g : dd_G) (ad : Nat → Nat) (X : va_W) (sz : Nat) (sg : dd_S) (d : Nat) (a1 : Int32) (hd : d < 15) (s0 : dd_S) (hf : f_X0_append sg d a1 = some (s0)) : Met l yX0_append (lw_ws yX0_append cX0_append 2 (none)) ({ frames := 0, cells := 0, slots := 0, locals := 0 } : Room) (va_Pc [.ref (ad d), .int a1] (PreW g (WC g ad sg ++ X) sz)) (QV g (WC g ad s0 ++ X) (dd_A 59 ad X sz)) 0 0 (dd_A 59 ad X sz) := by
  refine Met.ofW (cc := cX0_append) (maxL := 2) (ret := none) (by decide) rfl ?_
  intro p e s m args below meth c s₁ B hml hv
  obtain ⟨rfl, rfl, hP, hK, hD0⟩ := hv
  have hx := B.exec
  have hb := B.bytes
  have hr := B.returns
  have hts := atoms_spec (ws := (lw_ws yX0_append cX0_append 2 (none))) B.pre
  have hts : ∀ w ∈ lw_all, w.before _ s = true := fun w h => hts w (List.mem_cons_of_mem _ h)
  have hown : s.vm.findClass RX0 = some m.cls := findClass_of_methodNamed B.named
  have hlocks := B.notSynchronized
  have hD : ∀ s2 : dd_S, va_D (dd_A 59 ad X s.heap.size) (WC g ad s2 ++ X) := fun s2 => dd_D (dd_A_D hD0)
  have hS : va_S (dd_A 59 ad X s.heap.size) s.heap s.heap [] := va_S.rf
  have hL_39 : ∀ (sg : dd_S) (H : Heap) (locs : List Loc) (ls : Array Slot), f_X0_append_39 d a1 sg = some (s0) → va_P g.1 vwCl (WC g ad sg ++ X) H → va_S (dd_A 59 ad X s.heap.size) s.heap H locs → lv_has ls 2 [] → W p l e (headSpec (lw_ws yX0_append cX0_append 2 (none)) ({ frames := 0, cells := 0, slots := 0, locals := 0 } : Room)).room s m ([.ref (ad d), .int a1] : List Value).toArray below meth c H locs 0 0 (MQ below (QV g (WC g ad s0 ++ X) (dd_A 59 ad X s.heap.size)) ([.ref (ad d), .int a1] : List Value).toArray s 0 0 (dd_A 59 ad X s.heap.size)) (F0 m 39 ls []) := by
    intro sg H locs ls hf hP hS hl
    unfold f_X0_append_39 at hf
    exact W.vret hx hb hr (fun t ht hW => ⟨⟨(), rfl, trivial, P_at2 (so1 hf) ht hP⟩, hS.F ht⟩) hS.2.2 dX0_append_39
  unfold f_X0_append at hf
  have hl := lv_entry ([.ref (ad d), .int a1]) (n := 2) (Nat.le_of_ble_eq_true rfl)
  rw [lg_entry_eq]
  generalize (lg_sl ([.ref (ad d), .int a1]) ++ List.replicate (2 - (lg_sl ([.ref (ad d), .int a1])).length) Slot.unset).toArray = ls at hl ⊢
  have hl : lv_has ls 2 [(0, .ref (ad d)), (1, .int a1)] := hl
  refine lv_aload_n hx hb dX0_append_0 rfl (lv_at hl 0 rfl) ?_
  refine gf_X0_19 hx hb hts hown hK hP hd dX0_append_1 ?_
  refine lv_if_lt (tgt := 39) hx hb dX0_append_4 (by decide) (fun c1 => ?_) (fun c1 => ?_)
  · have hf := if_t c1 hf
    exact hL_39 sg _ _ _ hf hP hS (lv_sub hl [] rfl)
  · have hf := if_f c1 hf
    refine lv_aload_n hx hb dX0_append_7 rfl (lv_at hl 0 rfl) ?_
    refine gf_X0_19 hx hb hts hown hK hP hd dX0_append_8 ?_
    refine lv_aload_n hx hb dX0_append_11 rfl (lv_at hl 0 rfl) ?_
    refine gf_X0_9 hx hb hts hown hK hP hd dX0_append_12 ?_
    refine W_alen (v := (40 : Int32)) hx hb hK hP (15 + d) (by omega) (cc_trips hd) 0 rfl (by decide) dX0_append_15 ?_
    refine lv_icmp_ge (tgt := 39) hx hb dX0_append_16 (by decide) (fun c2 => ?_) (fun c2 => ?_)
    · have hf := if_t c2 hf
      exact hL_39 sg _ _ _ hf hP hS (lv_sub hl [] rfl)
    · have hf := if_f c2 hf
      refine lv_aload_n hx hb dX0_append_19 rfl (lv_at hl 0 rfl) ?_
      refine gf_X0_9 hx hb hts hown hK hP hd dX0_append_20 ?_
      refine lv_aload_n hx hb dX0_append_23 rfl (lv_at hl 0 rfl) ?_
      refine gf_X0_19 hx hb hts hown hK hP hd dX0_append_24 ?_
      refine lv_iload_n hx hb dX0_append_27 rfl (lv_at hl 1 rfl) ?_
      obtain ⟨hi3, hf⟩ := gd_so hf
      obtain ⟨sg4, esg4, hf⟩ := lt_ex hf
      refine W_iast hx hb hK hP hD hS (15 + d) (by omega) (fun _ => (cc_trips hd)) (ix_in hi3) dX0_append_28 (fun H locs hP hS => ?_)
      rw [← esg4] at hP
      refine lv_aload_n hx hb dX0_append_29 rfl (lv_at hl 0 rfl) ?_
      refine lv_dup hx hb dX0_append_30 rfl ?_
      refine gf_X0_19 hx hb hts hown hK hP hd dX0_append_31 ?_
      refine lv_iconst (v := (1 : Int32)) hx hb dX0_append_34 (by decide) ?_
      refine lv_iadd hx hb dX0_append_35 ?_
      obtain ⟨sg5, esg5, hf⟩ := lt_ex hf
      refine pf_X0_19 hx hb hts hown hK hP hD hS hd dX0_append_36 (fun H locs hP hS => ?_)
      rw [← esg5] at hP
      exact hL_39 sg5 _ _ _ hf hP hS (lv_sub hl [] rfl)
set_option maxHeartbeats 4000000 in
set_option maxRecDepth 100000 in
theorem c_X0_insert (l : Launch) (g : dd_G) (ad : Nat → Nat) (X : va_W) (sz : Nat) (sg : dd_S) (d : Nat) (a1 : Int32) (hd : d < 15) (r0 : Int32) (s0 : dd_S) (hf : f_X0_insert sg d a1 = some (r0, s0)) : Met l yX0_insert (lw_ws yX0_insert cX0_insert 7 (some .boolean)) ({ frames := 1, cells := 0, slots := 0, locals := 21 } : Room) (va_Pc [.ref (ad d), .int a1, .ref (ad 31)] (PreW g (WC g ad sg ++ X) sz)) (QI g (WC g ad s0 ++ X) (dd_A 59 ad X sz) r0) 0 0 (dd_A 59 ad X sz) := by
  refine Met.ofW (cc := cX0_insert) (maxL := 7) (ret := some .boolean) (by decide) rfl ?_
  intro p e s m args below meth c s₁ B hml hv
  obtain ⟨rfl, rfl, hP, hK, hD0⟩ := hv
  have hx := B.exec
  have hb := B.bytes
  have hr := B.returns
  have hts := atoms_spec (ws := (lw_ws yX0_insert cX0_insert 7 (some .boolean))) B.pre
  have hts : ∀ w ∈ lw_all, w.before _ s = true := fun w h => hts w (List.mem_cons_of_mem _ h)
  have hown : s.vm.findClass RX0 = some m.cls := findClass_of_methodNamed B.named
  have hlocks := B.notSynchronized
  have hD : ∀ s2 : dd_S, va_D (dd_A 59 ad X s.heap.size) (WC g ad s2 ++ X) := fun s2 => dd_D (dd_A_D hD0)
  have hS : va_S (dd_A 59 ad X s.heap.size) s.heap s.heap [] := va_S.rf
  have hL_86 : ∀ (sg : dd_S) (H : Heap) (locs : List Loc) (ls : Array Slot), f_X0_insert_86 d a1 sg = some (r0, s0) → va_P g.1 vwCl (WC g ad sg ++ X) H → va_S (dd_A 59 ad X s.heap.size) s.heap H locs → lv_has ls 7 [] → W p l e (headSpec (lw_ws yX0_insert cX0_insert 7 (some .boolean)) ({ frames := 1, cells := 0, slots := 0, locals := 21 } : Room)).room s m ([.ref (ad d), .int a1, .ref (ad 31)] : List Value).toArray below meth c H locs 0 0 (MQ below (QI g (WC g ad s0 ++ X) (dd_A 59 ad X s.heap.size) r0) ([.ref (ad d), .int a1, .ref (ad 31)] : List Value).toArray s 0 0 (dd_A 59 ad X s.heap.size)) (F0 m 86 ls []) := by
    intro sg H locs ls hf hP hS hl
    unfold f_X0_insert_86 at hf
    refine lv_iconst (v := (0 : Int32)) hx hb dX0_insert_86 (by decide) ?_
    exact W.zret (v := (0 : Int32)) hx hb hr rfl (fun t ht hW => ⟨⟨(0 : Int32), (), rfl, (so2 hf).1, P_at2 (so2 hf).2 ht hP⟩, hS.F ht⟩) hS.2.2 dX0_insert_87
  have hL_94 : ∀ (n : Nat), ∀ (sg : dd_S) (v4 : Int32) (v6 : Int32) (H : Heap) (locs : List Loc) (ls : Array Slot), f_X0_insert_94 d a1 n sg v4 v6 = some (r0, s0) → va_P g.1 vwCl (WC g ad sg ++ X) H → va_S (dd_A 59 ad X s.heap.size) s.heap H locs → lv_has ls 7 [(0, .ref (ad d)), (1, .int a1), (4, .int v4), (6, .int v6)] → W p l e (headSpec (lw_ws yX0_insert cX0_insert 7 (some .boolean)) ({ frames := 1, cells := 0, slots := 0, locals := 21 } : Room)).room s m ([.ref (ad d), .int a1, .ref (ad 31)] : List Value).toArray below meth c H locs 0 0 (MQ below (QI g (WC g ad s0 ++ X) (dd_A 59 ad X s.heap.size) r0) ([.ref (ad d), .int a1, .ref (ad 31)] : List Value).toArray s 0 0 (dd_A 59 ad X s.heap.size)) (F0 m 94 ls []) := by
    intro n
    induction n with
    | zero =>
      intro sg v4 v6 H locs ls hf
      rw [f_X0_insert_94] at hf
      cases hf
    | succ n ih =>
      intro sg v4 v6 H locs ls hf hP hS hl
      rw [f_X0_insert_94] at hf
      refine lv_iload hx hb dX0_insert_94 (lv_at hl 3 rfl) ?_
      refine lv_iload hx hb dX0_insert_96 (lv_at hl 2 rfl) ?_
      refine lv_icmp_le (tgt := 123) hx hb dX0_insert_98 (by decide) (fun c18 => ?_) (fun c18 => ?_)
      · have hf := if_t c18 hf
        refine lv_aload_n hx hb dX0_insert_123 rfl (lv_at hl 0 rfl) ?_
        refine gf_X0_9 hx hb hts hown hK hP hd dX0_insert_124 ?_
        refine lv_iload hx hb dX0_insert_127 (lv_at hl 2 rfl) ?_
        refine lv_iload_n hx hb dX0_insert_129 rfl (lv_at hl 1 rfl) ?_
        obtain ⟨hi19, hf⟩ := gd_so hf
        obtain ⟨sg20, esg20, hf⟩ := lt_ex hf
        refine W_iast hx hb hK hP hD hS (15 + d) (by omega) (fun _ => (cc_trips hd)) (ix_in hi19) dX0_insert_130 (fun H locs hP hS => ?_)
        rw [← esg20] at hP
        refine lv_aload_n hx hb dX0_insert_131 rfl (lv_at hl 0 rfl) ?_
        refine lv_dup hx hb dX0_insert_132 rfl ?_
        refine gf_X0_19 hx hb hts hown hK hP hd dX0_insert_133 ?_
        refine lv_iconst (v := (1 : Int32)) hx hb dX0_insert_136 (by decide) ?_
        refine lv_iadd hx hb dX0_insert_137 ?_
        obtain ⟨sg21, esg21, hf⟩ := lt_ex hf
        refine pf_X0_19 hx hb hts hown hK hP hD hS hd dX0_insert_138 (fun H locs hP hS => ?_)
        rw [← esg21] at hP
        refine lv_iconst (v := (1 : Int32)) hx hb dX0_insert_141 (by decide) ?_
        exact W.zret (v := (1 : Int32)) hx hb hr rfl (fun t ht hW => ⟨⟨(1 : Int32), (), rfl, (so2 hf).1, P_at2 (so2 hf).2 ht hP⟩, hS.F ht⟩) hS.2.2 dX0_insert_142
      · have hf := if_f c18 hf
        refine lv_aload_n hx hb dX0_insert_101 rfl (lv_at hl 0 rfl) ?_
        refine gf_X0_9 hx hb hts hown hK hP hd dX0_insert_102 ?_
        refine lv_iload hx hb dX0_insert_105 (lv_at hl 3 rfl) ?_
        refine lv_aload_n hx hb dX0_insert_107 rfl (lv_at hl 0 rfl) ?_
        refine gf_X0_9 hx hb hts hown hK hP hd dX0_insert_108 ?_
        refine lv_iload hx hb dX0_insert_111 (lv_at hl 3 rfl) ?_
        refine lv_iconst (v := (1 : Int32)) hx hb dX0_insert_113 (by decide) ?_
        refine lv_isub hx hb dX0_insert_114 ?_
        obtain ⟨hi22, hf⟩ := gd_so hf
        refine W_iald hx hb hK hP (15 + d) (by omega) (cc_trips hd) (ix_in hi22) dX0_insert_115 ?_
        obtain ⟨hi23, hf⟩ := gd_so hf
        obtain ⟨sg24, esg24, hf⟩ := lt_ex hf
        refine W_iast hx hb hK hP hD hS (15 + d) (by omega) (fun _ => (cc_trips hd)) (ix_in hi23) dX0_insert_116 (fun H locs hP hS => ?_)
        rw [← esg24] at hP
        obtain ⟨x25, ex25, hf⟩ := lt_ex hf
        refine lv_iinc (v := x25) (lv' := [(6, .int x25), (0, .ref (ad d)), (1, .int a1), (4, .int v4)]) hx hb dX0_insert_117 hl (k := 3) rfl (by rw [ex25]; rfl) (by decide) rfl (fun ls hl => ?_)
        refine lv_goto (tgt := 94) hx hb dX0_insert_120 (by decide) ?_
        exact ih sg24 v4 x25 _ _ _ hf hP hS (lv_sub hl [1, 2, 3, 0] rfl)
  have hL_67 : ∀ (sg : dd_S) (v4 : Int32) (t0 : Int32) (H : Heap) (locs : List Loc) (ls : Array Slot), f_X0_insert_67 d a1 sg v4 t0 = some (r0, s0) → va_P g.1 vwCl (WC g ad sg ++ X) H → va_S (dd_A 59 ad X s.heap.size) s.heap H locs → lv_has ls 7 [(0, .ref (ad d)), (1, .int a1), (4, .int v4)] → W p l e (headSpec (lw_ws yX0_insert cX0_insert 7 (some .boolean)) ({ frames := 1, cells := 0, slots := 0, locals := 21 } : Room)).room s m ([.ref (ad d), .int a1, .ref (ad 31)] : List Value).toArray below meth c H locs 0 0 (MQ below (QI g (WC g ad s0 ++ X) (dd_A 59 ad X s.heap.size) r0) ([.ref (ad d), .int a1, .ref (ad 31)] : List Value).toArray s 0 0 (dd_A 59 ad X s.heap.size)) (F0 m 67 ls [.int t0]) := by
    intro sg v4 t0 H locs ls hf hP hS hl
    unfold f_X0_insert_67 at hf
    refine lv_istore (lv' := [(5, .int t0), (0, .ref (ad d)), (1, .int a1), (4, .int v4)]) hx hb dX0_insert_67 hl (by decide) rfl (fun ls hl => ?_)
    refine lv_iload hx hb dX0_insert_69 (lv_at hl 0 rfl) ?_
    refine lv_if_ne (tgt := 86) hx hb dX0_insert_71 (by decide) (fun c16 => ?_) (fun c16 => ?_)
    · have hf := if_f c16 hf
      exact hL_86 sg _ _ _ hf hP hS (lv_sub hl [] rfl)
    · have hf := if_t c16 hf
      refine lv_aload_n hx hb dX0_insert_74 rfl (lv_at hl 1 rfl) ?_
      refine gf_X0_19 hx hb hts hown hK hP hd dX0_insert_75 ?_
      refine lv_aload_n hx hb dX0_insert_78 rfl (lv_at hl 1 rfl) ?_
      refine gf_X0_9 hx hb hts hown hK hP hd dX0_insert_79 ?_
      refine W_alen (v := (40 : Int32)) hx hb hK hP (15 + d) (by omega) (cc_trips hd) 0 rfl (by decide) dX0_insert_82 ?_
      refine lv_icmp_lt (tgt := 88) hx hb dX0_insert_83 (by decide) (fun c17 => ?_) (fun c17 => ?_)
      · have hf := if_t c17 hf
        refine lv_aload_n hx hb dX0_insert_88 rfl (lv_at hl 1 rfl) ?_
        refine gf_X0_19 hx hb hts hown hK hP hd dX0_insert_89 ?_
        refine lv_istore (lv' := [(6, .int (sg d 1)), (5, .int t0), (0, .ref (ad d)), (1, .int a1), (4, .int v4)]) hx hb dX0_insert_92 hl (by decide) rfl (fun ls hl => ?_)
        exact hL_94 64 sg v4 (sg d 1) _ _ _ hf hP hS (lv_sub hl [2, 3, 4, 0] rfl)
      · have hf := if_f c17 hf
        exact hL_86 sg _ _ _ hf hP hS (lv_sub hl [] rfl)
  have hL_66 : ∀ (sg : dd_S) (v4 : Int32) (H : Heap) (locs : List Loc) (ls : Array Slot), f_X0_insert_66 d a1 sg v4 = some (r0, s0) → va_P g.1 vwCl (WC g ad sg ++ X) H → va_S (dd_A 59 ad X s.heap.size) s.heap H locs → lv_has ls 7 [(0, .ref (ad d)), (1, .int a1), (4, .int v4)] → W p l e (headSpec (lw_ws yX0_insert cX0_insert 7 (some .boolean)) ({ frames := 1, cells := 0, slots := 0, locals := 21 } : Room)).room s m ([.ref (ad d), .int a1, .ref (ad 31)] : List Value).toArray below meth c H locs 0 0 (MQ below (QI g (WC g ad s0 ++ X) (dd_A 59 ad X s.heap.size) r0) ([.ref (ad d), .int a1, .ref (ad 31)] : List Value).toArray s 0 0 (dd_A 59 ad X s.heap.size)) (F0 m 66 ls []) := by
    intro sg v4 H locs ls hf hP hS hl
    unfold f_X0_insert_66 at hf
    refine lv_iconst (v := (0 : Int32)) hx hb dX0_insert_66 (by decide) ?_
    exact hL_67 sg v4 (0 : Int32) _ _ _ hf hP hS (lv_sub hl [0, 1, 2] rfl)
  have hL_39 : ∀ (sg : dd_S) (v3 : Int32) (v4 : Int32) (H : Heap) (locs : List Loc) (ls : Array Slot), f_X0_insert_39 d a1 sg v3 v4 = some (r0, s0) → va_P g.1 vwCl (WC g ad sg ++ X) H → va_S (dd_A 59 ad X s.heap.size) s.heap H locs → lv_has ls 7 [(0, .ref (ad d)), (1, .int a1), (2, .ref (ad 31)), (3, .int v3), (4, .int v4)] → W p l e (headSpec (lw_ws yX0_insert cX0_insert 7 (some .boolean)) ({ frames := 1, cells := 0, slots := 0, locals := 21 } : Room)).room s m ([.ref (ad d), .int a1, .ref (ad 31)] : List Value).toArray below meth c H locs 0 0 (MQ below (QI g (WC g ad s0 ++ X) (dd_A 59 ad X s.heap.size) r0) ([.ref (ad d), .int a1, .ref (ad 31)] : List Value).toArray s 0 0 (dd_A 59 ad X s.heap.size)) (F0 m 39 ls []) := by
    intro sg v3 v4 H locs ls hf hP hS hl
    unfold f_X0_insert_39 at hf
    refine lv_iload hx hb dX0_insert_39 (lv_at hl 4 rfl) ?_
    refine lv_aload_n hx hb dX0_insert_41 rfl (lv_at hl 0 rfl) ?_
    refine gf_X0_19 hx hb hts hown hK hP hd dX0_insert_42 ?_
    refine lv_icmp_ge (tgt := 66) hx hb dX0_insert_45 (by decide) (fun c10 => ?_) (fun c10 => ?_)
    · have hf := if_t c10 hf
      exact hL_66 sg v4 _ _ _ hf hP hS (lv_sub hl [0, 1, 4] rfl)
    · have hf := if_f c10 hf
      refine lv_aload_n hx hb dX0_insert_48 rfl (lv_at hl 2 rfl) ?_
      refine lv_aload_n hx hb dX0_insert_49 rfl (lv_at hl 0 rfl) ?_
      refine lv_iload hx hb dX0_insert_50 (lv_at hl 4 rfl) ?_
      obtain ⟨r12, q11, hf⟩ := bd_so hf
      refine cl_i (va_runV (As := [.int v4]) (rest := [.ref (ad 31)]) ⟨hx, hb, hml, hown, hts⟩ (c_X0_tripIn l g ad X _ sg d v4 hd r12 q11) (cwV 1 hts gl_X0_23 rfl rfl rfl yd_X0_tripIn ⟨Nat.le_of_ble_eq_true rfl, Nat.le_of_ble_eq_true rfl⟩) (preV_of hK hP (hD sg) (dd_at (Nat.lt_trans hd (by decide)) (cc_duty hd)) rfl) rfl rfl hl.1 rfl (lv_room (Nat.le_of_ble_eq_true rfl)) dX0_insert_52 ⟨Nat.le_of_ble_eq_true rfl, Nat.le_of_ble_eq_true rfl⟩) hS (fun q h => dd_A_mono hS.1 h) (fun q h => dd_A_mono hS.1 h) (fun H locs hP hS => ?_)
      obtain ⟨r14, q13, hf⟩ := bd_so hf
      refine cl_i (va_runV (As := [.int r12]) (rest := []) ⟨hx, hb, hml, hown, hts⟩ (c_X4_departureOf l g ad X _ sg r12 r14 q13) (cwV 1 hts gl_X0_27 rfl rfl rfl yd_X4_departureOf ⟨Nat.le_of_ble_eq_true rfl, Nat.le_of_ble_eq_true rfl⟩) (preV_of hK hP (hD sg) (dd_at (by decide) cc_31) rfl) rfl rfl hl.1 rfl (lv_room (Nat.le_of_ble_eq_true rfl)) dX0_insert_55 ⟨Nat.le_of_ble_eq_true rfl, Nat.le_of_ble_eq_true rfl⟩) hS (fun q h => dd_A_mono hS.1 h) (fun q h => dd_A_mono hS.1 h) (fun H locs hP hS => ?_)
      refine lv_iload_n hx hb dX0_insert_58 rfl (lv_at hl 3 rfl) ?_
      refine lv_icmp_ne (tgt := 66) hx hb dX0_insert_59 (by decide) (fun c15 => ?_) (fun c15 => ?_)
      · have hf := if_f c15 hf
        exact hL_66 sg v4 _ _ _ hf hP hS (lv_sub hl [0, 1, 4] rfl)
      · have hf := if_t c15 hf
        refine lv_iconst (v := (1 : Int32)) hx hb dX0_insert_62 (by decide) ?_
        refine lv_goto (tgt := 67) hx hb dX0_insert_63 (by decide) ?_
        exact hL_67 sg v4 (1 : Int32) _ _ _ hf hP hS (lv_sub hl [0, 1, 4] rfl)
  have hL_12 : ∀ (n : Nat), ∀ (sg : dd_S) (v3 : Int32) (v4 : Int32) (H : Heap) (locs : List Loc) (ls : Array Slot), f_X0_insert_12 d a1 n sg v3 v4 = some (r0, s0) → va_P g.1 vwCl (WC g ad sg ++ X) H → va_S (dd_A 59 ad X s.heap.size) s.heap H locs → lv_has ls 7 [(0, .ref (ad d)), (1, .int a1), (2, .ref (ad 31)), (3, .int v3), (4, .int v4)] → W p l e (headSpec (lw_ws yX0_insert cX0_insert 7 (some .boolean)) ({ frames := 1, cells := 0, slots := 0, locals := 21 } : Room)).room s m ([.ref (ad d), .int a1, .ref (ad 31)] : List Value).toArray below meth c H locs 0 0 (MQ below (QI g (WC g ad s0 ++ X) (dd_A 59 ad X s.heap.size) r0) ([.ref (ad d), .int a1, .ref (ad 31)] : List Value).toArray s 0 0 (dd_A 59 ad X s.heap.size)) (F0 m 12 ls []) := by
    intro n
    induction n with
    | zero =>
      intro sg v3 v4 H locs ls hf
      rw [f_X0_insert_12] at hf
      cases hf
    | succ n ih =>
      intro sg v3 v4 H locs ls hf hP hS hl
      rw [f_X0_insert_12] at hf
      refine lv_iload hx hb dX0_insert_12 (lv_at hl 4 rfl) ?_
      refine lv_if_le (tgt := 39) hx hb dX0_insert_14 (by decide) (fun c3 => ?_) (fun c3 => ?_)
      · have hf := if_t c3 hf
        exact hL_39 sg v3 v4 _ _ _ hf hP hS (lv_sub hl [0, 1, 2, 3, 4] rfl)
      · have hf := if_f c3 hf
        refine lv_aload_n hx hb dX0_insert_17 rfl (lv_at hl 2 rfl) ?_
        refine lv_aload_n hx hb dX0_insert_18 rfl (lv_at hl 0 rfl) ?_
        refine lv_iload hx hb dX0_insert_19 (lv_at hl 4 rfl) ?_
        refine lv_iconst (v := (1 : Int32)) hx hb dX0_insert_21 (by decide) ?_
        refine lv_isub hx hb dX0_insert_22 ?_
        obtain ⟨r5, q4, hf⟩ := bd_so hf
        refine cl_i (va_runV (As := [.int (v4 - (1 : Int32))]) (rest := [.ref (ad 31)]) ⟨hx, hb, hml, hown, hts⟩ (c_X0_tripIn l g ad X _ sg d (v4 - (1 : Int32)) hd r5 q4) (cwV 1 hts gl_X0_23 rfl rfl rfl yd_X0_tripIn ⟨Nat.le_of_ble_eq_true rfl, Nat.le_of_ble_eq_true rfl⟩) (preV_of hK hP (hD sg) (dd_at (Nat.lt_trans hd (by decide)) (cc_duty hd)) rfl) rfl rfl hl.1 rfl (lv_room (Nat.le_of_ble_eq_true rfl)) dX0_insert_23 ⟨Nat.le_of_ble_eq_true rfl, Nat.le_of_ble_eq_true rfl⟩) hS (fun q h => dd_A_mono hS.1 h) (fun q h => dd_A_mono hS.1 h) (fun H locs hP hS => ?_)
        obtain ⟨r7, q6, hf⟩ := bd_so hf
        refine cl_i (va_runV (As := [.int r5]) (rest := []) ⟨hx, hb, hml, hown, hts⟩ (c_X4_departureOf l g ad X _ sg r5 r7 q6) (cwV 1 hts gl_X0_27 rfl rfl rfl yd_X4_departureOf ⟨Nat.le_of_ble_eq_true rfl, Nat.le_of_ble_eq_true rfl⟩) (preV_of hK hP (hD sg) (dd_at (by decide) cc_31) rfl) rfl rfl hl.1 rfl (lv_room (Nat.le_of_ble_eq_true rfl)) dX0_insert_26 ⟨Nat.le_of_ble_eq_true rfl, Nat.le_of_ble_eq_true rfl⟩) hS (fun q h => dd_A_mono hS.1 h) (fun q h => dd_A_mono hS.1 h) (fun H locs hP hS => ?_)
        refine lv_iload_n hx hb dX0_insert_29 rfl (lv_at hl 3 rfl) ?_
        refine lv_icmp_lt (tgt := 39) hx hb dX0_insert_30 (by decide) (fun c8 => ?_) (fun c8 => ?_)
        · have hf := if_t c8 hf
          exact hL_39 sg v3 v4 _ _ _ hf hP hS (lv_sub hl [0, 1, 2, 3, 4] rfl)
        · have hf := if_f c8 hf
          obtain ⟨x9, ex9, hf⟩ := lt_ex hf
          refine lv_iinc (v := x9) (lv' := [(4, .int x9), (0, .ref (ad d)), (1, .int a1), (2, .ref (ad 31)), (3, .int v3)]) hx hb dX0_insert_33 hl (k := 4) rfl (by rw [ex9]; rfl) (by decide) rfl (fun ls hl => ?_)
          refine lv_goto (tgt := 12) hx hb dX0_insert_36 (by decide) ?_
          exact ih sg v3 x9 _ _ _ hf hP hS (lv_sub hl [1, 2, 3, 4, 0] rfl)
  unfold f_X0_insert at hf
  have hl := lv_entry ([.ref (ad d), .int a1, .ref (ad 31)]) (n := 7) (Nat.le_of_ble_eq_true rfl)
  rw [lg_entry_eq]
  generalize (lg_sl ([.ref (ad d), .int a1, .ref (ad 31)]) ++ List.replicate (7 - (lg_sl ([.ref (ad d), .int a1, .ref (ad 31)])).length) Slot.unset).toArray = ls at hl ⊢
  have hl : lv_has ls 7 [(0, .ref (ad d)), (1, .int a1), (2, .ref (ad 31))] := hl
  refine lv_aload_n hx hb dX0_insert_0 rfl (lv_at hl 2 rfl) ?_
  refine lv_iload_n hx hb dX0_insert_1 rfl (lv_at hl 1 rfl) ?_
  obtain ⟨r2, q1, hf⟩ := bd_so hf
  refine cl_i (va_runV (As := [.int a1]) (rest := []) ⟨hx, hb, hml, hown, hts⟩ (c_X4_departureOf l g ad X _ sg a1 r2 q1) (cwV 1 hts gl_X0_27 rfl rfl rfl yd_X4_departureOf ⟨Nat.le_of_ble_eq_true rfl, Nat.le_of_ble_eq_true rfl⟩) (preV_of hK hP (hD sg) (dd_at (by decide) cc_31) rfl) rfl rfl hl.1 rfl (lv_room (Nat.le_of_ble_eq_true rfl)) dX0_insert_2 ⟨Nat.le_of_ble_eq_true rfl, Nat.le_of_ble_eq_true rfl⟩) hS (fun q h => dd_A_mono hS.1 h) (fun q h => dd_A_mono hS.1 h) (fun H locs hP hS => ?_)
  refine lv_istore_n (lv' := [(3, .int r2), (0, .ref (ad d)), (1, .int a1), (2, .ref (ad 31))]) hx hb dX0_insert_5 rfl hl (by decide) rfl (fun ls hl => ?_)
  refine lv_aload_n hx hb dX0_insert_6 rfl (lv_at hl 1 rfl) ?_
  refine gf_X0_19 hx hb hts hown hK hP hd dX0_insert_7 ?_
  refine lv_istore (lv' := [(4, .int (sg d 1)), (3, .int r2), (0, .ref (ad d)), (1, .int a1), (2, .ref (ad 31))]) hx hb dX0_insert_10 hl (by decide) rfl (fun ls hl => ?_)
  exact hL_12 64 sg r2 (sg d 1) _ _ _ hf hP hS (lv_sub hl [2, 3, 4, 1, 0] rfl)
end
