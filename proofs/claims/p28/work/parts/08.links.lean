theorem qw_0 : Cond.fieldLink RX4 23 (TX4 3).1 (TX4 3).2.1 (TX4 3).2.2.1 ∈ lw_all := lw_in 69 (by decide +kernel) rfl
theorem qw_1 : Cond.fieldLink RX4 16 (TX4 1).1 (TX4 1).2.1 (TX4 1).2.2.1 ∈ lw_all := lw_in 67 (by decide +kernel) rfl
theorem qw_2 : Cond.fieldLink RX4 20 (TX4 2).1 (TX4 2).2.1 (TX4 2).2.2.1 ∈ lw_all := lw_in 68 (by decide +kernel) rfl
theorem qw_3 : Cond.fieldLink RX4 26 (TX4 4).1 (TX4 4).2.1 (TX4 4).2.2.1 ∈ lw_all := lw_in 70 (by decide +kernel) rfl
theorem qw_4 : Cond.fieldLink RX4 11 (TX4 0).1 (TX4 0).2.1 (TX4 0).2.2.1 ∈ lw_all := lw_in 66 (by decide +kernel) rfl
theorem qw_5 : Cond.fieldLink RX0 9 (TX0 0).1 (TX0 0).2.1 (TX0 0).2.2.1 ∈ lw_all := lw_in 118 (by decide +kernel) rfl
theorem qw_6 : Cond.fieldLink RX0 19 (TX0 1).1 (TX0 1).2.1 (TX0 1).2.2.1 ∈ lw_all := lw_in 119 (by decide +kernel) rfl
theorem qw_7 : Cond.methodLink RX0 27 yX4_departureOf ∈ lw_all := lw_in 419 (by decide +kernel) rfl
theorem qw_8 : Cond.instanceMethod yX4_departureOf ∈ lw_all := lw_in 320 (by decide +kernel) rfl
theorem qw_9 : Cond.selects RX4 yX4_departureOf yX4_departureOf ∈ lw_all := lw_in 321 (by decide +kernel) rfl
theorem qw_10 : Cond.initialized RX4 ∈ lw_all := lw_in 39 (by decide +kernel) rfl
theorem qw_11 : Cond.code yX4_departureOf cX4_departureOf 2 (some .int) ∈ lw_all := lw_in 322 (by decide +kernel) rfl
theorem qw_12 : Cond.methodLink RX0 23 yX0_tripIn ∈ lw_all := lw_in 410 (by decide +kernel) rfl
theorem qw_13 : Cond.instanceMethod yX0_tripIn ∈ lw_all := lw_in 375 (by decide +kernel) rfl
theorem qw_14 : Cond.selects RX0 yX0_tripIn yX0_tripIn ∈ lw_all := lw_in 376 (by decide +kernel) rfl
theorem qw_15 : Cond.initialized RX0 ∈ lw_all := lw_in 41 (by decide +kernel) rfl
theorem qw_16 : Cond.code yX0_tripIn cX0_tripIn 2 (some .int) ∈ lw_all := lw_in 377 (by decide +kernel) rfl
theorem qw_17 : Cond.fieldLink RX0 36 (TX0 2).1 (TX0 2).2.1 (TX0 2).2.2.1 ∈ lw_all := lw_in 121 (by decide +kernel) rfl
theorem qw_18 : Cond.fieldLink RX0 39 (TX0 3).1 (TX0 3).2.1 (TX0 3).2.2.1 ∈ lw_all := lw_in 123 (by decide +kernel) rfl
theorem qw_19 : Cond.fieldLink RX0 42 (TX0 4).1 (TX0 4).2.1 (TX0 4).2.2.1 ∈ lw_all := lw_in 125 (by decide +kernel) rfl
theorem qw_20 : Cond.fieldLink RX0 45 (TX0 5).1 (TX0 5).2.1 (TX0 5).2.2.1 ∈ lw_all := lw_in 127 (by decide +kernel) rfl
theorem qw_21 : Cond.fieldLink RX0 48 (TX0 6).1 (TX0 6).2.1 (TX0 6).2.2.1 ∈ lw_all := lw_in 129 (by decide +kernel) rfl
theorem qw_22 : Cond.fieldLink RX0 51 (TX0 7).1 (TX0 7).2.1 (TX0 7).2.2.1 ∈ lw_all := lw_in 131 (by decide +kernel) rfl
theorem qw_23 : Cond.fieldLink RX0 15 (TX0 8).1 (TX0 8).2.1 (TX0 8).2.2.1 ∈ lw_all := lw_in 133 (by decide +kernel) rfl
theorem qw_24 : Cond.methodLink RX0 32 yX0_append ∈ lw_all := lw_in 411 (by decide +kernel) rfl
theorem qw_25 : Cond.instanceMethod yX0_append ∈ lw_all := lw_in 413 (by decide +kernel) rfl
theorem qw_26 : Cond.selects RX0 yX0_append yX0_append ∈ lw_all := lw_in 14 (by decide +kernel) rfl
theorem qw_27 : Cond.code yX0_append cX0_append 2 (none) ∈ lw_all := lw_in 414 (by decide +kernel) rfl
theorem qw_28 : Cond.methodLink RX0 73 yX4_fromOf ∈ lw_all := lw_in 428 (by decide +kernel) rfl
theorem qw_29 : Cond.instanceMethod yX4_fromOf ∈ lw_all := lw_in 312 (by decide +kernel) rfl
theorem qw_30 : Cond.selects RX4 yX4_fromOf yX4_fromOf ∈ lw_all := lw_in 313 (by decide +kernel) rfl
theorem qw_31 : Cond.code yX4_fromOf cX4_fromOf 2 (some .int) ∈ lw_all := lw_in 314 (by decide +kernel) rfl
theorem qw_32 : Cond.methodLink RX0 76 yX4_wayFrom ∈ lw_all := lw_in 429 (by decide +kernel) rfl
theorem qw_33 : Cond.instanceMethod yX4_wayFrom ∈ lw_all := lw_in 430 (by decide +kernel) rfl
theorem qw_34 : Cond.selects RX4 yX4_wayFrom yX4_wayFrom ∈ lw_all := lw_in 431 (by decide +kernel) rfl
theorem qw_35 : Cond.code yX4_wayFrom cX4_wayFrom 3 (some .int) ∈ lw_all := lw_in 432 (by decide +kernel) rfl
theorem qw_36 : Cond.methodLink RX0 80 yX4_toOf ∈ lw_all := lw_in 433 (by decide +kernel) rfl
theorem qw_37 : Cond.instanceMethod yX4_toOf ∈ lw_all := lw_in 316 (by decide +kernel) rfl
theorem qw_38 : Cond.selects RX4 yX4_toOf yX4_toOf ∈ lw_all := lw_in 317 (by decide +kernel) rfl
theorem qw_39 : Cond.code yX4_toOf cX4_toOf 2 (some .int) ∈ lw_all := lw_in 318 (by decide +kernel) rfl
theorem qw_40 : Cond.methodLink RX0 83 yX4_arrivalOf ∈ lw_all := lw_in 434 (by decide +kernel) rfl
theorem qw_41 : Cond.instanceMethod yX4_arrivalOf ∈ lw_all := lw_in 324 (by decide +kernel) rfl
theorem qw_42 : Cond.selects RX4 yX4_arrivalOf yX4_arrivalOf ∈ lw_all := lw_in 325 (by decide +kernel) rfl
theorem qw_43 : Cond.code yX4_arrivalOf cX4_arrivalOf 2 (some .int) ∈ lw_all := lw_in 326 (by decide +kernel) rfl
theorem qw_44 : Cond.methodLink RX0 86 yX4_minutesOf ∈ lw_all := lw_in 439 (by decide +kernel) rfl
theorem qw_45 : Cond.instanceMethod yX4_minutesOf ∈ lw_all := lw_in 440 (by decide +kernel) rfl
theorem qw_46 : Cond.selects RX4 yX4_minutesOf yX4_minutesOf ∈ lw_all := lw_in 441 (by decide +kernel) rfl
theorem qw_47 : Cond.code yX4_minutesOf cX4_minutesOf 2 (some .int) ∈ lw_all := lw_in 442 (by decide +kernel) rfl
theorem qw_48 : Cond.methodLink RX0 92 yX0_endStretch ∈ lw_all := lw_in 443 (by decide +kernel) rfl
theorem qw_49 : Cond.instanceMethod yX0_endStretch ∈ lw_all := lw_in 445 (by decide +kernel) rfl
theorem qw_50 : Cond.selects RX0 yX0_endStretch yX0_endStretch ∈ lw_all := lw_in 17 (by decide +kernel) rfl
theorem qw_51 : Cond.code yX0_endStretch cX0_endStretch 2 (none) ∈ lw_all := lw_in 446 (by decide +kernel) rfl
theorem qw_52 : Cond.fieldLink RX0 89 (TX3 2).1 (TX3 2).2.1 (TX3 2).2.2.1 ∈ lw_all := lw_in 98 (by decide +kernel) rfl
theorem qw_53 : Cond.methodLink RX0 54 yX0_measureSpread ∈ lw_all := lw_in 424 (by decide +kernel) rfl
theorem qw_54 : Cond.instanceMethod yX0_measureSpread ∈ lw_all := lw_in 426 (by decide +kernel) rfl
theorem qw_55 : Cond.selects RX0 yX0_measureSpread yX0_measureSpread ∈ lw_all := lw_in 15 (by decide +kernel) rfl
theorem qw_56 : Cond.code yX0_measureSpread cX0_measureSpread 6 (none) ∈ lw_all := lw_in 427 (by decide +kernel) rfl
theorem qw_57 : Cond.methodLink RX0 58 yX0_measureStretches ∈ lw_all := lw_in 435 (by decide +kernel) rfl
theorem qw_58 : Cond.instanceMethod yX0_measureStretches ∈ lw_all := lw_in 437 (by decide +kernel) rfl
theorem qw_59 : Cond.selects RX0 yX0_measureStretches yX0_measureStretches ∈ lw_all := lw_in 16 (by decide +kernel) rfl
theorem qw_60 : Cond.code yX0_measureStretches cX0_measureStretches 9 (none) ∈ lw_all := lw_in 438 (by decide +kernel) rfl
theorem qw_61 : Cond.methodLink RX0 62 yX0_payFor ∈ lw_all := lw_in 447 (by decide +kernel) rfl
theorem qw_62 : Cond.static yX0_payFor ∈ lw_all := lw_in 448 (by decide +kernel) rfl
theorem qw_63 : Cond.code yX0_payFor cX0_payFor 2 (some .int) ∈ lw_all := lw_in 449 (by decide +kernel) rfl
theorem qw_64 : Cond.fieldLink RX0 65 (TX3 0).1 (TX3 0).2.1 (TX3 0).2.2.1 ∈ lw_all := lw_in 94 (by decide +kernel) rfl
theorem qw_65 : Cond.fieldLink RX0 70 (TX3 1).1 (TX3 1).2.1 (TX3 1).2.2.1 ∈ lw_all := lw_in 96 (by decide +kernel) rfl
theorem qw_66 : Cond.fieldLink RX1 9 (TX1 0).1 (TX1 0).2.1 (TX1 0).2.2.1 ∈ lw_all := lw_in 177 (by decide +kernel) rfl
theorem qw_67 : Cond.fieldLink RX1 15 (TX1 1).1 (TX1 1).2.1 (TX1 1).2.2.1 ∈ lw_all := lw_in 179 (by decide +kernel) rfl
theorem qw_68 : Cond.fieldLink RX1 18 (TX1 2).1 (TX1 2).2.1 (TX1 2).2.2.1 ∈ lw_all := lw_in 181 (by decide +kernel) rfl
theorem qw_69 : Cond.fieldLink RX1 21 (TX1 3).1 (TX1 3).2.1 (TX1 3).2.2.1 ∈ lw_all := lw_in 183 (by decide +kernel) rfl
theorem qw_70 : Cond.fieldLink RX2 18 (TX2 2).1 (TX2 2).2.1 (TX2 2).2.2.1 ∈ lw_all := lw_in 162 (by decide +kernel) rfl
theorem qw_71 : Cond.fieldLink RX2 15 (TX2 1).1 (TX2 1).2.1 (TX2 1).2.2.1 ∈ lw_all := lw_in 161 (by decide +kernel) rfl
theorem qw_72 : Cond.fieldLink RX2 9 (TX2 0).1 (TX2 0).2.1 (TX2 0).2.2.1 ∈ lw_all := lw_in 160 (by decide +kernel) rfl
theorem qw_73 : Cond.fieldLink RX4 29 (TX4 5).1 (TX4 5).2.1 (TX4 5).2.2.1 ∈ lw_all := lw_in 72 (by decide +kernel) rfl
theorem qw_74 : Cond.fieldLink RX5 10 (TX5 0).1 (TX5 0).2.1 (TX5 0).2.2.1 ∈ lw_all := lw_in 194 (by decide +kernel) rfl
theorem qw_75 : Cond.fieldLinkNest RX5 96 (TX4 5).1 (TX4 5).2.1 (TX4 5).2.2.1 "DutyDesk" ∈ lw_nest := nw_in 34 (by decide +kernel) rfl
theorem qw_76 : Cond.fieldLink RX5 137 (TX5 5).1 (TX5 5).2.1 (TX5 5).2.2.1 ∈ lw_all := lw_in 199 (by decide +kernel) rfl
theorem qw_77 : Cond.fieldLink RX5 140 (TX5 6).1 (TX5 6).2.1 (TX5 6).2.2.1 ∈ lw_all := lw_in 200 (by decide +kernel) rfl
theorem qw_78 : Cond.fieldLink RX5 25 (TX5 2).1 (TX5 2).2.1 (TX5 2).2.2.1 ∈ lw_all := lw_in 196 (by decide +kernel) rfl
theorem qw_79 : Cond.fieldLink RX5 60 (TX5 11).1 (TX5 11).2.1 (TX5 11).2.2.1 ∈ lw_all := lw_in 205 (by decide +kernel) rfl
theorem qw_80 : Cond.fieldLink RX5 29 (TX5 3).1 (TX5 3).2.1 (TX5 3).2.2.1 ∈ lw_all := lw_in 197 (by decide +kernel) rfl
theorem qw_81 : Cond.methodLink RX5 318 yX4_fromOf ∈ lw_all := lw_in 311 (by decide +kernel) rfl
theorem qw_82 : Cond.methodLink RX5 321 yX4_toOf ∈ lw_all := lw_in 315 (by decide +kernel) rfl
theorem qw_83 : Cond.methodLink RX5 209 yX4_departureOf ∈ lw_all := lw_in 319 (by decide +kernel) rfl
theorem qw_84 : Cond.methodLink RX5 324 yX4_arrivalOf ∈ lw_all := lw_in 323 (by decide +kernel) rfl
theorem qw_85 : Cond.methodLink RX5 174 yX5_dutyOf ∈ lw_all := lw_in 327 (by decide +kernel) rfl
theorem qw_86 : Cond.instanceMethod yX5_dutyOf ∈ lw_all := lw_in 329 (by decide +kernel) rfl
theorem qw_87 : Cond.selects RX5 yX5_dutyOf yX5_dutyOf ∈ lw_all := lw_in 3 (by decide +kernel) rfl
theorem qw_88 : Cond.initialized RX5 ∈ lw_all := lw_in 38 (by decide +kernel) rfl
theorem qw_89 : Cond.code yX5_dutyOf cX5_dutyOf 2 (some .int) ∈ lw_all := lw_in 330 (by decide +kernel) rfl
theorem qw_90 : Cond.fieldLink RX5 35 (TX5 4).1 (TX5 4).2.1 (TX5 4).2.2.1 ∈ lw_all := lw_in 198 (by decide +kernel) rfl
theorem qw_91 : Cond.methodLink RX5 288 yX5_dutyOn ∈ lw_all := lw_in 365 (by decide +kernel) rfl
theorem qw_92 : Cond.instanceMethod yX5_dutyOn ∈ lw_all := lw_in 367 (by decide +kernel) rfl
theorem qw_93 : Cond.selects RX5 yX5_dutyOn yX5_dutyOn ∈ lw_all := lw_in 10 (by decide +kernel) rfl
theorem qw_94 : Cond.code yX5_dutyOn cX5_dutyOn 3 (some .int) ∈ lw_all := lw_in 368 (by decide +kernel) rfl
theorem qw_95 : Cond.methodLink RX5 365 yX5_isHadOn ∈ lw_all := lw_in 361 (by decide +kernel) rfl
theorem qw_96 : Cond.instanceMethod yX5_isHadOn ∈ lw_all := lw_in 363 (by decide +kernel) rfl
theorem qw_97 : Cond.selects RX5 yX5_isHadOn yX5_isHadOn ∈ lw_all := lw_in 9 (by decide +kernel) rfl
theorem qw_98 : Cond.code yX5_isHadOn cX5_isHadOn 4 (some .boolean) ∈ lw_all := lw_in 364 (by decide +kernel) rfl
theorem qw_99 : Cond.methodLink RX5 164 yX5_dutyAt ∈ lw_all := lw_in 353 (by decide +kernel) rfl
theorem qw_100 : Cond.instanceMethod yX5_dutyAt ∈ lw_all := lw_in 355 (by decide +kernel) rfl
theorem qw_101 : Cond.selects RX5 yX5_dutyAt yX5_dutyAt ∈ lw_all := lw_in 7 (by decide +kernel) rfl
theorem qw_102 : Cond.code yX5_dutyAt cX5_dutyAt 3 (some (.object "DutyDesk$Duty")) ∈ lw_all := lw_in 356 (by decide +kernel) rfl
theorem qw_103 : Cond.fieldLinkNest RX5 197 (TX0 1).1 (TX0 1).2.1 (TX0 1).2.2.1 "DutyDesk" ∈ lw_nest := nw_in 83 (by decide +kernel) rfl
theorem qw_104 : Cond.fieldLinkNest RX5 298 (TX0 2).1 (TX0 2).2.1 (TX0 2).2.2.1 "DutyDesk" ∈ lw_nest := nw_in 85 (by decide +kernel) rfl
theorem qw_105 : Cond.fieldLinkNest RX5 327 (TX0 3).1 (TX0 3).2.1 (TX0 3).2.2.1 "DutyDesk" ∈ lw_nest := nw_in 87 (by decide +kernel) rfl
theorem qw_106 : Cond.fieldLinkNest RX5 261 (TX0 4).1 (TX0 4).2.1 (TX0 4).2.2.1 "DutyDesk" ∈ lw_nest := nw_in 89 (by decide +kernel) rfl
theorem qw_107 : Cond.fieldLinkNest RX5 255 (TX0 5).1 (TX0 5).2.1 (TX0 5).2.2.1 "DutyDesk" ∈ lw_nest := nw_in 91 (by decide +kernel) rfl
theorem qw_108 : Cond.fieldLinkNest RX5 330 (TX0 6).1 (TX0 6).2.1 (TX0 6).2.2.1 "DutyDesk" ∈ lw_nest := nw_in 93 (by decide +kernel) rfl
theorem qw_109 : Cond.fieldLinkNest RX5 333 (TX0 7).1 (TX0 7).2.1 (TX0 7).2.2.1 "DutyDesk" ∈ lw_nest := nw_in 95 (by decide +kernel) rfl
theorem qw_110 : Cond.fieldLinkNest RX5 336 (TX0 8).1 (TX0 8).2.1 (TX0 8).2.2.1 "DutyDesk" ∈ lw_nest := nw_in 97 (by decide +kernel) rfl
theorem qw_111 : Cond.methodLink RX5 177 yX5_isFixed ∈ lw_all := lw_in 357 (by decide +kernel) rfl
theorem qw_112 : Cond.instanceMethod yX5_isFixed ∈ lw_all := lw_in 359 (by decide +kernel) rfl
theorem qw_113 : Cond.selects RX5 yX5_isFixed yX5_isFixed ∈ lw_all := lw_in 8 (by decide +kernel) rfl
theorem qw_114 : Cond.code yX5_isFixed cX5_isFixed 3 (some .boolean) ∈ lw_all := lw_in 360 (by decide +kernel) rfl
theorem qw_115 : Cond.fieldLink RX5 39 (TX5 7).1 (TX5 7).2.1 (TX5 7).2.2.1 ∈ lw_all := lw_in 201 (by decide +kernel) rfl
theorem qw_116 : Cond.methodLink RX5 185 yX0_copy ∈ lw_all := lw_in 406 (by decide +kernel) rfl
theorem qw_117 : Cond.instanceMethod yX0_copy ∈ lw_all := lw_in 407 (by decide +kernel) rfl
theorem qw_118 : Cond.selects RX0 yX0_copy yX0_copy ∈ lw_all := lw_in 408 (by decide +kernel) rfl
theorem qw_119 : Cond.code yX0_copy cX0_copy 3 (none) ∈ lw_all := lw_in 409 (by decide +kernel) rfl
theorem qw_120 : Cond.methodLink RX5 344 yX0_insert ∈ lw_all := lw_in 415 (by decide +kernel) rfl
theorem qw_121 : Cond.instanceMethod yX0_insert ∈ lw_all := lw_in 416 (by decide +kernel) rfl
theorem qw_122 : Cond.selects RX0 yX0_insert yX0_insert ∈ lw_all := lw_in 417 (by decide +kernel) rfl
theorem qw_123 : Cond.code yX0_insert cX0_insert 7 (some .boolean) ∈ lw_all := lw_in 418 (by decide +kernel) rfl
theorem qw_124 : Cond.fieldLink RX5 19 (TX5 1).1 (TX5 1).2.1 (TX5 1).2.2.1 ∈ lw_all := lw_in 195 (by decide +kernel) rfl
theorem qw_125 : Cond.methodLink RX5 340 yX0_measure ∈ lw_all := lw_in 420 (by decide +kernel) rfl
theorem qw_126 : Cond.instanceMethod yX0_measure ∈ lw_all := lw_in 421 (by decide +kernel) rfl
theorem qw_127 : Cond.selects RX0 yX0_measure yX0_measure ∈ lw_all := lw_in 422 (by decide +kernel) rfl
theorem qw_128 : Cond.code yX0_measure cX0_measure 3 (none) ∈ lw_all := lw_in 423 (by decide +kernel) rfl
theorem qw_129 : Cond.methodLink RX5 189 yX5_assign ∈ lw_all := lw_in 454 (by decide +kernel) rfl
theorem qw_130 : Cond.instanceMethod yX5_assign ∈ lw_all := lw_in 456 (by decide +kernel) rfl
theorem qw_131 : Cond.selects RX5 yX5_assign yX5_assign ∈ lw_all := lw_in 19 (by decide +kernel) rfl
theorem qw_132 : Cond.code yX5_assign cX5_assign 3 (none) ∈ lw_all := lw_in 457 (by decide +kernel) rfl
theorem qw_133 : Cond.methodLink RX5 155 yX5_tryPut ∈ lw_all := lw_in 402 (by decide +kernel) rfl
theorem qw_134 : Cond.instanceMethod yX5_tryPut ∈ lw_all := lw_in 404 (by decide +kernel) rfl
theorem qw_135 : Cond.selects RX5 yX5_tryPut yX5_tryPut ∈ lw_all := lw_in 13 (by decide +kernel) rfl
theorem qw_136 : Cond.code yX5_tryPut cX5_tryPut 3 (some .boolean) ∈ lw_all := lw_in 405 (by decide +kernel) rfl
theorem qw_137 : Cond.methodLink RX5 203 yX5_cheapestDuty ∈ lw_all := lw_in 398 (by decide +kernel) rfl
theorem qw_138 : Cond.instanceMethod yX5_cheapestDuty ∈ lw_all := lw_in 400 (by decide +kernel) rfl
theorem qw_139 : Cond.selects RX5 yX5_cheapestDuty yX5_cheapestDuty ∈ lw_all := lw_in 12 (by decide +kernel) rfl
theorem qw_140 : Cond.code yX5_cheapestDuty cX5_cheapestDuty 6 (some .int) ∈ lw_all := lw_in 401 (by decide +kernel) rfl
theorem qw_141 : Cond.methodLink RX5 160 yX5_keepPut ∈ lw_all := lw_in 450 (by decide +kernel) rfl
theorem qw_142 : Cond.instanceMethod yX5_keepPut ∈ lw_all := lw_in 452 (by decide +kernel) rfl
theorem qw_143 : Cond.selects RX5 yX5_keepPut yX5_keepPut ∈ lw_all := lw_in 18 (by decide +kernel) rfl
theorem qw_144 : Cond.code yX5_keepPut cX5_keepPut 3 (none) ∈ lw_all := lw_in 453 (by decide +kernel) rfl
theorem qw_145 : Cond.methodLink RX5 351 yX0_join ∈ lw_all := lw_in 478 (by decide +kernel) rfl
theorem qw_146 : Cond.instanceMethod yX0_join ∈ lw_all := lw_in 479 (by decide +kernel) rfl
theorem qw_147 : Cond.selects RX0 yX0_join yX0_join ∈ lw_all := lw_in 480 (by decide +kernel) rfl
theorem qw_148 : Cond.code yX0_join cX0_join 6 (none) ∈ lw_all := lw_in 481 (by decide +kernel) rfl
theorem qw_149 : Cond.fieldLink RX5 43 (TX5 8).1 (TX5 8).2.1 (TX5 8).2.2.1 ∈ lw_all := lw_in 202 (by decide +kernel) rfl
theorem qw_150 : Cond.methodLink RX5 200 yX0_tripIn ∈ lw_all := lw_in 374 (by decide +kernel) rfl
theorem qw_151 : Cond.methodLink RX5 355 yX5_assignTripsOf ∈ lw_all := lw_in 494 (by decide +kernel) rfl
theorem qw_152 : Cond.instanceMethod yX5_assignTripsOf ∈ lw_all := lw_in 496 (by decide +kernel) rfl
theorem qw_153 : Cond.selects RX5 yX5_assignTripsOf yX5_assignTripsOf ∈ lw_all := lw_in 25 (by decide +kernel) rfl
theorem qw_154 : Cond.code yX5_assignTripsOf cX5_assignTripsOf 4 (none) ∈ lw_all := lw_in 497 (by decide +kernel) rfl
theorem qw_155 : Cond.methodLink RX5 227 yX5_tryExchange ∈ lw_all := lw_in 474 (by decide +kernel) rfl
theorem qw_156 : Cond.instanceMethod yX5_tryExchange ∈ lw_all := lw_in 476 (by decide +kernel) rfl
theorem qw_157 : Cond.selects RX5 yX5_tryExchange yX5_tryExchange ∈ lw_all := lw_in 22 (by decide +kernel) rfl
theorem qw_158 : Cond.code yX5_tryExchange cX5_tryExchange 4 (some .boolean) ∈ lw_all := lw_in 477 (by decide +kernel) rfl
theorem qw_159 : Cond.fieldLink RX5 56 (TX5 10).1 (TX5 10).2.1 (TX5 10).2.2.1 ∈ lw_all := lw_in 204 (by decide +kernel) rfl
theorem qw_160 : Cond.methodLink RX5 233 yX5_changeOfPay ∈ lw_all := lw_in 482 (by decide +kernel) rfl
theorem qw_161 : Cond.instanceMethod yX5_changeOfPay ∈ lw_all := lw_in 484 (by decide +kernel) rfl
theorem qw_162 : Cond.selects RX5 yX5_changeOfPay yX5_changeOfPay ∈ lw_all := lw_in 23 (by decide +kernel) rfl
theorem qw_163 : Cond.code yX5_changeOfPay cX5_changeOfPay 3 (some .int) ∈ lw_all := lw_in 485 (by decide +kernel) rfl
theorem qw_164 : Cond.methodLink RX5 361 yX1_offer ∈ lw_all := lw_in 486 (by decide +kernel) rfl
theorem qw_165 : Cond.instanceMethod yX1_offer ∈ lw_all := lw_in 487 (by decide +kernel) rfl
theorem qw_166 : Cond.selects RX1 yX1_offer yX1_offer ∈ lw_all := lw_in 488 (by decide +kernel) rfl
theorem qw_167 : Cond.initialized RX1 ∈ lw_all := lw_in 43 (by decide +kernel) rfl
theorem qw_168 : Cond.code yX1_offer cX1_offer 6 (none) ∈ lw_all := lw_in 489 (by decide +kernel) rfl
theorem qw_169 : Cond.methodLink RX5 358 yX5_weighTimesOf ∈ lw_all := lw_in 470 (by decide +kernel) rfl
theorem qw_170 : Cond.instanceMethod yX5_weighTimesOf ∈ lw_all := lw_in 472 (by decide +kernel) rfl
theorem qw_171 : Cond.selects RX5 yX5_weighTimesOf yX5_weighTimesOf ∈ lw_all := lw_in 21 (by decide +kernel) rfl
theorem qw_172 : Cond.code yX5_weighTimesOf cX5_weighTimesOf 7 (none) ∈ lw_all := lw_in 473 (by decide +kernel) rfl
theorem qw_173 : Cond.methodLink RX5 295 yX5_isOpenOn ∈ lw_all := lw_in 544 (by decide +kernel) rfl
theorem qw_174 : Cond.instanceMethod yX5_isOpenOn ∈ lw_all := lw_in 546 (by decide +kernel) rfl
theorem qw_175 : Cond.selects RX5 yX5_isOpenOn yX5_isOpenOn ∈ lw_all := lw_in 27 (by decide +kernel) rfl
theorem qw_176 : Cond.code yX5_isOpenOn cX5_isOpenOn 3 (some .boolean) ∈ lw_all := lw_in 547 (by decide +kernel) rfl
theorem qw_177 : Cond.methodLink RX5 311 yX5_restBetween ∈ lw_all := lw_in 572 (by decide +kernel) rfl
theorem qw_178 : Cond.instanceMethod yX5_restBetween ∈ lw_all := lw_in 574 (by decide +kernel) rfl
theorem qw_179 : Cond.selects RX5 yX5_restBetween yX5_restBetween ∈ lw_all := lw_in 34 (by decide +kernel) rfl
theorem qw_180 : Cond.code yX5_restBetween cX5_restBetween 3 (some .int) ∈ lw_all := lw_in 575 (by decide +kernel) rfl
theorem qw_181 : Cond.fieldLink RX5 130 (TX3 3).1 (TX3 3).2.1 (TX3 3).2.2.1 ∈ lw_all := lw_in 100 (by decide +kernel) rfl
theorem qw_182 : Cond.methodLink RX5 368 yX5_daysInARow ∈ lw_all := lw_in 560 (by decide +kernel) rfl
theorem qw_183 : Cond.instanceMethod yX5_daysInARow ∈ lw_all := lw_in 562 (by decide +kernel) rfl
theorem qw_184 : Cond.selects RX5 yX5_daysInARow yX5_daysInARow ∈ lw_all := lw_in 31 (by decide +kernel) rfl
theorem qw_185 : Cond.code yX5_daysInARow cX5_daysInARow 5 (some .int) ∈ lw_all := lw_in 563 (by decide +kernel) rfl
theorem qw_186 : Cond.methodLink RX5 283 yX5_weekPay ∈ lw_all := lw_in 564 (by decide +kernel) rfl
theorem qw_187 : Cond.instanceMethod yX5_weekPay ∈ lw_all := lw_in 566 (by decide +kernel) rfl
theorem qw_188 : Cond.selects RX5 yX5_weekPay yX5_weekPay ∈ lw_all := lw_in 32 (by decide +kernel) rfl
theorem qw_189 : Cond.code yX5_weekPay cX5_weekPay 4 (some .int) ∈ lw_all := lw_in 567 (by decide +kernel) rfl
theorem qw_190 : Cond.methodLink RX5 371 yX5_hasRest ∈ lw_all := lw_in 568 (by decide +kernel) rfl
theorem qw_191 : Cond.instanceMethod yX5_hasRest ∈ lw_all := lw_in 570 (by decide +kernel) rfl
theorem qw_192 : Cond.selects RX5 yX5_hasRest yX5_hasRest ∈ lw_all := lw_in 33 (by decide +kernel) rfl
theorem qw_193 : Cond.code yX5_hasRest cX5_hasRest 6 (some .boolean) ∈ lw_all := lw_in 571 (by decide +kernel) rfl
theorem qw_194 : Cond.methodLink RX5 274 yX5_reasonAgainst ∈ lw_all := lw_in 556 (by decide +kernel) rfl
theorem qw_195 : Cond.instanceMethod yX5_reasonAgainst ∈ lw_all := lw_in 558 (by decide +kernel) rfl
theorem qw_196 : Cond.selects RX5 yX5_reasonAgainst yX5_reasonAgainst ∈ lw_all := lw_in 30 (by decide +kernel) rfl
theorem qw_197 : Cond.code yX5_reasonAgainst cX5_reasonAgainst 5 (some .int) ∈ lw_all := lw_in 559 (by decide +kernel) rfl
theorem qw_198 : Cond.methodLink RX5 374 yX5_cheapestDriver ∈ lw_all := lw_in 552 (by decide +kernel) rfl
theorem qw_199 : Cond.instanceMethod yX5_cheapestDriver ∈ lw_all := lw_in 554 (by decide +kernel) rfl
theorem qw_200 : Cond.selects RX5 yX5_cheapestDriver yX5_cheapestDriver ∈ lw_all := lw_in 29 (by decide +kernel) rfl
theorem qw_201 : Cond.code yX5_cheapestDriver cX5_cheapestDriver 7 (some .int) ∈ lw_all := lw_in 555 (by decide +kernel) rfl
theorem qw_202 : Cond.methodLink RX5 280 yX5_enter ∈ lw_all := lw_in 576 (by decide +kernel) rfl
theorem qw_203 : Cond.instanceMethod yX5_enter ∈ lw_all := lw_in 578 (by decide +kernel) rfl
theorem qw_204 : Cond.selects RX5 yX5_enter yX5_enter ∈ lw_all := lw_in 35 (by decide +kernel) rfl
theorem qw_205 : Cond.code yX5_enter cX5_enter 4 (none) ∈ lw_all := lw_in 579 (by decide +kernel) rfl
theorem qw_206 : Cond.fieldLink RX5 49 (TX5 9).1 (TX5 9).2.1 (TX5 9).2.2.1 ∈ lw_all := lw_in 203 (by decide +kernel) rfl
theorem qw_207 : Cond.methodLink RX5 206 yX2_clear ∈ lw_all := lw_in 382 (by decide +kernel) rfl
theorem qw_208 : Cond.instanceMethod yX2_clear ∈ lw_all := lw_in 383 (by decide +kernel) rfl
theorem qw_209 : Cond.selects RX2 yX2_clear yX2_clear ∈ lw_all := lw_in 384 (by decide +kernel) rfl
theorem qw_210 : Cond.initialized RX2 ∈ lw_all := lw_in 42 (by decide +kernel) rfl
theorem qw_211 : Cond.code yX2_clear cX2_clear 1 (none) ∈ lw_all := lw_in 385 (by decide +kernel) rfl
theorem qw_212 : Cond.methodLink RX5 212 yX2_insert ∈ lw_all := lw_in 386 (by decide +kernel) rfl
theorem qw_213 : Cond.instanceMethod yX2_insert ∈ lw_all := lw_in 387 (by decide +kernel) rfl
theorem qw_214 : Cond.selects RX2 yX2_insert yX2_insert ∈ lw_all := lw_in 388 (by decide +kernel) rfl
theorem qw_215 : Cond.code yX2_insert cX2_insert 4 (none) ∈ lw_all := lw_in 389 (by decide +kernel) rfl
theorem qw_216 : Cond.fieldLinkNest RX5 215 (TX2 2).1 (TX2 2).2.1 (TX2 2).2.2.1 "DutyDesk" ∈ lw_nest := nw_in 126 (by decide +kernel) rfl
theorem qw_217 : Cond.methodLink RX5 143 yX5_freeTrips ∈ lw_all := lw_in 335 (by decide +kernel) rfl
theorem qw_218 : Cond.instanceMethod yX5_freeTrips ∈ lw_all := lw_in 337 (by decide +kernel) rfl
theorem qw_219 : Cond.selects RX5 yX5_freeTrips yX5_freeTrips ∈ lw_all := lw_in 4 (by decide +kernel) rfl
theorem qw_220 : Cond.code yX5_freeTrips cX5_freeTrips 3 (some .int) ∈ lw_all := lw_in 338 (by decide +kernel) rfl
theorem qw_221 : Cond.methodLink RX5 216 yX2_numberIn ∈ lw_all := lw_in 390 (by decide +kernel) rfl
theorem qw_222 : Cond.instanceMethod yX2_numberIn ∈ lw_all := lw_in 391 (by decide +kernel) rfl
theorem qw_223 : Cond.selects RX2 yX2_numberIn yX2_numberIn ∈ lw_all := lw_in 392 (by decide +kernel) rfl
theorem qw_224 : Cond.code yX2_numberIn cX2_numberIn 2 (some .int) ∈ lw_all := lw_in 393 (by decide +kernel) rfl
theorem qw_225 : Cond.methodLink RX5 219 yX5_planTrip ∈ lw_all := lw_in 394 (by decide +kernel) rfl
theorem qw_226 : Cond.instanceMethod yX5_planTrip ∈ lw_all := lw_in 396 (by decide +kernel) rfl
theorem qw_227 : Cond.selects RX5 yX5_planTrip yX5_planTrip ∈ lw_all := lw_in 11 (by decide +kernel) rfl
theorem qw_228 : Cond.code yX5_planTrip cX5_planTrip 3 (none) ∈ lw_all := lw_in 397 (by decide +kernel) rfl
theorem qw_229 : Cond.methodLink RX5 239 yX1_clear ∈ lw_all := lw_in 462 (by decide +kernel) rfl
theorem qw_230 : Cond.instanceMethod yX1_clear ∈ lw_all := lw_in 463 (by decide +kernel) rfl
theorem qw_231 : Cond.selects RX1 yX1_clear yX1_clear ∈ lw_all := lw_in 464 (by decide +kernel) rfl
theorem qw_232 : Cond.code yX1_clear cX1_clear 1 (none) ∈ lw_all := lw_in 465 (by decide +kernel) rfl
theorem qw_233 : Cond.fieldLinkNest RX5 243 (TX1 3).1 (TX1 3).2.1 (TX1 3).2.2.1 "DutyDesk" ∈ lw_nest := nw_in 147 (by decide +kernel) rfl
theorem qw_234 : Cond.fieldLinkNest RX5 246 (TX1 0).1 (TX1 0).2.1 (TX1 0).2.2.1 "DutyDesk" ∈ lw_nest := nw_in 141 (by decide +kernel) rfl
theorem qw_235 : Cond.fieldLinkNest RX5 249 (TX1 1).1 (TX1 1).2.1 (TX1 1).2.2.1 "DutyDesk" ∈ lw_nest := nw_in 143 (by decide +kernel) rfl
theorem qw_236 : Cond.fieldLinkNest RX5 252 (TX1 2).1 (TX1 2).2.1 (TX1 2).2.2.1 "DutyDesk" ∈ lw_nest := nw_in 145 (by decide +kernel) rfl
theorem qw_237 : Cond.methodLink RX5 236 yX5_keepExchange ∈ lw_all := lw_in 490 (by decide +kernel) rfl
theorem qw_238 : Cond.instanceMethod yX5_keepExchange ∈ lw_all := lw_in 492 (by decide +kernel) rfl
theorem qw_239 : Cond.selects RX5 yX5_keepExchange yX5_keepExchange ∈ lw_all := lw_in 24 (by decide +kernel) rfl
theorem qw_240 : Cond.code yX5_keepExchange cX5_keepExchange 3 (none) ∈ lw_all := lw_in 493 (by decide +kernel) rfl
theorem qw_241 : Cond.methodLink RX5 240 yX5_weighPairsOf ∈ lw_all := lw_in 466 (by decide +kernel) rfl
theorem qw_242 : Cond.instanceMethod yX5_weighPairsOf ∈ lw_all := lw_in 468 (by decide +kernel) rfl
theorem qw_243 : Cond.selects RX5 yX5_weighPairsOf yX5_weighPairsOf ∈ lw_all := lw_in 20 (by decide +kernel) rfl
theorem qw_244 : Cond.code yX5_weighPairsOf cX5_weighPairsOf 3 (none) ∈ lw_all := lw_in 469 (by decide +kernel) rfl
theorem qw_245 : Cond.methodLink RX5 63 yX5_isPoint ∈ lw_all := lw_in 609 (by decide +kernel) rfl
theorem qw_246 : Cond.static yX5_isPoint ∈ lw_all := lw_in 610 (by decide +kernel) rfl
theorem qw_247 : Cond.code yX5_isPoint cX5_isPoint 1 (some .boolean) ∈ lw_all := lw_in 611 (by decide +kernel) rfl
theorem qw_248 : Cond.methodLink RX5 90 yX5_areTimesOfTrip ∈ lw_all := lw_in 613 (by decide +kernel) rfl
theorem qw_249 : Cond.static yX5_areTimesOfTrip ∈ lw_all := lw_in 614 (by decide +kernel) rfl
theorem qw_250 : Cond.code yX5_areTimesOfTrip cX5_areTimesOfTrip 2 (some .boolean) ∈ lw_all := lw_in 615 (by decide +kernel) rfl
theorem qw_251 : Cond.methodLink RX5 105 yX4_append ∈ lw_all := lw_in 633 (by decide +kernel) rfl
theorem qw_252 : Cond.instanceMethod yX4_append ∈ lw_all := lw_in 634 (by decide +kernel) rfl
theorem qw_253 : Cond.selects RX4 yX4_append yX4_append ∈ lw_all := lw_in 635 (by decide +kernel) rfl
theorem qw_254 : Cond.code yX4_append cX4_append 5 (some .int) ∈ lw_all := lw_in 636 (by decide +kernel) rfl
theorem qw_255 : Cond.methodLink RX5 109 yX5_isTrip ∈ lw_all := lw_in 235 (by decide +kernel) rfl
theorem qw_256 : Cond.instanceMethod yX5_isTrip ∈ lw_all := lw_in 237 (by decide +kernel) rfl
theorem qw_257 : Cond.selects RX5 yX5_isTrip yX5_isTrip ∈ lw_all := lw_in 0 (by decide +kernel) rfl
theorem qw_258 : Cond.code yX5_isTrip cX5_isTrip 2 (some .boolean) ∈ lw_all := lw_in 238 (by decide +kernel) rfl
theorem qw_259 : Cond.methodLink RX5 114 yX5_tripFact ∈ lw_all := lw_in 307 (by decide +kernel) rfl
theorem qw_260 : Cond.instanceMethod yX5_tripFact ∈ lw_all := lw_in 309 (by decide +kernel) rfl
theorem qw_261 : Cond.selects RX5 yX5_tripFact yX5_tripFact ∈ lw_all := lw_in 2 (by decide +kernel) rfl
theorem qw_262 : Cond.code yX5_tripFact cX5_tripFact 3 (some .int) ∈ lw_all := lw_in 310 (by decide +kernel) rfl
theorem qw_263 : Cond.methodLink RX5 150 yX5_isDuty ∈ lw_all := lw_in 344 (by decide +kernel) rfl
theorem qw_264 : Cond.instanceMethod yX5_isDuty ∈ lw_all := lw_in 346 (by decide +kernel) rfl
theorem qw_265 : Cond.selects RX5 yX5_isDuty yX5_isDuty ∈ lw_all := lw_in 5 (by decide +kernel) rfl
theorem qw_266 : Cond.code yX5_isDuty cX5_isDuty 2 (some .boolean) ∈ lw_all := lw_in 347 (by decide +kernel) rfl
theorem qw_267 : Cond.methodLink RX5 194 yX5_dutyFact ∈ lw_all := lw_in 349 (by decide +kernel) rfl
theorem qw_268 : Cond.instanceMethod yX5_dutyFact ∈ lw_all := lw_in 351 (by decide +kernel) rfl
theorem qw_269 : Cond.selects RX5 yX5_dutyFact yX5_dutyFact ∈ lw_all := lw_in 6 (by decide +kernel) rfl
theorem qw_270 : Cond.code yX5_dutyFact cX5_dutyFact 4 (some .int) ∈ lw_all := lw_in 352 (by decide +kernel) rfl
theorem qw_271 : Cond.methodLink RX5 266 yX5_isDriver ∈ lw_all := lw_in 531 (by decide +kernel) rfl
theorem qw_272 : Cond.instanceMethod yX5_isDriver ∈ lw_all := lw_in 533 (by decide +kernel) rfl
theorem qw_273 : Cond.selects RX5 yX5_isDriver yX5_isDriver ∈ lw_all := lw_in 26 (by decide +kernel) rfl
theorem qw_274 : Cond.code yX5_isDriver cX5_isDriver 2 (some .boolean) ∈ lw_all := lw_in 534 (by decide +kernel) rfl
theorem qw_275 : Cond.methodLink RX5 269 yX5_isDay ∈ lw_all := lw_in 535 (by decide +kernel) rfl
theorem qw_276 : Cond.static yX5_isDay ∈ lw_all := lw_in 536 (by decide +kernel) rfl
theorem qw_277 : Cond.code yX5_isDay cX5_isDay 1 (some .boolean) ∈ lw_all := lw_in 537 (by decide +kernel) rfl
theorem qw_278 : Cond.methodLink RX5 304 yX5_openDuties ∈ lw_all := lw_in 580 (by decide +kernel) rfl
theorem qw_279 : Cond.instanceMethod yX5_openDuties ∈ lw_all := lw_in 582 (by decide +kernel) rfl
theorem qw_280 : Cond.selects RX5 yX5_openDuties yX5_openDuties ∈ lw_all := lw_in 36 (by decide +kernel) rfl
theorem qw_281 : Cond.code yX5_openDuties cX5_openDuties 4 (some .int) ∈ lw_all := lw_in 583 (by decide +kernel) rfl
theorem qw_282 : Cond.methodLink RX5 301 yX5_fillWith ∈ lw_all := lw_in 548 (by decide +kernel) rfl
theorem qw_283 : Cond.instanceMethod yX5_fillWith ∈ lw_all := lw_in 550 (by decide +kernel) rfl
theorem qw_284 : Cond.selects RX5 yX5_fillWith yX5_fillWith ∈ lw_all := lw_in 28 (by decide +kernel) rfl
theorem qw_285 : Cond.code yX5_fillWith cX5_fillWith 4 (none) ∈ lw_all := lw_in 551 (by decide +kernel) rfl
theorem inw_X4 : ∀ w ∈ wsX40, w ∈ lw_all := by decide +kernel
theorem gf_X4_23 {p : Program} {l : Launch} {e : Env} {R : Room} {s : State} {m : MethodId} {args : Array Value} {below : List Frame} {meth : Method} {c : Code} {H : Heap} {locs : List Loc} {cells slots : Nat} {Q : State → Prop} {cc : ByteArray} {pc : Nat} {ls : Array Slot} {rest : List Value} {g : dd_G} {ad : Nat → Nat} {sg : dd_S} {X : va_W} (hx : p.tables.exec = Jvm.exec) (hb : c.code = cc) (hts : ∀ w ∈ lw_all, w.before args s = true) (hown : s.vm.findClass RX4 = some m.cls) (hK : KC g s) (hP : va_P g.1 vwCl (WC g ad sg ++ X) H) (hdg : decode cc pc = .ok (.getfield 23, 3))
    (kk : W p l e R s m args below meth c H locs cells slots Q (F0 m (pc + 3) ls (.ref (ad 43) :: rest))) : W p l e R s m args below meth c H locs cells slots Q (F0 m pc ls (.ref (ad 31) :: rest)) :=
  W_get hx hb hts inw_X4 hown hK hP 31 (by decide) cc_31 rfl 3 (by decide) qw_0 rfl rfl hdg kk
theorem gf_X4_16 {p : Program} {l : Launch} {e : Env} {R : Room} {s : State} {m : MethodId} {args : Array Value} {below : List Frame} {meth : Method} {c : Code} {H : Heap} {locs : List Loc} {cells slots : Nat} {Q : State → Prop} {cc : ByteArray} {pc : Nat} {ls : Array Slot} {rest : List Value} {g : dd_G} {ad : Nat → Nat} {sg : dd_S} {X : va_W} (hx : p.tables.exec = Jvm.exec) (hb : c.code = cc) (hts : ∀ w ∈ lw_all, w.before args s = true) (hown : s.vm.findClass RX4 = some m.cls) (hK : KC g s) (hP : va_P g.1 vwCl (WC g ad sg ++ X) H) (hdg : decode cc pc = .ok (.getfield 16, 3))
    (kk : W p l e R s m args below meth c H locs cells slots Q (F0 m (pc + 3) ls (.ref (ad 41) :: rest))) : W p l e R s m args below meth c H locs cells slots Q (F0 m pc ls (.ref (ad 31) :: rest)) :=
  W_get hx hb hts inw_X4 hown hK hP 31 (by decide) cc_31 rfl 1 (by decide) qw_1 rfl rfl hdg kk
theorem gf_X4_20 {p : Program} {l : Launch} {e : Env} {R : Room} {s : State} {m : MethodId} {args : Array Value} {below : List Frame} {meth : Method} {c : Code} {H : Heap} {locs : List Loc} {cells slots : Nat} {Q : State → Prop} {cc : ByteArray} {pc : Nat} {ls : Array Slot} {rest : List Value} {g : dd_G} {ad : Nat → Nat} {sg : dd_S} {X : va_W} (hx : p.tables.exec = Jvm.exec) (hb : c.code = cc) (hts : ∀ w ∈ lw_all, w.before args s = true) (hown : s.vm.findClass RX4 = some m.cls) (hK : KC g s) (hP : va_P g.1 vwCl (WC g ad sg ++ X) H) (hdg : decode cc pc = .ok (.getfield 20, 3))
    (kk : W p l e R s m args below meth c H locs cells slots Q (F0 m (pc + 3) ls (.ref (ad 42) :: rest))) : W p l e R s m args below meth c H locs cells slots Q (F0 m pc ls (.ref (ad 31) :: rest)) :=
  W_get hx hb hts inw_X4 hown hK hP 31 (by decide) cc_31 rfl 2 (by decide) qw_2 rfl rfl hdg kk
theorem gf_X4_26 {p : Program} {l : Launch} {e : Env} {R : Room} {s : State} {m : MethodId} {args : Array Value} {below : List Frame} {meth : Method} {c : Code} {H : Heap} {locs : List Loc} {cells slots : Nat} {Q : State → Prop} {cc : ByteArray} {pc : Nat} {ls : Array Slot} {rest : List Value} {g : dd_G} {ad : Nat → Nat} {sg : dd_S} {X : va_W} (hx : p.tables.exec = Jvm.exec) (hb : c.code = cc) (hts : ∀ w ∈ lw_all, w.before args s = true) (hown : s.vm.findClass RX4 = some m.cls) (hK : KC g s) (hP : va_P g.1 vwCl (WC g ad sg ++ X) H) (hdg : decode cc pc = .ok (.getfield 26, 3))
    (kk : W p l e R s m args below meth c H locs cells slots Q (F0 m (pc + 3) ls (.ref (ad 44) :: rest))) : W p l e R s m args below meth c H locs cells slots Q (F0 m pc ls (.ref (ad 31) :: rest)) :=
  W_get hx hb hts inw_X4 hown hK hP 31 (by decide) cc_31 rfl 4 (by decide) qw_3 rfl rfl hdg kk
theorem gf_X4_11 {p : Program} {l : Launch} {e : Env} {R : Room} {s : State} {m : MethodId} {args : Array Value} {below : List Frame} {meth : Method} {c : Code} {H : Heap} {locs : List Loc} {cells slots : Nat} {Q : State → Prop} {cc : ByteArray} {pc : Nat} {ls : Array Slot} {rest : List Value} {g : dd_G} {ad : Nat → Nat} {sg : dd_S} {X : va_W} (hx : p.tables.exec = Jvm.exec) (hb : c.code = cc) (hts : ∀ w ∈ lw_all, w.before args s = true) (hown : s.vm.findClass RX4 = some m.cls) (hK : KC g s) (hP : va_P g.1 vwCl (WC g ad sg ++ X) H) (hdg : decode cc pc = .ok (.getfield 11, 3))
    (kk : W p l e R s m args below meth c H locs cells slots Q (F0 m (pc + 3) ls (.ref (ad 40) :: rest))) : W p l e R s m args below meth c H locs cells slots Q (F0 m pc ls (.ref (ad 31) :: rest)) :=
  W_get hx hb hts inw_X4 hown hK hP 31 (by decide) cc_31 rfl 0 (by decide) qw_4 rfl rfl hdg kk
theorem inw_X0 : ∀ w ∈ wsX00, w ∈ lw_all := by decide +kernel
theorem gf_X0_9 {p : Program} {l : Launch} {e : Env} {R : Room} {s : State} {m : MethodId} {args : Array Value} {below : List Frame} {meth : Method} {c : Code} {H : Heap} {locs : List Loc} {cells slots : Nat} {Q : State → Prop} {cc : ByteArray} {pc : Nat} {ls : Array Slot} {rest : List Value} {g : dd_G} {ad : Nat → Nat} {sg : dd_S} {X : va_W} (hx : p.tables.exec = Jvm.exec) (hb : c.code = cc) (hts : ∀ w ∈ lw_all, w.before args s = true) (hown : s.vm.findClass RX0 = some m.cls) (hK : KC g s) (hP : va_P g.1 vwCl (WC g ad sg ++ X) H) {d : Nat} (hd : d < 15) (hdg : decode cc pc = .ok (.getfield 9, 3))
    (kk : W p l e R s m args below meth c H locs cells slots Q (F0 m (pc + 3) ls (.ref (ad (15 + d)) :: rest))) : W p l e R s m args below meth c H locs cells slots Q (F0 m pc ls (.ref (ad d) :: rest)) :=
  W_get hx hb hts inw_X0 hown hK hP d (by omega) (cc_duty hd) rfl 0 (by decide) qw_5 rfl rfl hdg kk
theorem gf_X0_19 {p : Program} {l : Launch} {e : Env} {R : Room} {s : State} {m : MethodId} {args : Array Value} {below : List Frame} {meth : Method} {c : Code} {H : Heap} {locs : List Loc} {cells slots : Nat} {Q : State → Prop} {cc : ByteArray} {pc : Nat} {ls : Array Slot} {rest : List Value} {g : dd_G} {ad : Nat → Nat} {sg : dd_S} {X : va_W} (hx : p.tables.exec = Jvm.exec) (hb : c.code = cc) (hts : ∀ w ∈ lw_all, w.before args s = true) (hown : s.vm.findClass RX0 = some m.cls) (hK : KC g s) (hP : va_P g.1 vwCl (WC g ad sg ++ X) H) {d : Nat} (hd : d < 15) (hdg : decode cc pc = .ok (.getfield 19, 3))
    (kk : W p l e R s m args below meth c H locs cells slots Q (F0 m (pc + 3) ls (.int (sg d 1) :: rest))) : W p l e R s m args below meth c H locs cells slots Q (F0 m pc ls (.ref (ad d) :: rest)) :=
  W_get hx hb hts inw_X0 hown hK hP d (by omega) (cc_duty hd) rfl 1 (by decide) qw_6 rfl rfl hdg kk
theorem pf_X0_19 {p : Program} {l : Launch} {e : Env} {R : Room} {s : State} {m : MethodId} {args : Array Value} {below : List Frame} {meth : Method} {c : Code} {H : Heap} {locs : List Loc} {cells slots : Nat} {Q : State → Prop} {cc : ByteArray} {pc : Nat} {ls : Array Slot} {rest : List Value} {g : dd_G} {ad : Nat → Nat} {sg : dd_S} {X : va_W} {A0 : Nat → Prop} {H0 : Heap} {x : Int32} (hx : p.tables.exec = Jvm.exec) (hb : c.code = cc) (hts : ∀ w ∈ lw_all, w.before args s = true) (hown : s.vm.findClass RX0 = some m.cls) (hK : KC g s) (hP : va_P g.1 vwCl (WC g ad sg ++ X) H) (hD : ∀ s2 : dd_S, va_D A0 (WC g ad s2 ++ X)) (hS : va_S A0 H0 H locs) {d : Nat} (hd : d < 15) (hdg : decode cc pc = .ok (.putfield 19, 3))
    (kk : ∀ (H1 : Heap) (locs1 : List Loc), va_P g.1 vwCl (WC g ad (st2 sg d 1 x) ++ X) H1 → va_S A0 H0 H1 locs1 → W p l e R s m args below meth c H1 locs1 cells slots Q (F0 m (pc + 3) ls rest)) : W p l e R s m args below meth c H locs cells slots Q (F0 m pc ls (.int x :: .ref (ad d) :: rest)) :=
  W_put hx hb hts inw_X0 tyX0 tyX0_ok nmX0 hown hK hP hD hS d (by omega) (cc_duty hd) rfl 1 (by decide) qw_6 rfl rfl (ty := .int) (tyX0_ok 1 (by decide)) rfl rfl (Nat.le_of_ble_eq_true rfl) ((cc_duty hd).trans rfl) hdg kk
theorem gl_X0_27 : GoodIn lw_all (wsV RX0 27 RX4 yX4_departureOf (lw_ws yX4_departureOf cX4_departureOf 2 (some .int))) := lw_gV qw_7 qw_8 qw_9 qw_10 qw_11
theorem yd_X4_departureOf : yX4_departureOf.cls = RX4 ∧ yX4_departureOf.cls ≠ "java/lang/invoke/MethodHandle" ∧ yX4_departureOf.cls ≠ "java/lang/invoke/VarHandle" ∧ (parseMethodDescriptor yX4_departureOf.desc).map (fun d => d.parameters.length) = some 1 := by decide +kernel
theorem gl_X0_23 : GoodIn lw_all (wsV RX0 23 RX0 yX0_tripIn (lw_ws yX0_tripIn cX0_tripIn 2 (some .int))) := lw_gV qw_12 qw_13 qw_14 qw_15 qw_16
theorem yd_X0_tripIn : yX0_tripIn.cls = RX0 ∧ yX0_tripIn.cls ≠ "java/lang/invoke/MethodHandle" ∧ yX0_tripIn.cls ≠ "java/lang/invoke/VarHandle" ∧ (parseMethodDescriptor yX0_tripIn.desc).map (fun d => d.parameters.length) = some 1 := by decide +kernel
theorem gf_X0_36 {p : Program} {l : Launch} {e : Env} {R : Room} {s : State} {m : MethodId} {args : Array Value} {below : List Frame} {meth : Method} {c : Code} {H : Heap} {locs : List Loc} {cells slots : Nat} {Q : State → Prop} {cc : ByteArray} {pc : Nat} {ls : Array Slot} {rest : List Value} {g : dd_G} {ad : Nat → Nat} {sg : dd_S} {X : va_W} (hx : p.tables.exec = Jvm.exec) (hb : c.code = cc) (hts : ∀ w ∈ lw_all, w.before args s = true) (hown : s.vm.findClass RX0 = some m.cls) (hK : KC g s) (hP : va_P g.1 vwCl (WC g ad sg ++ X) H) {d : Nat} (hd : d < 15) (hdg : decode cc pc = .ok (.getfield 36, 3))
    (kk : W p l e R s m args below meth c H locs cells slots Q (F0 m (pc + 3) ls (.int (sg d 2) :: rest))) : W p l e R s m args below meth c H locs cells slots Q (F0 m pc ls (.ref (ad d) :: rest)) :=
  W_get hx hb hts inw_X0 hown hK hP d (by omega) (cc_duty hd) rfl 2 (by decide) qw_17 rfl rfl hdg kk
theorem pf_X0_36 {p : Program} {l : Launch} {e : Env} {R : Room} {s : State} {m : MethodId} {args : Array Value} {below : List Frame} {meth : Method} {c : Code} {H : Heap} {locs : List Loc} {cells slots : Nat} {Q : State → Prop} {cc : ByteArray} {pc : Nat} {ls : Array Slot} {rest : List Value} {g : dd_G} {ad : Nat → Nat} {sg : dd_S} {X : va_W} {A0 : Nat → Prop} {H0 : Heap} {x : Int32} (hx : p.tables.exec = Jvm.exec) (hb : c.code = cc) (hts : ∀ w ∈ lw_all, w.before args s = true) (hown : s.vm.findClass RX0 = some m.cls) (hK : KC g s) (hP : va_P g.1 vwCl (WC g ad sg ++ X) H) (hD : ∀ s2 : dd_S, va_D A0 (WC g ad s2 ++ X)) (hS : va_S A0 H0 H locs) {d : Nat} (hd : d < 15) (hdg : decode cc pc = .ok (.putfield 36, 3))
    (kk : ∀ (H1 : Heap) (locs1 : List Loc), va_P g.1 vwCl (WC g ad (st2 sg d 2 x) ++ X) H1 → va_S A0 H0 H1 locs1 → W p l e R s m args below meth c H1 locs1 cells slots Q (F0 m (pc + 3) ls rest)) : W p l e R s m args below meth c H locs cells slots Q (F0 m pc ls (.int x :: .ref (ad d) :: rest)) :=
  W_put hx hb hts inw_X0 tyX0 tyX0_ok nmX0 hown hK hP hD hS d (by omega) (cc_duty hd) rfl 2 (by decide) qw_17 rfl rfl (ty := .int) (tyX0_ok 2 (by decide)) rfl rfl (Nat.le_of_ble_eq_true rfl) ((cc_duty hd).trans rfl) hdg kk
theorem gf_X0_39 {p : Program} {l : Launch} {e : Env} {R : Room} {s : State} {m : MethodId} {args : Array Value} {below : List Frame} {meth : Method} {c : Code} {H : Heap} {locs : List Loc} {cells slots : Nat} {Q : State → Prop} {cc : ByteArray} {pc : Nat} {ls : Array Slot} {rest : List Value} {g : dd_G} {ad : Nat → Nat} {sg : dd_S} {X : va_W} (hx : p.tables.exec = Jvm.exec) (hb : c.code = cc) (hts : ∀ w ∈ lw_all, w.before args s = true) (hown : s.vm.findClass RX0 = some m.cls) (hK : KC g s) (hP : va_P g.1 vwCl (WC g ad sg ++ X) H) {d : Nat} (hd : d < 15) (hdg : decode cc pc = .ok (.getfield 39, 3))
    (kk : W p l e R s m args below meth c H locs cells slots Q (F0 m (pc + 3) ls (.int (sg d 3) :: rest))) : W p l e R s m args below meth c H locs cells slots Q (F0 m pc ls (.ref (ad d) :: rest)) :=
  W_get hx hb hts inw_X0 hown hK hP d (by omega) (cc_duty hd) rfl 3 (by decide) qw_18 rfl rfl hdg kk
theorem pf_X0_39 {p : Program} {l : Launch} {e : Env} {R : Room} {s : State} {m : MethodId} {args : Array Value} {below : List Frame} {meth : Method} {c : Code} {H : Heap} {locs : List Loc} {cells slots : Nat} {Q : State → Prop} {cc : ByteArray} {pc : Nat} {ls : Array Slot} {rest : List Value} {g : dd_G} {ad : Nat → Nat} {sg : dd_S} {X : va_W} {A0 : Nat → Prop} {H0 : Heap} {x : Int32} (hx : p.tables.exec = Jvm.exec) (hb : c.code = cc) (hts : ∀ w ∈ lw_all, w.before args s = true) (hown : s.vm.findClass RX0 = some m.cls) (hK : KC g s) (hP : va_P g.1 vwCl (WC g ad sg ++ X) H) (hD : ∀ s2 : dd_S, va_D A0 (WC g ad s2 ++ X)) (hS : va_S A0 H0 H locs) {d : Nat} (hd : d < 15) (hdg : decode cc pc = .ok (.putfield 39, 3))
    (kk : ∀ (H1 : Heap) (locs1 : List Loc), va_P g.1 vwCl (WC g ad (st2 sg d 3 x) ++ X) H1 → va_S A0 H0 H1 locs1 → W p l e R s m args below meth c H1 locs1 cells slots Q (F0 m (pc + 3) ls rest)) : W p l e R s m args below meth c H locs cells slots Q (F0 m pc ls (.int x :: .ref (ad d) :: rest)) :=
  W_put hx hb hts inw_X0 tyX0 tyX0_ok nmX0 hown hK hP hD hS d (by omega) (cc_duty hd) rfl 3 (by decide) qw_18 rfl rfl (ty := .int) (tyX0_ok 3 (by decide)) rfl rfl (Nat.le_of_ble_eq_true rfl) ((cc_duty hd).trans rfl) hdg kk
theorem gf_X0_42 {p : Program} {l : Launch} {e : Env} {R : Room} {s : State} {m : MethodId} {args : Array Value} {below : List Frame} {meth : Method} {c : Code} {H : Heap} {locs : List Loc} {cells slots : Nat} {Q : State → Prop} {cc : ByteArray} {pc : Nat} {ls : Array Slot} {rest : List Value} {g : dd_G} {ad : Nat → Nat} {sg : dd_S} {X : va_W} (hx : p.tables.exec = Jvm.exec) (hb : c.code = cc) (hts : ∀ w ∈ lw_all, w.before args s = true) (hown : s.vm.findClass RX0 = some m.cls) (hK : KC g s) (hP : va_P g.1 vwCl (WC g ad sg ++ X) H) {d : Nat} (hd : d < 15) (hdg : decode cc pc = .ok (.getfield 42, 3))
    (kk : W p l e R s m args below meth c H locs cells slots Q (F0 m (pc + 3) ls (.int (sg d 4) :: rest))) : W p l e R s m args below meth c H locs cells slots Q (F0 m pc ls (.ref (ad d) :: rest)) :=
  W_get hx hb hts inw_X0 hown hK hP d (by omega) (cc_duty hd) rfl 4 (by decide) qw_19 rfl rfl hdg kk
theorem pf_X0_42 {p : Program} {l : Launch} {e : Env} {R : Room} {s : State} {m : MethodId} {args : Array Value} {below : List Frame} {meth : Method} {c : Code} {H : Heap} {locs : List Loc} {cells slots : Nat} {Q : State → Prop} {cc : ByteArray} {pc : Nat} {ls : Array Slot} {rest : List Value} {g : dd_G} {ad : Nat → Nat} {sg : dd_S} {X : va_W} {A0 : Nat → Prop} {H0 : Heap} {x : Int32} (hx : p.tables.exec = Jvm.exec) (hb : c.code = cc) (hts : ∀ w ∈ lw_all, w.before args s = true) (hown : s.vm.findClass RX0 = some m.cls) (hK : KC g s) (hP : va_P g.1 vwCl (WC g ad sg ++ X) H) (hD : ∀ s2 : dd_S, va_D A0 (WC g ad s2 ++ X)) (hS : va_S A0 H0 H locs) {d : Nat} (hd : d < 15) (hdg : decode cc pc = .ok (.putfield 42, 3))
    (kk : ∀ (H1 : Heap) (locs1 : List Loc), va_P g.1 vwCl (WC g ad (st2 sg d 4 x) ++ X) H1 → va_S A0 H0 H1 locs1 → W p l e R s m args below meth c H1 locs1 cells slots Q (F0 m (pc + 3) ls rest)) : W p l e R s m args below meth c H locs cells slots Q (F0 m pc ls (.int x :: .ref (ad d) :: rest)) :=
  W_put hx hb hts inw_X0 tyX0 tyX0_ok nmX0 hown hK hP hD hS d (by omega) (cc_duty hd) rfl 4 (by decide) qw_19 rfl rfl (ty := .int) (tyX0_ok 4 (by decide)) rfl rfl (Nat.le_of_ble_eq_true rfl) ((cc_duty hd).trans rfl) hdg kk
theorem gf_X0_45 {p : Program} {l : Launch} {e : Env} {R : Room} {s : State} {m : MethodId} {args : Array Value} {below : List Frame} {meth : Method} {c : Code} {H : Heap} {locs : List Loc} {cells slots : Nat} {Q : State → Prop} {cc : ByteArray} {pc : Nat} {ls : Array Slot} {rest : List Value} {g : dd_G} {ad : Nat → Nat} {sg : dd_S} {X : va_W} (hx : p.tables.exec = Jvm.exec) (hb : c.code = cc) (hts : ∀ w ∈ lw_all, w.before args s = true) (hown : s.vm.findClass RX0 = some m.cls) (hK : KC g s) (hP : va_P g.1 vwCl (WC g ad sg ++ X) H) {d : Nat} (hd : d < 15) (hdg : decode cc pc = .ok (.getfield 45, 3))
    (kk : W p l e R s m args below meth c H locs cells slots Q (F0 m (pc + 3) ls (.int (sg d 5) :: rest))) : W p l e R s m args below meth c H locs cells slots Q (F0 m pc ls (.ref (ad d) :: rest)) :=
  W_get hx hb hts inw_X0 hown hK hP d (by omega) (cc_duty hd) rfl 5 (by decide) qw_20 rfl rfl hdg kk
theorem pf_X0_45 {p : Program} {l : Launch} {e : Env} {R : Room} {s : State} {m : MethodId} {args : Array Value} {below : List Frame} {meth : Method} {c : Code} {H : Heap} {locs : List Loc} {cells slots : Nat} {Q : State → Prop} {cc : ByteArray} {pc : Nat} {ls : Array Slot} {rest : List Value} {g : dd_G} {ad : Nat → Nat} {sg : dd_S} {X : va_W} {A0 : Nat → Prop} {H0 : Heap} {x : Int32} (hx : p.tables.exec = Jvm.exec) (hb : c.code = cc) (hts : ∀ w ∈ lw_all, w.before args s = true) (hown : s.vm.findClass RX0 = some m.cls) (hK : KC g s) (hP : va_P g.1 vwCl (WC g ad sg ++ X) H) (hD : ∀ s2 : dd_S, va_D A0 (WC g ad s2 ++ X)) (hS : va_S A0 H0 H locs) {d : Nat} (hd : d < 15) (hdg : decode cc pc = .ok (.putfield 45, 3))
    (kk : ∀ (H1 : Heap) (locs1 : List Loc), va_P g.1 vwCl (WC g ad (st2 sg d 5 x) ++ X) H1 → va_S A0 H0 H1 locs1 → W p l e R s m args below meth c H1 locs1 cells slots Q (F0 m (pc + 3) ls rest)) : W p l e R s m args below meth c H locs cells slots Q (F0 m pc ls (.int x :: .ref (ad d) :: rest)) :=
  W_put hx hb hts inw_X0 tyX0 tyX0_ok nmX0 hown hK hP hD hS d (by omega) (cc_duty hd) rfl 5 (by decide) qw_20 rfl rfl (ty := .int) (tyX0_ok 5 (by decide)) rfl rfl (Nat.le_of_ble_eq_true rfl) ((cc_duty hd).trans rfl) hdg kk
theorem gf_X0_48 {p : Program} {l : Launch} {e : Env} {R : Room} {s : State} {m : MethodId} {args : Array Value} {below : List Frame} {meth : Method} {c : Code} {H : Heap} {locs : List Loc} {cells slots : Nat} {Q : State → Prop} {cc : ByteArray} {pc : Nat} {ls : Array Slot} {rest : List Value} {g : dd_G} {ad : Nat → Nat} {sg : dd_S} {X : va_W} (hx : p.tables.exec = Jvm.exec) (hb : c.code = cc) (hts : ∀ w ∈ lw_all, w.before args s = true) (hown : s.vm.findClass RX0 = some m.cls) (hK : KC g s) (hP : va_P g.1 vwCl (WC g ad sg ++ X) H) {d : Nat} (hd : d < 15) (hdg : decode cc pc = .ok (.getfield 48, 3))
    (kk : W p l e R s m args below meth c H locs cells slots Q (F0 m (pc + 3) ls (.int (sg d 6) :: rest))) : W p l e R s m args below meth c H locs cells slots Q (F0 m pc ls (.ref (ad d) :: rest)) :=
  W_get hx hb hts inw_X0 hown hK hP d (by omega) (cc_duty hd) rfl 6 (by decide) qw_21 rfl rfl hdg kk
theorem pf_X0_48 {p : Program} {l : Launch} {e : Env} {R : Room} {s : State} {m : MethodId} {args : Array Value} {below : List Frame} {meth : Method} {c : Code} {H : Heap} {locs : List Loc} {cells slots : Nat} {Q : State → Prop} {cc : ByteArray} {pc : Nat} {ls : Array Slot} {rest : List Value} {g : dd_G} {ad : Nat → Nat} {sg : dd_S} {X : va_W} {A0 : Nat → Prop} {H0 : Heap} {x : Int32} (hx : p.tables.exec = Jvm.exec) (hb : c.code = cc) (hts : ∀ w ∈ lw_all, w.before args s = true) (hown : s.vm.findClass RX0 = some m.cls) (hK : KC g s) (hP : va_P g.1 vwCl (WC g ad sg ++ X) H) (hD : ∀ s2 : dd_S, va_D A0 (WC g ad s2 ++ X)) (hS : va_S A0 H0 H locs) {d : Nat} (hd : d < 15) (hdg : decode cc pc = .ok (.putfield 48, 3))
    (kk : ∀ (H1 : Heap) (locs1 : List Loc), va_P g.1 vwCl (WC g ad (st2 sg d 6 x) ++ X) H1 → va_S A0 H0 H1 locs1 → W p l e R s m args below meth c H1 locs1 cells slots Q (F0 m (pc + 3) ls rest)) : W p l e R s m args below meth c H locs cells slots Q (F0 m pc ls (.int x :: .ref (ad d) :: rest)) :=
  W_put hx hb hts inw_X0 tyX0 tyX0_ok nmX0 hown hK hP hD hS d (by omega) (cc_duty hd) rfl 6 (by decide) qw_21 rfl rfl (ty := .int) (tyX0_ok 6 (by decide)) rfl rfl (Nat.le_of_ble_eq_true rfl) ((cc_duty hd).trans rfl) hdg kk
theorem gf_X0_51 {p : Program} {l : Launch} {e : Env} {R : Room} {s : State} {m : MethodId} {args : Array Value} {below : List Frame} {meth : Method} {c : Code} {H : Heap} {locs : List Loc} {cells slots : Nat} {Q : State → Prop} {cc : ByteArray} {pc : Nat} {ls : Array Slot} {rest : List Value} {g : dd_G} {ad : Nat → Nat} {sg : dd_S} {X : va_W} (hx : p.tables.exec = Jvm.exec) (hb : c.code = cc) (hts : ∀ w ∈ lw_all, w.before args s = true) (hown : s.vm.findClass RX0 = some m.cls) (hK : KC g s) (hP : va_P g.1 vwCl (WC g ad sg ++ X) H) {d : Nat} (hd : d < 15) (hdg : decode cc pc = .ok (.getfield 51, 3))
    (kk : W p l e R s m args below meth c H locs cells slots Q (F0 m (pc + 3) ls (.int (sg d 7) :: rest))) : W p l e R s m args below meth c H locs cells slots Q (F0 m pc ls (.ref (ad d) :: rest)) :=
  W_get hx hb hts inw_X0 hown hK hP d (by omega) (cc_duty hd) rfl 7 (by decide) qw_22 rfl rfl hdg kk
theorem pf_X0_51 {p : Program} {l : Launch} {e : Env} {R : Room} {s : State} {m : MethodId} {args : Array Value} {below : List Frame} {meth : Method} {c : Code} {H : Heap} {locs : List Loc} {cells slots : Nat} {Q : State → Prop} {cc : ByteArray} {pc : Nat} {ls : Array Slot} {rest : List Value} {g : dd_G} {ad : Nat → Nat} {sg : dd_S} {X : va_W} {A0 : Nat → Prop} {H0 : Heap} {x : Int32} (hx : p.tables.exec = Jvm.exec) (hb : c.code = cc) (hts : ∀ w ∈ lw_all, w.before args s = true) (hown : s.vm.findClass RX0 = some m.cls) (hK : KC g s) (hP : va_P g.1 vwCl (WC g ad sg ++ X) H) (hD : ∀ s2 : dd_S, va_D A0 (WC g ad s2 ++ X)) (hS : va_S A0 H0 H locs) {d : Nat} (hd : d < 15) (hdg : decode cc pc = .ok (.putfield 51, 3))
    (kk : ∀ (H1 : Heap) (locs1 : List Loc), va_P g.1 vwCl (WC g ad (st2 sg d 7 x) ++ X) H1 → va_S A0 H0 H1 locs1 → W p l e R s m args below meth c H1 locs1 cells slots Q (F0 m (pc + 3) ls rest)) : W p l e R s m args below meth c H locs cells slots Q (F0 m pc ls (.int x :: .ref (ad d) :: rest)) :=
  W_put hx hb hts inw_X0 tyX0 tyX0_ok nmX0 hown hK hP hD hS d (by omega) (cc_duty hd) rfl 7 (by decide) qw_22 rfl rfl (ty := .int) (tyX0_ok 7 (by decide)) rfl rfl (Nat.le_of_ble_eq_true rfl) ((cc_duty hd).trans rfl) hdg kk
theorem gf_X0_15 {p : Program} {l : Launch} {e : Env} {R : Room} {s : State} {m : MethodId} {args : Array Value} {below : List Frame} {meth : Method} {c : Code} {H : Heap} {locs : List Loc} {cells slots : Nat} {Q : State → Prop} {cc : ByteArray} {pc : Nat} {ls : Array Slot} {rest : List Value} {g : dd_G} {ad : Nat → Nat} {sg : dd_S} {X : va_W} (hx : p.tables.exec = Jvm.exec) (hb : c.code = cc) (hts : ∀ w ∈ lw_all, w.before args s = true) (hown : s.vm.findClass RX0 = some m.cls) (hK : KC g s) (hP : va_P g.1 vwCl (WC g ad sg ++ X) H) {d : Nat} (hd : d < 15) (hdg : decode cc pc = .ok (.getfield 15, 3))
    (kk : W p l e R s m args below meth c H locs cells slots Q (F0 m (pc + 3) ls (.int (sg d 8) :: rest))) : W p l e R s m args below meth c H locs cells slots Q (F0 m pc ls (.ref (ad d) :: rest)) :=
  W_get hx hb hts inw_X0 hown hK hP d (by omega) (cc_duty hd) rfl 8 (by decide) qw_23 rfl rfl hdg kk
theorem pf_X0_15 {p : Program} {l : Launch} {e : Env} {R : Room} {s : State} {m : MethodId} {args : Array Value} {below : List Frame} {meth : Method} {c : Code} {H : Heap} {locs : List Loc} {cells slots : Nat} {Q : State → Prop} {cc : ByteArray} {pc : Nat} {ls : Array Slot} {rest : List Value} {g : dd_G} {ad : Nat → Nat} {sg : dd_S} {X : va_W} {A0 : Nat → Prop} {H0 : Heap} {x : Int32} (hx : p.tables.exec = Jvm.exec) (hb : c.code = cc) (hts : ∀ w ∈ lw_all, w.before args s = true) (hown : s.vm.findClass RX0 = some m.cls) (hK : KC g s) (hP : va_P g.1 vwCl (WC g ad sg ++ X) H) (hD : ∀ s2 : dd_S, va_D A0 (WC g ad s2 ++ X)) (hS : va_S A0 H0 H locs) {d : Nat} (hd : d < 15) (hz : bz x = true) (hdg : decode cc pc = .ok (.putfield 15, 3))
    (kk : ∀ (H1 : Heap) (locs1 : List Loc), va_P g.1 vwCl (WC g ad (st2 sg d 8 x) ++ X) H1 → va_S A0 H0 H1 locs1 → W p l e R s m args below meth c H1 locs1 cells slots Q (F0 m (pc + 3) ls rest)) : W p l e R s m args below meth c H locs cells slots Q (F0 m pc ls (.int x :: .ref (ad d) :: rest)) :=
  W_put hx hb hts inw_X0 tyX0 tyX0_ok nmX0 hown hK hP hD hS d (by omega) (cc_duty hd) rfl 8 (by decide) qw_23 rfl rfl (ty := .boolean) (tyX0_ok 8 (by decide)) (bz_z hz) (bz_f hz) (Nat.le_of_ble_eq_true rfl) ((cc_duty hd).trans rfl) hdg kk
theorem gl_X0_32 : GoodIn lw_all (wsV RX0 32 RX0 yX0_append (lw_ws yX0_append cX0_append 2 (none))) := lw_gV qw_24 qw_25 qw_26 qw_15 qw_27
theorem yd_X0_append : yX0_append.cls = RX0 ∧ yX0_append.cls ≠ "java/lang/invoke/MethodHandle" ∧ yX0_append.cls ≠ "java/lang/invoke/VarHandle" ∧ (parseMethodDescriptor yX0_append.desc).map (fun d => d.parameters.length) = some 1 := by decide +kernel
theorem gl_X0_73 : GoodIn lw_all (wsV RX0 73 RX4 yX4_fromOf (lw_ws yX4_fromOf cX4_fromOf 2 (some .int))) := lw_gV qw_28 qw_29 qw_30 qw_10 qw_31
theorem yd_X4_fromOf : yX4_fromOf.cls = RX4 ∧ yX4_fromOf.cls ≠ "java/lang/invoke/MethodHandle" ∧ yX4_fromOf.cls ≠ "java/lang/invoke/VarHandle" ∧ (parseMethodDescriptor yX4_fromOf.desc).map (fun d => d.parameters.length) = some 1 := by decide +kernel
theorem gl_X0_76 : GoodIn lw_all (wsV RX0 76 RX4 yX4_wayFrom (lw_ws yX4_wayFrom cX4_wayFrom 3 (some .int))) := lw_gV qw_32 qw_33 qw_34 qw_10 qw_35
theorem yd_X4_wayFrom : yX4_wayFrom.cls = RX4 ∧ yX4_wayFrom.cls ≠ "java/lang/invoke/MethodHandle" ∧ yX4_wayFrom.cls ≠ "java/lang/invoke/VarHandle" ∧ (parseMethodDescriptor yX4_wayFrom.desc).map (fun d => d.parameters.length) = some 2 := by decide +kernel
theorem gl_X0_80 : GoodIn lw_all (wsV RX0 80 RX4 yX4_toOf (lw_ws yX4_toOf cX4_toOf 2 (some .int))) := lw_gV qw_36 qw_37 qw_38 qw_10 qw_39
theorem yd_X4_toOf : yX4_toOf.cls = RX4 ∧ yX4_toOf.cls ≠ "java/lang/invoke/MethodHandle" ∧ yX4_toOf.cls ≠ "java/lang/invoke/VarHandle" ∧ (parseMethodDescriptor yX4_toOf.desc).map (fun d => d.parameters.length) = some 1 := by decide +kernel
theorem gl_X0_83 : GoodIn lw_all (wsV RX0 83 RX4 yX4_arrivalOf (lw_ws yX4_arrivalOf cX4_arrivalOf 2 (some .int))) := lw_gV qw_40 qw_41 qw_42 qw_10 qw_43
theorem yd_X4_arrivalOf : yX4_arrivalOf.cls = RX4 ∧ yX4_arrivalOf.cls ≠ "java/lang/invoke/MethodHandle" ∧ yX4_arrivalOf.cls ≠ "java/lang/invoke/VarHandle" ∧ (parseMethodDescriptor yX4_arrivalOf.desc).map (fun d => d.parameters.length) = some 1 := by decide +kernel
theorem gl_X0_86 : GoodIn lw_all (wsV RX0 86 RX4 yX4_minutesOf (lw_ws yX4_minutesOf cX4_minutesOf 2 (some .int))) := lw_gV qw_44 qw_45 qw_46 qw_10 qw_47
theorem yd_X4_minutesOf : yX4_minutesOf.cls = RX4 ∧ yX4_minutesOf.cls ≠ "java/lang/invoke/MethodHandle" ∧ yX4_minutesOf.cls ≠ "java/lang/invoke/VarHandle" ∧ (parseMethodDescriptor yX4_minutesOf.desc).map (fun d => d.parameters.length) = some 1 := by decide +kernel
theorem gl_X0_92 : GoodIn lw_all (wsV RX0 92 RX0 yX0_endStretch (lw_ws yX0_endStretch cX0_endStretch 2 (none))) := lw_gV qw_48 qw_49 qw_50 qw_15 qw_51
theorem yd_X0_endStretch : yX0_endStretch.cls = RX0 ∧ yX0_endStretch.cls ≠ "java/lang/invoke/MethodHandle" ∧ yX0_endStretch.cls ≠ "java/lang/invoke/VarHandle" ∧ (parseMethodDescriptor yX0_endStretch.desc).map (fun d => d.parameters.length) = some 1 := by decide +kernel
theorem inw_X3 : ∀ w ∈ wsX30, w ∈ lw_all := by decide +kernel
theorem gf_X0_89 {p : Program} {l : Launch} {e : Env} {R : Room} {s : State} {m : MethodId} {args : Array Value} {below : List Frame} {meth : Method} {c : Code} {H : Heap} {locs : List Loc} {cells slots : Nat} {Q : State → Prop} {cc : ByteArray} {pc : Nat} {ls : Array Slot} {rest : List Value} {g : dd_G} {ad : Nat → Nat} {sg : dd_S} {X : va_W} (hx : p.tables.exec = Jvm.exec) (hb : c.code = cc) (hts : ∀ w ∈ lw_all, w.before args s = true) (hown : s.vm.findClass RX0 = some m.cls) (hK : KC g s) (hP : va_P g.1 vwCl (WC g ad sg ++ X) H) (hdg : decode cc pc = .ok (.getfield 89, 3))
    (kk : W p l e R s m args below meth c H locs cells slots Q (F0 m (pc + 3) ls (.int (sg 32 2) :: rest))) : W p l e R s m args below meth c H locs cells slots Q (F0 m pc ls (.ref (ad 32) :: rest)) :=
  W_get hx hb hts inw_X3 hown hK hP 32 (by decide) cc_32 rfl 2 (by decide) qw_52 rfl rfl hdg kk
theorem gl_X0_54 : GoodIn lw_all (wsV RX0 54 RX0 yX0_measureSpread (lw_ws yX0_measureSpread cX0_measureSpread 6 (none))) := lw_gV qw_53 qw_54 qw_55 qw_15 qw_56
theorem yd_X0_measureSpread : yX0_measureSpread.cls = RX0 ∧ yX0_measureSpread.cls ≠ "java/lang/invoke/MethodHandle" ∧ yX0_measureSpread.cls ≠ "java/lang/invoke/VarHandle" ∧ (parseMethodDescriptor yX0_measureSpread.desc).map (fun d => d.parameters.length) = some 1 := by decide +kernel
theorem gl_X0_58 : GoodIn lw_all (wsV RX0 58 RX0 yX0_measureStretches (lw_ws yX0_measureStretches cX0_measureStretches 9 (none))) := lw_gV qw_57 qw_58 qw_59 qw_15 qw_60
theorem yd_X0_measureStretches : yX0_measureStretches.cls = RX0 ∧ yX0_measureStretches.cls ≠ "java/lang/invoke/MethodHandle" ∧ yX0_measureStretches.cls ≠ "java/lang/invoke/VarHandle" ∧ (parseMethodDescriptor yX0_measureStretches.desc).map (fun d => d.parameters.length) = some 2 := by decide +kernel
theorem gl_X0_62 : GoodIn lw_all (wsS RX0 62 yX0_payFor (lw_ws yX0_payFor cX0_payFor 2 (some .int))) := lw_gS qw_61 qw_62 qw_15 qw_63
theorem yd_X0_payFor : yX0_payFor.cls = RX0 ∧ yX0_payFor.cls ≠ "java/lang/invoke/MethodHandle" ∧ yX0_payFor.cls ≠ "java/lang/invoke/VarHandle" ∧ (parseMethodDescriptor yX0_payFor.desc).map (fun d => d.parameters.length) = some 1 := by decide +kernel
theorem gf_X0_65 {p : Program} {l : Launch} {e : Env} {R : Room} {s : State} {m : MethodId} {args : Array Value} {below : List Frame} {meth : Method} {c : Code} {H : Heap} {locs : List Loc} {cells slots : Nat} {Q : State → Prop} {cc : ByteArray} {pc : Nat} {ls : Array Slot} {rest : List Value} {g : dd_G} {ad : Nat → Nat} {sg : dd_S} {X : va_W} (hx : p.tables.exec = Jvm.exec) (hb : c.code = cc) (hts : ∀ w ∈ lw_all, w.before args s = true) (hown : s.vm.findClass RX0 = some m.cls) (hK : KC g s) (hP : va_P g.1 vwCl (WC g ad sg ++ X) H) (hdg : decode cc pc = .ok (.getfield 65, 3))
    (kk : W p l e R s m args below meth c H locs cells slots Q (F0 m (pc + 3) ls (.int (sg 32 0) :: rest))) : W p l e R s m args below meth c H locs cells slots Q (F0 m pc ls (.ref (ad 32) :: rest)) :=
  W_get hx hb hts inw_X3 hown hK hP 32 (by decide) cc_32 rfl 0 (by decide) qw_64 rfl rfl hdg kk
theorem gf_X0_70 {p : Program} {l : Launch} {e : Env} {R : Room} {s : State} {m : MethodId} {args : Array Value} {below : List Frame} {meth : Method} {c : Code} {H : Heap} {locs : List Loc} {cells slots : Nat} {Q : State → Prop} {cc : ByteArray} {pc : Nat} {ls : Array Slot} {rest : List Value} {g : dd_G} {ad : Nat → Nat} {sg : dd_S} {X : va_W} (hx : p.tables.exec = Jvm.exec) (hb : c.code = cc) (hts : ∀ w ∈ lw_all, w.before args s = true) (hown : s.vm.findClass RX0 = some m.cls) (hK : KC g s) (hP : va_P g.1 vwCl (WC g ad sg ++ X) H) (hdg : decode cc pc = .ok (.getfield 70, 3))
    (kk : W p l e R s m args below meth c H locs cells slots Q (F0 m (pc + 3) ls (.int (sg 32 1) :: rest))) : W p l e R s m args below meth c H locs cells slots Q (F0 m pc ls (.ref (ad 32) :: rest)) :=
  W_get hx hb hts inw_X3 hown hK hP 32 (by decide) cc_32 rfl 1 (by decide) qw_65 rfl rfl hdg kk
theorem inw_X1 : ∀ w ∈ wsX10, w ∈ lw_all := by decide +kernel
theorem pf_X1_9 {p : Program} {l : Launch} {e : Env} {R : Room} {s : State} {m : MethodId} {args : Array Value} {below : List Frame} {meth : Method} {c : Code} {H : Heap} {locs : List Loc} {cells slots : Nat} {Q : State → Prop} {cc : ByteArray} {pc : Nat} {ls : Array Slot} {rest : List Value} {g : dd_G} {ad : Nat → Nat} {sg : dd_S} {X : va_W} {A0 : Nat → Prop} {H0 : Heap} {x : Int32} (hx : p.tables.exec = Jvm.exec) (hb : c.code = cc) (hts : ∀ w ∈ lw_all, w.before args s = true) (hown : s.vm.findClass RX1 = some m.cls) (hK : KC g s) (hP : va_P g.1 vwCl (WC g ad sg ++ X) H) (hD : ∀ s2 : dd_S, va_D A0 (WC g ad s2 ++ X)) (hS : va_S A0 H0 H locs) (hdg : decode cc pc = .ok (.putfield 9, 3))
    (kk : ∀ (H1 : Heap) (locs1 : List Loc), va_P g.1 vwCl (WC g ad (st2 sg 39 0 x) ++ X) H1 → va_S A0 H0 H1 locs1 → W p l e R s m args below meth c H1 locs1 cells slots Q (F0 m (pc + 3) ls rest)) : W p l e R s m args below meth c H locs cells slots Q (F0 m pc ls (.int x :: .ref (ad 39) :: rest)) :=
  W_put hx hb hts inw_X1 tyX1 tyX1_ok nmX1 hown hK hP hD hS 39 (by decide) cc_39 rfl 0 (by decide) qw_66 rfl rfl (ty := .int) (tyX1_ok 0 (by decide)) rfl rfl (Nat.le_of_ble_eq_true rfl) (cc_39.trans rfl) hdg kk
theorem pf_X1_15 {p : Program} {l : Launch} {e : Env} {R : Room} {s : State} {m : MethodId} {args : Array Value} {below : List Frame} {meth : Method} {c : Code} {H : Heap} {locs : List Loc} {cells slots : Nat} {Q : State → Prop} {cc : ByteArray} {pc : Nat} {ls : Array Slot} {rest : List Value} {g : dd_G} {ad : Nat → Nat} {sg : dd_S} {X : va_W} {A0 : Nat → Prop} {H0 : Heap} {x : Int32} (hx : p.tables.exec = Jvm.exec) (hb : c.code = cc) (hts : ∀ w ∈ lw_all, w.before args s = true) (hown : s.vm.findClass RX1 = some m.cls) (hK : KC g s) (hP : va_P g.1 vwCl (WC g ad sg ++ X) H) (hD : ∀ s2 : dd_S, va_D A0 (WC g ad s2 ++ X)) (hS : va_S A0 H0 H locs) (hdg : decode cc pc = .ok (.putfield 15, 3))
    (kk : ∀ (H1 : Heap) (locs1 : List Loc), va_P g.1 vwCl (WC g ad (st2 sg 39 1 x) ++ X) H1 → va_S A0 H0 H1 locs1 → W p l e R s m args below meth c H1 locs1 cells slots Q (F0 m (pc + 3) ls rest)) : W p l e R s m args below meth c H locs cells slots Q (F0 m pc ls (.int x :: .ref (ad 39) :: rest)) :=
  W_put hx hb hts inw_X1 tyX1 tyX1_ok nmX1 hown hK hP hD hS 39 (by decide) cc_39 rfl 1 (by decide) qw_67 rfl rfl (ty := .int) (tyX1_ok 1 (by decide)) rfl rfl (Nat.le_of_ble_eq_true rfl) (cc_39.trans rfl) hdg kk
theorem pf_X1_18 {p : Program} {l : Launch} {e : Env} {R : Room} {s : State} {m : MethodId} {args : Array Value} {below : List Frame} {meth : Method} {c : Code} {H : Heap} {locs : List Loc} {cells slots : Nat} {Q : State → Prop} {cc : ByteArray} {pc : Nat} {ls : Array Slot} {rest : List Value} {g : dd_G} {ad : Nat → Nat} {sg : dd_S} {X : va_W} {A0 : Nat → Prop} {H0 : Heap} {x : Int32} (hx : p.tables.exec = Jvm.exec) (hb : c.code = cc) (hts : ∀ w ∈ lw_all, w.before args s = true) (hown : s.vm.findClass RX1 = some m.cls) (hK : KC g s) (hP : va_P g.1 vwCl (WC g ad sg ++ X) H) (hD : ∀ s2 : dd_S, va_D A0 (WC g ad s2 ++ X)) (hS : va_S A0 H0 H locs) (hdg : decode cc pc = .ok (.putfield 18, 3))
    (kk : ∀ (H1 : Heap) (locs1 : List Loc), va_P g.1 vwCl (WC g ad (st2 sg 39 2 x) ++ X) H1 → va_S A0 H0 H1 locs1 → W p l e R s m args below meth c H1 locs1 cells slots Q (F0 m (pc + 3) ls rest)) : W p l e R s m args below meth c H locs cells slots Q (F0 m pc ls (.int x :: .ref (ad 39) :: rest)) :=
  W_put hx hb hts inw_X1 tyX1 tyX1_ok nmX1 hown hK hP hD hS 39 (by decide) cc_39 rfl 2 (by decide) qw_68 rfl rfl (ty := .int) (tyX1_ok 2 (by decide)) rfl rfl (Nat.le_of_ble_eq_true rfl) (cc_39.trans rfl) hdg kk
theorem pf_X1_21 {p : Program} {l : Launch} {e : Env} {R : Room} {s : State} {m : MethodId} {args : Array Value} {below : List Frame} {meth : Method} {c : Code} {H : Heap} {locs : List Loc} {cells slots : Nat} {Q : State → Prop} {cc : ByteArray} {pc : Nat} {ls : Array Slot} {rest : List Value} {g : dd_G} {ad : Nat → Nat} {sg : dd_S} {X : va_W} {A0 : Nat → Prop} {H0 : Heap} {x : Int32} (hx : p.tables.exec = Jvm.exec) (hb : c.code = cc) (hts : ∀ w ∈ lw_all, w.before args s = true) (hown : s.vm.findClass RX1 = some m.cls) (hK : KC g s) (hP : va_P g.1 vwCl (WC g ad sg ++ X) H) (hD : ∀ s2 : dd_S, va_D A0 (WC g ad s2 ++ X)) (hS : va_S A0 H0 H locs) (hdg : decode cc pc = .ok (.putfield 21, 3))
    (kk : ∀ (H1 : Heap) (locs1 : List Loc), va_P g.1 vwCl (WC g ad (st2 sg 39 3 x) ++ X) H1 → va_S A0 H0 H1 locs1 → W p l e R s m args below meth c H1 locs1 cells slots Q (F0 m (pc + 3) ls rest)) : W p l e R s m args below meth c H locs cells slots Q (F0 m pc ls (.int x :: .ref (ad 39) :: rest)) :=
  W_put hx hb hts inw_X1 tyX1 tyX1_ok nmX1 hown hK hP hD hS 39 (by decide) cc_39 rfl 3 (by decide) qw_69 rfl rfl (ty := .int) (tyX1_ok 3 (by decide)) rfl rfl (Nat.le_of_ble_eq_true rfl) (cc_39.trans rfl) hdg kk
theorem gf_X1_21 {p : Program} {l : Launch} {e : Env} {R : Room} {s : State} {m : MethodId} {args : Array Value} {below : List Frame} {meth : Method} {c : Code} {H : Heap} {locs : List Loc} {cells slots : Nat} {Q : State → Prop} {cc : ByteArray} {pc : Nat} {ls : Array Slot} {rest : List Value} {g : dd_G} {ad : Nat → Nat} {sg : dd_S} {X : va_W} (hx : p.tables.exec = Jvm.exec) (hb : c.code = cc) (hts : ∀ w ∈ lw_all, w.before args s = true) (hown : s.vm.findClass RX1 = some m.cls) (hK : KC g s) (hP : va_P g.1 vwCl (WC g ad sg ++ X) H) (hdg : decode cc pc = .ok (.getfield 21, 3))
    (kk : W p l e R s m args below meth c H locs cells slots Q (F0 m (pc + 3) ls (.int (sg 39 3) :: rest))) : W p l e R s m args below meth c H locs cells slots Q (F0 m pc ls (.ref (ad 39) :: rest)) :=
  W_get hx hb hts inw_X1 hown hK hP 39 (by decide) cc_39 rfl 3 (by decide) qw_69 rfl rfl hdg kk
theorem gf_X1_9 {p : Program} {l : Launch} {e : Env} {R : Room} {s : State} {m : MethodId} {args : Array Value} {below : List Frame} {meth : Method} {c : Code} {H : Heap} {locs : List Loc} {cells slots : Nat} {Q : State → Prop} {cc : ByteArray} {pc : Nat} {ls : Array Slot} {rest : List Value} {g : dd_G} {ad : Nat → Nat} {sg : dd_S} {X : va_W} (hx : p.tables.exec = Jvm.exec) (hb : c.code = cc) (hts : ∀ w ∈ lw_all, w.before args s = true) (hown : s.vm.findClass RX1 = some m.cls) (hK : KC g s) (hP : va_P g.1 vwCl (WC g ad sg ++ X) H) (hdg : decode cc pc = .ok (.getfield 9, 3))
    (kk : W p l e R s m args below meth c H locs cells slots Q (F0 m (pc + 3) ls (.int (sg 39 0) :: rest))) : W p l e R s m args below meth c H locs cells slots Q (F0 m pc ls (.ref (ad 39) :: rest)) :=
  W_get hx hb hts inw_X1 hown hK hP 39 (by decide) cc_39 rfl 0 (by decide) qw_66 rfl rfl hdg kk
theorem gf_X1_15 {p : Program} {l : Launch} {e : Env} {R : Room} {s : State} {m : MethodId} {args : Array Value} {below : List Frame} {meth : Method} {c : Code} {H : Heap} {locs : List Loc} {cells slots : Nat} {Q : State → Prop} {cc : ByteArray} {pc : Nat} {ls : Array Slot} {rest : List Value} {g : dd_G} {ad : Nat → Nat} {sg : dd_S} {X : va_W} (hx : p.tables.exec = Jvm.exec) (hb : c.code = cc) (hts : ∀ w ∈ lw_all, w.before args s = true) (hown : s.vm.findClass RX1 = some m.cls) (hK : KC g s) (hP : va_P g.1 vwCl (WC g ad sg ++ X) H) (hdg : decode cc pc = .ok (.getfield 15, 3))
    (kk : W p l e R s m args below meth c H locs cells slots Q (F0 m (pc + 3) ls (.int (sg 39 1) :: rest))) : W p l e R s m args below meth c H locs cells slots Q (F0 m pc ls (.ref (ad 39) :: rest)) :=
  W_get hx hb hts inw_X1 hown hK hP 39 (by decide) cc_39 rfl 1 (by decide) qw_67 rfl rfl hdg kk
theorem gf_X1_18 {p : Program} {l : Launch} {e : Env} {R : Room} {s : State} {m : MethodId} {args : Array Value} {below : List Frame} {meth : Method} {c : Code} {H : Heap} {locs : List Loc} {cells slots : Nat} {Q : State → Prop} {cc : ByteArray} {pc : Nat} {ls : Array Slot} {rest : List Value} {g : dd_G} {ad : Nat → Nat} {sg : dd_S} {X : va_W} (hx : p.tables.exec = Jvm.exec) (hb : c.code = cc) (hts : ∀ w ∈ lw_all, w.before args s = true) (hown : s.vm.findClass RX1 = some m.cls) (hK : KC g s) (hP : va_P g.1 vwCl (WC g ad sg ++ X) H) (hdg : decode cc pc = .ok (.getfield 18, 3))
    (kk : W p l e R s m args below meth c H locs cells slots Q (F0 m (pc + 3) ls (.int (sg 39 2) :: rest))) : W p l e R s m args below meth c H locs cells slots Q (F0 m pc ls (.ref (ad 39) :: rest)) :=
  W_get hx hb hts inw_X1 hown hK hP 39 (by decide) cc_39 rfl 2 (by decide) qw_68 rfl rfl hdg kk
theorem inw_X2 : ∀ w ∈ wsX20, w ∈ lw_all := by decide +kernel
theorem pf_X2_18 {p : Program} {l : Launch} {e : Env} {R : Room} {s : State} {m : MethodId} {args : Array Value} {below : List Frame} {meth : Method} {c : Code} {H : Heap} {locs : List Loc} {cells slots : Nat} {Q : State → Prop} {cc : ByteArray} {pc : Nat} {ls : Array Slot} {rest : List Value} {g : dd_G} {ad : Nat → Nat} {sg : dd_S} {X : va_W} {A0 : Nat → Prop} {H0 : Heap} {x : Int32} (hx : p.tables.exec = Jvm.exec) (hb : c.code = cc) (hts : ∀ w ∈ lw_all, w.before args s = true) (hown : s.vm.findClass RX2 = some m.cls) (hK : KC g s) (hP : va_P g.1 vwCl (WC g ad sg ++ X) H) (hD : ∀ s2 : dd_S, va_D A0 (WC g ad s2 ++ X)) (hS : va_S A0 H0 H locs) (hdg : decode cc pc = .ok (.putfield 18, 3))
    (kk : ∀ (H1 : Heap) (locs1 : List Loc), va_P g.1 vwCl (WC g ad (st2 sg 36 2 x) ++ X) H1 → va_S A0 H0 H1 locs1 → W p l e R s m args below meth c H1 locs1 cells slots Q (F0 m (pc + 3) ls rest)) : W p l e R s m args below meth c H locs cells slots Q (F0 m pc ls (.int x :: .ref (ad 36) :: rest)) :=
  W_put hx hb hts inw_X2 tyX2 tyX2_ok nmX2 hown hK hP hD hS 36 (by decide) cc_36 rfl 2 (by decide) qw_70 rfl rfl (ty := .int) (tyX2_ok 2 (by decide)) rfl rfl (Nat.le_of_ble_eq_true rfl) (cc_36.trans rfl) hdg kk
theorem gf_X2_15 {p : Program} {l : Launch} {e : Env} {R : Room} {s : State} {m : MethodId} {args : Array Value} {below : List Frame} {meth : Method} {c : Code} {H : Heap} {locs : List Loc} {cells slots : Nat} {Q : State → Prop} {cc : ByteArray} {pc : Nat} {ls : Array Slot} {rest : List Value} {g : dd_G} {ad : Nat → Nat} {sg : dd_S} {X : va_W} (hx : p.tables.exec = Jvm.exec) (hb : c.code = cc) (hts : ∀ w ∈ lw_all, w.before args s = true) (hown : s.vm.findClass RX2 = some m.cls) (hK : KC g s) (hP : va_P g.1 vwCl (WC g ad sg ++ X) H) (hdg : decode cc pc = .ok (.getfield 15, 3))
    (kk : W p l e R s m args below meth c H locs cells slots Q (F0 m (pc + 3) ls (.ref (ad 38) :: rest))) : W p l e R s m args below meth c H locs cells slots Q (F0 m pc ls (.ref (ad 36) :: rest)) :=
  W_get hx hb hts inw_X2 hown hK hP 36 (by decide) cc_36 rfl 1 (by decide) qw_71 rfl rfl hdg kk
theorem gf_X2_18 {p : Program} {l : Launch} {e : Env} {R : Room} {s : State} {m : MethodId} {args : Array Value} {below : List Frame} {meth : Method} {c : Code} {H : Heap} {locs : List Loc} {cells slots : Nat} {Q : State → Prop} {cc : ByteArray} {pc : Nat} {ls : Array Slot} {rest : List Value} {g : dd_G} {ad : Nat → Nat} {sg : dd_S} {X : va_W} (hx : p.tables.exec = Jvm.exec) (hb : c.code = cc) (hts : ∀ w ∈ lw_all, w.before args s = true) (hown : s.vm.findClass RX2 = some m.cls) (hK : KC g s) (hP : va_P g.1 vwCl (WC g ad sg ++ X) H) (hdg : decode cc pc = .ok (.getfield 18, 3))
    (kk : W p l e R s m args below meth c H locs cells slots Q (F0 m (pc + 3) ls (.int (sg 36 2) :: rest))) : W p l e R s m args below meth c H locs cells slots Q (F0 m pc ls (.ref (ad 36) :: rest)) :=
  W_get hx hb hts inw_X2 hown hK hP 36 (by decide) cc_36 rfl 2 (by decide) qw_70 rfl rfl hdg kk
theorem gf_X2_9 {p : Program} {l : Launch} {e : Env} {R : Room} {s : State} {m : MethodId} {args : Array Value} {below : List Frame} {meth : Method} {c : Code} {H : Heap} {locs : List Loc} {cells slots : Nat} {Q : State → Prop} {cc : ByteArray} {pc : Nat} {ls : Array Slot} {rest : List Value} {g : dd_G} {ad : Nat → Nat} {sg : dd_S} {X : va_W} (hx : p.tables.exec = Jvm.exec) (hb : c.code = cc) (hts : ∀ w ∈ lw_all, w.before args s = true) (hown : s.vm.findClass RX2 = some m.cls) (hK : KC g s) (hP : va_P g.1 vwCl (WC g ad sg ++ X) H) (hdg : decode cc pc = .ok (.getfield 9, 3))
    (kk : W p l e R s m args below meth c H locs cells slots Q (F0 m (pc + 3) ls (.ref (ad 37) :: rest))) : W p l e R s m args below meth c H locs cells slots Q (F0 m pc ls (.ref (ad 36) :: rest)) :=
  W_get hx hb hts inw_X2 hown hK hP 36 (by decide) cc_36 rfl 0 (by decide) qw_72 rfl rfl hdg kk
theorem gf_X4_29 {p : Program} {l : Launch} {e : Env} {R : Room} {s : State} {m : MethodId} {args : Array Value} {below : List Frame} {meth : Method} {c : Code} {H : Heap} {locs : List Loc} {cells slots : Nat} {Q : State → Prop} {cc : ByteArray} {pc : Nat} {ls : Array Slot} {rest : List Value} {g : dd_G} {ad : Nat → Nat} {sg : dd_S} {X : va_W} (hx : p.tables.exec = Jvm.exec) (hb : c.code = cc) (hts : ∀ w ∈ lw_all, w.before args s = true) (hown : s.vm.findClass RX4 = some m.cls) (hK : KC g s) (hP : va_P g.1 vwCl (WC g ad sg ++ X) H) (hdg : decode cc pc = .ok (.getfield 29, 3))
    (kk : W p l e R s m args below meth c H locs cells slots Q (F0 m (pc + 3) ls (.int (sg 31 5) :: rest))) : W p l e R s m args below meth c H locs cells slots Q (F0 m pc ls (.ref (ad 31) :: rest)) :=
  W_get hx hb hts inw_X4 hown hK hP 31 (by decide) cc_31 rfl 5 (by decide) qw_73 rfl rfl hdg kk
theorem pf_X4_29 {p : Program} {l : Launch} {e : Env} {R : Room} {s : State} {m : MethodId} {args : Array Value} {below : List Frame} {meth : Method} {c : Code} {H : Heap} {locs : List Loc} {cells slots : Nat} {Q : State → Prop} {cc : ByteArray} {pc : Nat} {ls : Array Slot} {rest : List Value} {g : dd_G} {ad : Nat → Nat} {sg : dd_S} {X : va_W} {A0 : Nat → Prop} {H0 : Heap} {x : Int32} (hx : p.tables.exec = Jvm.exec) (hb : c.code = cc) (hts : ∀ w ∈ lw_all, w.before args s = true) (hown : s.vm.findClass RX4 = some m.cls) (hK : KC g s) (hP : va_P g.1 vwCl (WC g ad sg ++ X) H) (hD : ∀ s2 : dd_S, va_D A0 (WC g ad s2 ++ X)) (hS : va_S A0 H0 H locs) (hdg : decode cc pc = .ok (.putfield 29, 3))
    (kk : ∀ (H1 : Heap) (locs1 : List Loc), va_P g.1 vwCl (WC g ad (st2 sg 31 5 x) ++ X) H1 → va_S A0 H0 H1 locs1 → W p l e R s m args below meth c H1 locs1 cells slots Q (F0 m (pc + 3) ls rest)) : W p l e R s m args below meth c H locs cells slots Q (F0 m pc ls (.int x :: .ref (ad 31) :: rest)) :=
  W_put hx hb hts inw_X4 tyX4 tyX4_ok nmX4 hown hK hP hD hS 31 (by decide) cc_31 rfl 5 (by decide) qw_73 rfl rfl (ty := .int) (tyX4_ok 5 (by decide)) rfl rfl (Nat.le_of_ble_eq_true rfl) (cc_31.trans rfl) hdg kk
theorem inw_X5 : ∀ w ∈ wsX50, w ∈ lw_all := by decide +kernel
theorem gf_X5_10 {p : Program} {l : Launch} {e : Env} {R : Room} {s : State} {m : MethodId} {args : Array Value} {below : List Frame} {meth : Method} {c : Code} {H : Heap} {locs : List Loc} {cells slots : Nat} {Q : State → Prop} {cc : ByteArray} {pc : Nat} {ls : Array Slot} {rest : List Value} {g : dd_G} {ad : Nat → Nat} {sg : dd_S} {X : va_W} (hx : p.tables.exec = Jvm.exec) (hb : c.code = cc) (hts : ∀ w ∈ lw_all, w.before args s = true) (hown : s.vm.findClass RX5 = some m.cls) (hK : KC g s) (hP : va_P g.1 vwCl (WC g ad sg ++ X) H) (hdg : decode cc pc = .ok (.getfield 10, 3))
    (kk : W p l e R s m args below meth c H locs cells slots Q (F0 m (pc + 3) ls (.ref (ad 31) :: rest))) : W p l e R s m args below meth c H locs cells slots Q (F0 m pc ls (.ref (ad 30) :: rest)) :=
  W_get hx hb hts inw_X5 hown hK hP 30 (by decide) cc_30 rfl 0 (by decide) qw_74 rfl rfl hdg kk
theorem gf_X5_96 {p : Program} {l : Launch} {e : Env} {R : Room} {s : State} {m : MethodId} {args : Array Value} {below : List Frame} {meth : Method} {c : Code} {H : Heap} {locs : List Loc} {cells slots : Nat} {Q : State → Prop} {cc : ByteArray} {pc : Nat} {ls : Array Slot} {rest : List Value} {g : dd_G} {ad : Nat → Nat} {sg : dd_S} {X : va_W} (hx : p.tables.exec = Jvm.exec) (hb : c.code = cc) (hts : ∀ w ∈ lw_all, w.before args s = true) (hown : s.vm.findClass RX5 = some m.cls) (hK : KC g s) (hP : va_P g.1 vwCl (WC g ad sg ++ X) H) (hdg : decode cc pc = .ok (.getfield 96, 3))
    (kk : W p l e R s m args below meth c H locs cells slots Q (F0 m (pc + 3) ls (.int (sg 31 5) :: rest))) : W p l e R s m args below meth c H locs cells slots Q (F0 m pc ls (.ref (ad 31) :: rest)) :=
  W_getN hx hb hts inw_X4 hown hK hP 31 (by decide) cc_31 rfl 5 (by decide) qw_75 rfl rfl hdg kk
theorem gf_X5_137 {p : Program} {l : Launch} {e : Env} {R : Room} {s : State} {m : MethodId} {args : Array Value} {below : List Frame} {meth : Method} {c : Code} {H : Heap} {locs : List Loc} {cells slots : Nat} {Q : State → Prop} {cc : ByteArray} {pc : Nat} {ls : Array Slot} {rest : List Value} {g : dd_G} {ad : Nat → Nat} {sg : dd_S} {X : va_W} (hx : p.tables.exec = Jvm.exec) (hb : c.code = cc) (hts : ∀ w ∈ lw_all, w.before args s = true) (hown : s.vm.findClass RX5 = some m.cls) (hK : KC g s) (hP : va_P g.1 vwCl (WC g ad sg ++ X) H) (hdg : decode cc pc = .ok (.getfield 137, 3))
    (kk : W p l e R s m args below meth c H locs cells slots Q (F0 m (pc + 3) ls (.int (sg 30 5) :: rest))) : W p l e R s m args below meth c H locs cells slots Q (F0 m pc ls (.ref (ad 30) :: rest)) :=
  W_get hx hb hts inw_X5 hown hK hP 30 (by decide) cc_30 rfl 5 (by decide) qw_76 rfl rfl hdg kk
theorem gf_X5_140 {p : Program} {l : Launch} {e : Env} {R : Room} {s : State} {m : MethodId} {args : Array Value} {below : List Frame} {meth : Method} {c : Code} {H : Heap} {locs : List Loc} {cells slots : Nat} {Q : State → Prop} {cc : ByteArray} {pc : Nat} {ls : Array Slot} {rest : List Value} {g : dd_G} {ad : Nat → Nat} {sg : dd_S} {X : va_W} (hx : p.tables.exec = Jvm.exec) (hb : c.code = cc) (hts : ∀ w ∈ lw_all, w.before args s = true) (hown : s.vm.findClass RX5 = some m.cls) (hK : KC g s) (hP : va_P g.1 vwCl (WC g ad sg ++ X) H) (hdg : decode cc pc = .ok (.getfield 140, 3))
    (kk : W p l e R s m args below meth c H locs cells slots Q (F0 m (pc + 3) ls (.int (sg 30 6) :: rest))) : W p l e R s m args below meth c H locs cells slots Q (F0 m pc ls (.ref (ad 30) :: rest)) :=
  W_get hx hb hts inw_X5 hown hK hP 30 (by decide) cc_30 rfl 6 (by decide) qw_77 rfl rfl hdg kk
theorem gf_X5_25 {p : Program} {l : Launch} {e : Env} {R : Room} {s : State} {m : MethodId} {args : Array Value} {below : List Frame} {meth : Method} {c : Code} {H : Heap} {locs : List Loc} {cells slots : Nat} {Q : State → Prop} {cc : ByteArray} {pc : Nat} {ls : Array Slot} {rest : List Value} {g : dd_G} {ad : Nat → Nat} {sg : dd_S} {X : va_W} (hx : p.tables.exec = Jvm.exec) (hb : c.code = cc) (hts : ∀ w ∈ lw_all, w.before args s = true) (hown : s.vm.findClass RX5 = some m.cls) (hK : KC g s) (hP : va_P g.1 vwCl (WC g ad sg ++ X) H) (hdg : decode cc pc = .ok (.getfield 25, 3))
    (kk : W p l e R s m args below meth c H locs cells slots Q (F0 m (pc + 3) ls (.ref (ad 33) :: rest))) : W p l e R s m args below meth c H locs cells slots Q (F0 m pc ls (.ref (ad 30) :: rest)) :=
  W_get hx hb hts inw_X5 hown hK hP 30 (by decide) cc_30 rfl 2 (by decide) qw_78 rfl rfl hdg kk
theorem gf_X5_60 {p : Program} {l : Launch} {e : Env} {R : Room} {s : State} {m : MethodId} {args : Array Value} {below : List Frame} {meth : Method} {c : Code} {H : Heap} {locs : List Loc} {cells slots : Nat} {Q : State → Prop} {cc : ByteArray} {pc : Nat} {ls : Array Slot} {rest : List Value} {g : dd_G} {ad : Nat → Nat} {sg : dd_S} {X : va_W} (hx : p.tables.exec = Jvm.exec) (hb : c.code = cc) (hts : ∀ w ∈ lw_all, w.before args s = true) (hown : s.vm.findClass RX5 = some m.cls) (hK : KC g s) (hP : va_P g.1 vwCl (WC g ad sg ++ X) H) (hdg : decode cc pc = .ok (.getfield 60, 3))
    (kk : W p l e R s m args below meth c H locs cells slots Q (F0 m (pc + 3) ls (.ref (ad 14) :: rest))) : W p l e R s m args below meth c H locs cells slots Q (F0 m pc ls (.ref (ad 30) :: rest)) :=
  W_get hx hb hts inw_X5 hown hK hP 30 (by decide) cc_30 rfl 11 (by decide) qw_79 rfl rfl hdg kk
theorem gf_X5_29 {p : Program} {l : Launch} {e : Env} {R : Room} {s : State} {m : MethodId} {args : Array Value} {below : List Frame} {meth : Method} {c : Code} {H : Heap} {locs : List Loc} {cells slots : Nat} {Q : State → Prop} {cc : ByteArray} {pc : Nat} {ls : Array Slot} {rest : List Value} {g : dd_G} {ad : Nat → Nat} {sg : dd_S} {X : va_W} (hx : p.tables.exec = Jvm.exec) (hb : c.code = cc) (hts : ∀ w ∈ lw_all, w.before args s = true) (hown : s.vm.findClass RX5 = some m.cls) (hK : KC g s) (hP : va_P g.1 vwCl (WC g ad sg ++ X) H) (hdg : decode cc pc = .ok (.getfield 29, 3))
    (kk : W p l e R s m args below meth c H locs cells slots Q (F0 m (pc + 3) ls (.ref (ad 34) :: rest))) : W p l e R s m args below meth c H locs cells slots Q (F0 m pc ls (.ref (ad 30) :: rest)) :=
  W_get hx hb hts inw_X5 hown hK hP 30 (by decide) cc_30 rfl 3 (by decide) qw_80 rfl rfl hdg kk
theorem gl_X5_318 : GoodIn lw_all (wsV RX5 318 RX4 yX4_fromOf (lw_ws yX4_fromOf cX4_fromOf 2 (some .int))) := lw_gV qw_81 qw_29 qw_30 qw_10 qw_31
theorem gl_X5_321 : GoodIn lw_all (wsV RX5 321 RX4 yX4_toOf (lw_ws yX4_toOf cX4_toOf 2 (some .int))) := lw_gV qw_82 qw_37 qw_38 qw_10 qw_39
theorem gl_X5_209 : GoodIn lw_all (wsV RX5 209 RX4 yX4_departureOf (lw_ws yX4_departureOf cX4_departureOf 2 (some .int))) := lw_gV qw_83 qw_8 qw_9 qw_10 qw_11
theorem gl_X5_324 : GoodIn lw_all (wsV RX5 324 RX4 yX4_arrivalOf (lw_ws yX4_arrivalOf cX4_arrivalOf 2 (some .int))) := lw_gV qw_84 qw_41 qw_42 qw_10 qw_43
theorem gl_X5_174 : GoodIn lw_all (wsV RX5 174 RX5 yX5_dutyOf (lw_ws yX5_dutyOf cX5_dutyOf 2 (some .int))) := lw_gV qw_85 qw_86 qw_87 qw_88 qw_89
theorem yd_X5_dutyOf : yX5_dutyOf.cls = RX5 ∧ yX5_dutyOf.cls ≠ "java/lang/invoke/MethodHandle" ∧ yX5_dutyOf.cls ≠ "java/lang/invoke/VarHandle" ∧ (parseMethodDescriptor yX5_dutyOf.desc).map (fun d => d.parameters.length) = some 1 := by decide +kernel
theorem gf_X5_35 {p : Program} {l : Launch} {e : Env} {R : Room} {s : State} {m : MethodId} {args : Array Value} {below : List Frame} {meth : Method} {c : Code} {H : Heap} {locs : List Loc} {cells slots : Nat} {Q : State → Prop} {cc : ByteArray} {pc : Nat} {ls : Array Slot} {rest : List Value} {g : dd_G} {ad : Nat → Nat} {sg : dd_S} {X : va_W} (hx : p.tables.exec = Jvm.exec) (hb : c.code = cc) (hts : ∀ w ∈ lw_all, w.before args s = true) (hown : s.vm.findClass RX5 = some m.cls) (hK : KC g s) (hP : va_P g.1 vwCl (WC g ad sg ++ X) H) (hdg : decode cc pc = .ok (.getfield 35, 3))
    (kk : W p l e R s m args below meth c H locs cells slots Q (F0 m (pc + 3) ls (.ref (ad 35) :: rest))) : W p l e R s m args below meth c H locs cells slots Q (F0 m pc ls (.ref (ad 30) :: rest)) :=
  W_get hx hb hts inw_X5 hown hK hP 30 (by decide) cc_30 rfl 4 (by decide) qw_90 rfl rfl hdg kk
theorem gl_X5_288 : GoodIn lw_all (wsV RX5 288 RX5 yX5_dutyOn (lw_ws yX5_dutyOn cX5_dutyOn 3 (some .int))) := lw_gV qw_91 qw_92 qw_93 qw_88 qw_94
theorem yd_X5_dutyOn : yX5_dutyOn.cls = RX5 ∧ yX5_dutyOn.cls ≠ "java/lang/invoke/MethodHandle" ∧ yX5_dutyOn.cls ≠ "java/lang/invoke/VarHandle" ∧ (parseMethodDescriptor yX5_dutyOn.desc).map (fun d => d.parameters.length) = some 2 := by decide +kernel
theorem gl_X5_365 : GoodIn lw_all (wsV RX5 365 RX5 yX5_isHadOn (lw_ws yX5_isHadOn cX5_isHadOn 4 (some .boolean))) := lw_gV qw_95 qw_96 qw_97 qw_88 qw_98
theorem yd_X5_isHadOn : yX5_isHadOn.cls = RX5 ∧ yX5_isHadOn.cls ≠ "java/lang/invoke/MethodHandle" ∧ yX5_isHadOn.cls ≠ "java/lang/invoke/VarHandle" ∧ (parseMethodDescriptor yX5_isHadOn.desc).map (fun d => d.parameters.length) = some 2 := by decide +kernel
theorem gl_X5_164 : GoodIn lw_all (wsV RX5 164 RX5 yX5_dutyAt (lw_ws yX5_dutyAt cX5_dutyAt 3 (some (.object "DutyDesk$Duty")))) := lw_gV qw_99 qw_100 qw_101 qw_88 qw_102
theorem yd_X5_dutyAt : yX5_dutyAt.cls = RX5 ∧ yX5_dutyAt.cls ≠ "java/lang/invoke/MethodHandle" ∧ yX5_dutyAt.cls ≠ "java/lang/invoke/VarHandle" ∧ (parseMethodDescriptor yX5_dutyAt.desc).map (fun d => d.parameters.length) = some 1 := by decide +kernel
theorem gf_X5_197 {p : Program} {l : Launch} {e : Env} {R : Room} {s : State} {m : MethodId} {args : Array Value} {below : List Frame} {meth : Method} {c : Code} {H : Heap} {locs : List Loc} {cells slots : Nat} {Q : State → Prop} {cc : ByteArray} {pc : Nat} {ls : Array Slot} {rest : List Value} {g : dd_G} {ad : Nat → Nat} {sg : dd_S} {X : va_W} (hx : p.tables.exec = Jvm.exec) (hb : c.code = cc) (hts : ∀ w ∈ lw_all, w.before args s = true) (hown : s.vm.findClass RX5 = some m.cls) (hK : KC g s) (hP : va_P g.1 vwCl (WC g ad sg ++ X) H) {d : Nat} (hd : d < 15) (hdg : decode cc pc = .ok (.getfield 197, 3))
    (kk : W p l e R s m args below meth c H locs cells slots Q (F0 m (pc + 3) ls (.int (sg d 1) :: rest))) : W p l e R s m args below meth c H locs cells slots Q (F0 m pc ls (.ref (ad d) :: rest)) :=
  W_getN hx hb hts inw_X0 hown hK hP d (by omega) (cc_duty hd) rfl 1 (by decide) qw_103 rfl rfl hdg kk
theorem gf_X5_298 {p : Program} {l : Launch} {e : Env} {R : Room} {s : State} {m : MethodId} {args : Array Value} {below : List Frame} {meth : Method} {c : Code} {H : Heap} {locs : List Loc} {cells slots : Nat} {Q : State → Prop} {cc : ByteArray} {pc : Nat} {ls : Array Slot} {rest : List Value} {g : dd_G} {ad : Nat → Nat} {sg : dd_S} {X : va_W} (hx : p.tables.exec = Jvm.exec) (hb : c.code = cc) (hts : ∀ w ∈ lw_all, w.before args s = true) (hown : s.vm.findClass RX5 = some m.cls) (hK : KC g s) (hP : va_P g.1 vwCl (WC g ad sg ++ X) H) {d : Nat} (hd : d < 15) (hdg : decode cc pc = .ok (.getfield 298, 3))
    (kk : W p l e R s m args below meth c H locs cells slots Q (F0 m (pc + 3) ls (.int (sg d 2) :: rest))) : W p l e R s m args below meth c H locs cells slots Q (F0 m pc ls (.ref (ad d) :: rest)) :=
  W_getN hx hb hts inw_X0 hown hK hP d (by omega) (cc_duty hd) rfl 2 (by decide) qw_104 rfl rfl hdg kk
theorem gf_X5_327 {p : Program} {l : Launch} {e : Env} {R : Room} {s : State} {m : MethodId} {args : Array Value} {below : List Frame} {meth : Method} {c : Code} {H : Heap} {locs : List Loc} {cells slots : Nat} {Q : State → Prop} {cc : ByteArray} {pc : Nat} {ls : Array Slot} {rest : List Value} {g : dd_G} {ad : Nat → Nat} {sg : dd_S} {X : va_W} (hx : p.tables.exec = Jvm.exec) (hb : c.code = cc) (hts : ∀ w ∈ lw_all, w.before args s = true) (hown : s.vm.findClass RX5 = some m.cls) (hK : KC g s) (hP : va_P g.1 vwCl (WC g ad sg ++ X) H) {d : Nat} (hd : d < 15) (hdg : decode cc pc = .ok (.getfield 327, 3))
    (kk : W p l e R s m args below meth c H locs cells slots Q (F0 m (pc + 3) ls (.int (sg d 3) :: rest))) : W p l e R s m args below meth c H locs cells slots Q (F0 m pc ls (.ref (ad d) :: rest)) :=
  W_getN hx hb hts inw_X0 hown hK hP d (by omega) (cc_duty hd) rfl 3 (by decide) qw_105 rfl rfl hdg kk
theorem gf_X5_261 {p : Program} {l : Launch} {e : Env} {R : Room} {s : State} {m : MethodId} {args : Array Value} {below : List Frame} {meth : Method} {c : Code} {H : Heap} {locs : List Loc} {cells slots : Nat} {Q : State → Prop} {cc : ByteArray} {pc : Nat} {ls : Array Slot} {rest : List Value} {g : dd_G} {ad : Nat → Nat} {sg : dd_S} {X : va_W} (hx : p.tables.exec = Jvm.exec) (hb : c.code = cc) (hts : ∀ w ∈ lw_all, w.before args s = true) (hown : s.vm.findClass RX5 = some m.cls) (hK : KC g s) (hP : va_P g.1 vwCl (WC g ad sg ++ X) H) {d : Nat} (hd : d < 15) (hdg : decode cc pc = .ok (.getfield 261, 3))
    (kk : W p l e R s m args below meth c H locs cells slots Q (F0 m (pc + 3) ls (.int (sg d 4) :: rest))) : W p l e R s m args below meth c H locs cells slots Q (F0 m pc ls (.ref (ad d) :: rest)) :=
  W_getN hx hb hts inw_X0 hown hK hP d (by omega) (cc_duty hd) rfl 4 (by decide) qw_106 rfl rfl hdg kk
theorem gf_X5_255 {p : Program} {l : Launch} {e : Env} {R : Room} {s : State} {m : MethodId} {args : Array Value} {below : List Frame} {meth : Method} {c : Code} {H : Heap} {locs : List Loc} {cells slots : Nat} {Q : State → Prop} {cc : ByteArray} {pc : Nat} {ls : Array Slot} {rest : List Value} {g : dd_G} {ad : Nat → Nat} {sg : dd_S} {X : va_W} (hx : p.tables.exec = Jvm.exec) (hb : c.code = cc) (hts : ∀ w ∈ lw_all, w.before args s = true) (hown : s.vm.findClass RX5 = some m.cls) (hK : KC g s) (hP : va_P g.1 vwCl (WC g ad sg ++ X) H) {d : Nat} (hd : d < 15) (hdg : decode cc pc = .ok (.getfield 255, 3))
    (kk : W p l e R s m args below meth c H locs cells slots Q (F0 m (pc + 3) ls (.int (sg d 5) :: rest))) : W p l e R s m args below meth c H locs cells slots Q (F0 m pc ls (.ref (ad d) :: rest)) :=
  W_getN hx hb hts inw_X0 hown hK hP d (by omega) (cc_duty hd) rfl 5 (by decide) qw_107 rfl rfl hdg kk
theorem gf_X5_330 {p : Program} {l : Launch} {e : Env} {R : Room} {s : State} {m : MethodId} {args : Array Value} {below : List Frame} {meth : Method} {c : Code} {H : Heap} {locs : List Loc} {cells slots : Nat} {Q : State → Prop} {cc : ByteArray} {pc : Nat} {ls : Array Slot} {rest : List Value} {g : dd_G} {ad : Nat → Nat} {sg : dd_S} {X : va_W} (hx : p.tables.exec = Jvm.exec) (hb : c.code = cc) (hts : ∀ w ∈ lw_all, w.before args s = true) (hown : s.vm.findClass RX5 = some m.cls) (hK : KC g s) (hP : va_P g.1 vwCl (WC g ad sg ++ X) H) {d : Nat} (hd : d < 15) (hdg : decode cc pc = .ok (.getfield 330, 3))
    (kk : W p l e R s m args below meth c H locs cells slots Q (F0 m (pc + 3) ls (.int (sg d 6) :: rest))) : W p l e R s m args below meth c H locs cells slots Q (F0 m pc ls (.ref (ad d) :: rest)) :=
  W_getN hx hb hts inw_X0 hown hK hP d (by omega) (cc_duty hd) rfl 6 (by decide) qw_108 rfl rfl hdg kk
theorem gf_X5_333 {p : Program} {l : Launch} {e : Env} {R : Room} {s : State} {m : MethodId} {args : Array Value} {below : List Frame} {meth : Method} {c : Code} {H : Heap} {locs : List Loc} {cells slots : Nat} {Q : State → Prop} {cc : ByteArray} {pc : Nat} {ls : Array Slot} {rest : List Value} {g : dd_G} {ad : Nat → Nat} {sg : dd_S} {X : va_W} (hx : p.tables.exec = Jvm.exec) (hb : c.code = cc) (hts : ∀ w ∈ lw_all, w.before args s = true) (hown : s.vm.findClass RX5 = some m.cls) (hK : KC g s) (hP : va_P g.1 vwCl (WC g ad sg ++ X) H) {d : Nat} (hd : d < 15) (hdg : decode cc pc = .ok (.getfield 333, 3))
    (kk : W p l e R s m args below meth c H locs cells slots Q (F0 m (pc + 3) ls (.int (sg d 7) :: rest))) : W p l e R s m args below meth c H locs cells slots Q (F0 m pc ls (.ref (ad d) :: rest)) :=
  W_getN hx hb hts inw_X0 hown hK hP d (by omega) (cc_duty hd) rfl 7 (by decide) qw_109 rfl rfl hdg kk
theorem gf_X5_336 {p : Program} {l : Launch} {e : Env} {R : Room} {s : State} {m : MethodId} {args : Array Value} {below : List Frame} {meth : Method} {c : Code} {H : Heap} {locs : List Loc} {cells slots : Nat} {Q : State → Prop} {cc : ByteArray} {pc : Nat} {ls : Array Slot} {rest : List Value} {g : dd_G} {ad : Nat → Nat} {sg : dd_S} {X : va_W} (hx : p.tables.exec = Jvm.exec) (hb : c.code = cc) (hts : ∀ w ∈ lw_all, w.before args s = true) (hown : s.vm.findClass RX5 = some m.cls) (hK : KC g s) (hP : va_P g.1 vwCl (WC g ad sg ++ X) H) {d : Nat} (hd : d < 15) (hdg : decode cc pc = .ok (.getfield 336, 3))
    (kk : W p l e R s m args below meth c H locs cells slots Q (F0 m (pc + 3) ls (.int (sg d 8) :: rest))) : W p l e R s m args below meth c H locs cells slots Q (F0 m pc ls (.ref (ad d) :: rest)) :=
  W_getN hx hb hts inw_X0 hown hK hP d (by omega) (cc_duty hd) rfl 8 (by decide) qw_110 rfl rfl hdg kk
theorem gl_X5_177 : GoodIn lw_all (wsV RX5 177 RX5 yX5_isFixed (lw_ws yX5_isFixed cX5_isFixed 3 (some .boolean))) := lw_gV qw_111 qw_112 qw_113 qw_88 qw_114
theorem yd_X5_isFixed : yX5_isFixed.cls = RX5 ∧ yX5_isFixed.cls ≠ "java/lang/invoke/MethodHandle" ∧ yX5_isFixed.cls ≠ "java/lang/invoke/VarHandle" ∧ (parseMethodDescriptor yX5_isFixed.desc).map (fun d => d.parameters.length) = some 1 := by decide +kernel
theorem gf_X5_39 {p : Program} {l : Launch} {e : Env} {R : Room} {s : State} {m : MethodId} {args : Array Value} {below : List Frame} {meth : Method} {c : Code} {H : Heap} {locs : List Loc} {cells slots : Nat} {Q : State → Prop} {cc : ByteArray} {pc : Nat} {ls : Array Slot} {rest : List Value} {g : dd_G} {ad : Nat → Nat} {sg : dd_S} {X : va_W} (hx : p.tables.exec = Jvm.exec) (hb : c.code = cc) (hts : ∀ w ∈ lw_all, w.before args s = true) (hown : s.vm.findClass RX5 = some m.cls) (hK : KC g s) (hP : va_P g.1 vwCl (WC g ad sg ++ X) H) (hdg : decode cc pc = .ok (.getfield 39, 3))
    (kk : W p l e R s m args below meth c H locs cells slots Q (F0 m (pc + 3) ls (.ref (ad 12) :: rest))) : W p l e R s m args below meth c H locs cells slots Q (F0 m pc ls (.ref (ad 30) :: rest)) :=
  W_get hx hb hts inw_X5 hown hK hP 30 (by decide) cc_30 rfl 7 (by decide) qw_115 rfl rfl hdg kk
theorem gl_X5_185 : GoodIn lw_all (wsV RX5 185 RX0 yX0_copy (lw_ws yX0_copy cX0_copy 3 (none))) := lw_gV qw_116 qw_117 qw_118 qw_15 qw_119
theorem yd_X0_copy : yX0_copy.cls = RX0 ∧ yX0_copy.cls ≠ "java/lang/invoke/MethodHandle" ∧ yX0_copy.cls ≠ "java/lang/invoke/VarHandle" ∧ (parseMethodDescriptor yX0_copy.desc).map (fun d => d.parameters.length) = some 1 := by decide +kernel
theorem gl_X5_344 : GoodIn lw_all (wsV RX5 344 RX0 yX0_insert (lw_ws yX0_insert cX0_insert 7 (some .boolean))) := lw_gV qw_120 qw_121 qw_122 qw_15 qw_123
theorem yd_X0_insert : yX0_insert.cls = RX0 ∧ yX0_insert.cls ≠ "java/lang/invoke/MethodHandle" ∧ yX0_insert.cls ≠ "java/lang/invoke/VarHandle" ∧ (parseMethodDescriptor yX0_insert.desc).map (fun d => d.parameters.length) = some 2 := by decide +kernel
theorem gf_X5_19 {p : Program} {l : Launch} {e : Env} {R : Room} {s : State} {m : MethodId} {args : Array Value} {below : List Frame} {meth : Method} {c : Code} {H : Heap} {locs : List Loc} {cells slots : Nat} {Q : State → Prop} {cc : ByteArray} {pc : Nat} {ls : Array Slot} {rest : List Value} {g : dd_G} {ad : Nat → Nat} {sg : dd_S} {X : va_W} (hx : p.tables.exec = Jvm.exec) (hb : c.code = cc) (hts : ∀ w ∈ lw_all, w.before args s = true) (hown : s.vm.findClass RX5 = some m.cls) (hK : KC g s) (hP : va_P g.1 vwCl (WC g ad sg ++ X) H) (hdg : decode cc pc = .ok (.getfield 19, 3))
    (kk : W p l e R s m args below meth c H locs cells slots Q (F0 m (pc + 3) ls (.ref (ad 32) :: rest))) : W p l e R s m args below meth c H locs cells slots Q (F0 m pc ls (.ref (ad 30) :: rest)) :=
  W_get hx hb hts inw_X5 hown hK hP 30 (by decide) cc_30 rfl 1 (by decide) qw_124 rfl rfl hdg kk
theorem gl_X5_340 : GoodIn lw_all (wsV RX5 340 RX0 yX0_measure (lw_ws yX0_measure cX0_measure 3 (none))) := lw_gV qw_125 qw_126 qw_127 qw_15 qw_128
theorem yd_X0_measure : yX0_measure.cls = RX0 ∧ yX0_measure.cls ≠ "java/lang/invoke/MethodHandle" ∧ yX0_measure.cls ≠ "java/lang/invoke/VarHandle" ∧ (parseMethodDescriptor yX0_measure.desc).map (fun d => d.parameters.length) = some 2 := by decide +kernel
theorem gl_X5_189 : GoodIn lw_all (wsV RX5 189 RX5 yX5_assign (lw_ws yX5_assign cX5_assign 3 (none))) := lw_gV qw_129 qw_130 qw_131 qw_88 qw_132
theorem yd_X5_assign : yX5_assign.cls = RX5 ∧ yX5_assign.cls ≠ "java/lang/invoke/MethodHandle" ∧ yX5_assign.cls ≠ "java/lang/invoke/VarHandle" ∧ (parseMethodDescriptor yX5_assign.desc).map (fun d => d.parameters.length) = some 2 := by decide +kernel
theorem gl_X5_155 : GoodIn lw_all (wsV RX5 155 RX5 yX5_tryPut (lw_ws yX5_tryPut cX5_tryPut 3 (some .boolean))) := lw_gV qw_133 qw_134 qw_135 qw_88 qw_136
theorem yd_X5_tryPut : yX5_tryPut.cls = RX5 ∧ yX5_tryPut.cls ≠ "java/lang/invoke/MethodHandle" ∧ yX5_tryPut.cls ≠ "java/lang/invoke/VarHandle" ∧ (parseMethodDescriptor yX5_tryPut.desc).map (fun d => d.parameters.length) = some 2 := by decide +kernel
theorem gl_X5_203 : GoodIn lw_all (wsV RX5 203 RX5 yX5_cheapestDuty (lw_ws yX5_cheapestDuty cX5_cheapestDuty 6 (some .int))) := lw_gV qw_137 qw_138 qw_139 qw_88 qw_140
theorem yd_X5_cheapestDuty : yX5_cheapestDuty.cls = RX5 ∧ yX5_cheapestDuty.cls ≠ "java/lang/invoke/MethodHandle" ∧ yX5_cheapestDuty.cls ≠ "java/lang/invoke/VarHandle" ∧ (parseMethodDescriptor yX5_cheapestDuty.desc).map (fun d => d.parameters.length) = some 1 := by decide +kernel
theorem gl_X5_160 : GoodIn lw_all (wsV RX5 160 RX5 yX5_keepPut (lw_ws yX5_keepPut cX5_keepPut 3 (none))) := lw_gV qw_141 qw_142 qw_143 qw_88 qw_144
theorem yd_X5_keepPut : yX5_keepPut.cls = RX5 ∧ yX5_keepPut.cls ≠ "java/lang/invoke/MethodHandle" ∧ yX5_keepPut.cls ≠ "java/lang/invoke/VarHandle" ∧ (parseMethodDescriptor yX5_keepPut.desc).map (fun d => d.parameters.length) = some 2 := by decide +kernel
theorem pf_X5_137 {p : Program} {l : Launch} {e : Env} {R : Room} {s : State} {m : MethodId} {args : Array Value} {below : List Frame} {meth : Method} {c : Code} {H : Heap} {locs : List Loc} {cells slots : Nat} {Q : State → Prop} {cc : ByteArray} {pc : Nat} {ls : Array Slot} {rest : List Value} {g : dd_G} {ad : Nat → Nat} {sg : dd_S} {X : va_W} {A0 : Nat → Prop} {H0 : Heap} {x : Int32} (hx : p.tables.exec = Jvm.exec) (hb : c.code = cc) (hts : ∀ w ∈ lw_all, w.before args s = true) (hown : s.vm.findClass RX5 = some m.cls) (hK : KC g s) (hP : va_P g.1 vwCl (WC g ad sg ++ X) H) (hD : ∀ s2 : dd_S, va_D A0 (WC g ad s2 ++ X)) (hS : va_S A0 H0 H locs) (hdg : decode cc pc = .ok (.putfield 137, 3))
    (kk : ∀ (H1 : Heap) (locs1 : List Loc), va_P g.1 vwCl (WC g ad (st2 sg 30 5 x) ++ X) H1 → va_S A0 H0 H1 locs1 → W p l e R s m args below meth c H1 locs1 cells slots Q (F0 m (pc + 3) ls rest)) : W p l e R s m args below meth c H locs cells slots Q (F0 m pc ls (.int x :: .ref (ad 30) :: rest)) :=
  W_put hx hb hts inw_X5 tyX5 tyX5_ok nmX5 hown hK hP hD hS 30 (by decide) cc_30 rfl 5 (by decide) qw_76 rfl rfl (ty := .int) (tyX5_ok 5 (by decide)) rfl rfl (Nat.le_of_ble_eq_true rfl) (cc_30.trans rfl) hdg kk
theorem gl_X5_351 : GoodIn lw_all (wsV RX5 351 RX0 yX0_join (lw_ws yX0_join cX0_join 6 (none))) := lw_gV qw_145 qw_146 qw_147 qw_15 qw_148
theorem yd_X0_join : yX0_join.cls = RX0 ∧ yX0_join.cls ≠ "java/lang/invoke/MethodHandle" ∧ yX0_join.cls ≠ "java/lang/invoke/VarHandle" ∧ (parseMethodDescriptor yX0_join.desc).map (fun d => d.parameters.length) = some 4 := by decide +kernel
theorem gf_X5_43 {p : Program} {l : Launch} {e : Env} {R : Room} {s : State} {m : MethodId} {args : Array Value} {below : List Frame} {meth : Method} {c : Code} {H : Heap} {locs : List Loc} {cells slots : Nat} {Q : State → Prop} {cc : ByteArray} {pc : Nat} {ls : Array Slot} {rest : List Value} {g : dd_G} {ad : Nat → Nat} {sg : dd_S} {X : va_W} (hx : p.tables.exec = Jvm.exec) (hb : c.code = cc) (hts : ∀ w ∈ lw_all, w.before args s = true) (hown : s.vm.findClass RX5 = some m.cls) (hK : KC g s) (hP : va_P g.1 vwCl (WC g ad sg ++ X) H) (hdg : decode cc pc = .ok (.getfield 43, 3))
    (kk : W p l e R s m args below meth c H locs cells slots Q (F0 m (pc + 3) ls (.ref (ad 13) :: rest))) : W p l e R s m args below meth c H locs cells slots Q (F0 m pc ls (.ref (ad 30) :: rest)) :=
  W_get hx hb hts inw_X5 hown hK hP 30 (by decide) cc_30 rfl 8 (by decide) qw_149 rfl rfl hdg kk
theorem gl_X5_200 : GoodIn lw_all (wsV RX5 200 RX0 yX0_tripIn (lw_ws yX0_tripIn cX0_tripIn 2 (some .int))) := lw_gV qw_150 qw_13 qw_14 qw_15 qw_16
theorem gl_X5_355 : GoodIn lw_all (wsV RX5 355 RX5 yX5_assignTripsOf (lw_ws yX5_assignTripsOf cX5_assignTripsOf 4 (none))) := lw_gV qw_151 qw_152 qw_153 qw_88 qw_154
theorem yd_X5_assignTripsOf : yX5_assignTripsOf.cls = RX5 ∧ yX5_assignTripsOf.cls ≠ "java/lang/invoke/MethodHandle" ∧ yX5_assignTripsOf.cls ≠ "java/lang/invoke/VarHandle" ∧ (parseMethodDescriptor yX5_assignTripsOf.desc).map (fun d => d.parameters.length) = some 1 := by decide +kernel
theorem gl_X5_227 : GoodIn lw_all (wsV RX5 227 RX5 yX5_tryExchange (lw_ws yX5_tryExchange cX5_tryExchange 4 (some .boolean))) := lw_gV qw_155 qw_156 qw_157 qw_88 qw_158
theorem yd_X5_tryExchange : yX5_tryExchange.cls = RX5 ∧ yX5_tryExchange.cls ≠ "java/lang/invoke/MethodHandle" ∧ yX5_tryExchange.cls ≠ "java/lang/invoke/VarHandle" ∧ (parseMethodDescriptor yX5_tryExchange.desc).map (fun d => d.parameters.length) = some 3 := by decide +kernel
theorem gf_X5_56 {p : Program} {l : Launch} {e : Env} {R : Room} {s : State} {m : MethodId} {args : Array Value} {below : List Frame} {meth : Method} {c : Code} {H : Heap} {locs : List Loc} {cells slots : Nat} {Q : State → Prop} {cc : ByteArray} {pc : Nat} {ls : Array Slot} {rest : List Value} {g : dd_G} {ad : Nat → Nat} {sg : dd_S} {X : va_W} (hx : p.tables.exec = Jvm.exec) (hb : c.code = cc) (hts : ∀ w ∈ lw_all, w.before args s = true) (hown : s.vm.findClass RX5 = some m.cls) (hK : KC g s) (hP : va_P g.1 vwCl (WC g ad sg ++ X) H) (hdg : decode cc pc = .ok (.getfield 56, 3))
    (kk : W p l e R s m args below meth c H locs cells slots Q (F0 m (pc + 3) ls (.ref (ad 39) :: rest))) : W p l e R s m args below meth c H locs cells slots Q (F0 m pc ls (.ref (ad 30) :: rest)) :=
  W_get hx hb hts inw_X5 hown hK hP 30 (by decide) cc_30 rfl 10 (by decide) qw_159 rfl rfl hdg kk
theorem gl_X5_233 : GoodIn lw_all (wsV RX5 233 RX5 yX5_changeOfPay (lw_ws yX5_changeOfPay cX5_changeOfPay 3 (some .int))) := lw_gV qw_160 qw_161 qw_162 qw_88 qw_163
theorem yd_X5_changeOfPay : yX5_changeOfPay.cls = RX5 ∧ yX5_changeOfPay.cls ≠ "java/lang/invoke/MethodHandle" ∧ yX5_changeOfPay.cls ≠ "java/lang/invoke/VarHandle" ∧ (parseMethodDescriptor yX5_changeOfPay.desc).map (fun d => d.parameters.length) = some 2 := by decide +kernel
theorem gl_X5_361 : GoodIn lw_all (wsV RX5 361 RX1 yX1_offer (lw_ws yX1_offer cX1_offer 6 (none))) := lw_gV qw_164 qw_165 qw_166 qw_167 qw_168
theorem yd_X1_offer : yX1_offer.cls = RX1 ∧ yX1_offer.cls ≠ "java/lang/invoke/MethodHandle" ∧ yX1_offer.cls ≠ "java/lang/invoke/VarHandle" ∧ (parseMethodDescriptor yX1_offer.desc).map (fun d => d.parameters.length) = some 4 := by decide +kernel
theorem gl_X5_358 : GoodIn lw_all (wsV RX5 358 RX5 yX5_weighTimesOf (lw_ws yX5_weighTimesOf cX5_weighTimesOf 7 (none))) := lw_gV qw_169 qw_170 qw_171 qw_88 qw_172
theorem yd_X5_weighTimesOf : yX5_weighTimesOf.cls = RX5 ∧ yX5_weighTimesOf.cls ≠ "java/lang/invoke/MethodHandle" ∧ yX5_weighTimesOf.cls ≠ "java/lang/invoke/VarHandle" ∧ (parseMethodDescriptor yX5_weighTimesOf.desc).map (fun d => d.parameters.length) = some 3 := by decide +kernel
theorem gl_X5_295 : GoodIn lw_all (wsV RX5 295 RX5 yX5_isOpenOn (lw_ws yX5_isOpenOn cX5_isOpenOn 3 (some .boolean))) := lw_gV qw_173 qw_174 qw_175 qw_88 qw_176
theorem yd_X5_isOpenOn : yX5_isOpenOn.cls = RX5 ∧ yX5_isOpenOn.cls ≠ "java/lang/invoke/MethodHandle" ∧ yX5_isOpenOn.cls ≠ "java/lang/invoke/VarHandle" ∧ (parseMethodDescriptor yX5_isOpenOn.desc).map (fun d => d.parameters.length) = some 2 := by decide +kernel
theorem gl_X5_311 : GoodIn lw_all (wsV RX5 311 RX5 yX5_restBetween (lw_ws yX5_restBetween cX5_restBetween 3 (some .int))) := lw_gV qw_177 qw_178 qw_179 qw_88 qw_180
theorem yd_X5_restBetween : yX5_restBetween.cls = RX5 ∧ yX5_restBetween.cls ≠ "java/lang/invoke/MethodHandle" ∧ yX5_restBetween.cls ≠ "java/lang/invoke/VarHandle" ∧ (parseMethodDescriptor yX5_restBetween.desc).map (fun d => d.parameters.length) = some 2 := by decide +kernel
theorem gf_X5_130 {p : Program} {l : Launch} {e : Env} {R : Room} {s : State} {m : MethodId} {args : Array Value} {below : List Frame} {meth : Method} {c : Code} {H : Heap} {locs : List Loc} {cells slots : Nat} {Q : State → Prop} {cc : ByteArray} {pc : Nat} {ls : Array Slot} {rest : List Value} {g : dd_G} {ad : Nat → Nat} {sg : dd_S} {X : va_W} (hx : p.tables.exec = Jvm.exec) (hb : c.code = cc) (hts : ∀ w ∈ lw_all, w.before args s = true) (hown : s.vm.findClass RX5 = some m.cls) (hK : KC g s) (hP : va_P g.1 vwCl (WC g ad sg ++ X) H) (hdg : decode cc pc = .ok (.getfield 130, 3))
    (kk : W p l e R s m args below meth c H locs cells slots Q (F0 m (pc + 3) ls (.int (sg 32 3) :: rest))) : W p l e R s m args below meth c H locs cells slots Q (F0 m pc ls (.ref (ad 32) :: rest)) :=
  W_get hx hb hts inw_X3 hown hK hP 32 (by decide) cc_32 rfl 3 (by decide) qw_181 rfl rfl hdg kk
theorem gl_X5_368 : GoodIn lw_all (wsV RX5 368 RX5 yX5_daysInARow (lw_ws yX5_daysInARow cX5_daysInARow 5 (some .int))) := lw_gV qw_182 qw_183 qw_184 qw_88 qw_185
theorem yd_X5_daysInARow : yX5_daysInARow.cls = RX5 ∧ yX5_daysInARow.cls ≠ "java/lang/invoke/MethodHandle" ∧ yX5_daysInARow.cls ≠ "java/lang/invoke/VarHandle" ∧ (parseMethodDescriptor yX5_daysInARow.desc).map (fun d => d.parameters.length) = some 2 := by decide +kernel
theorem gl_X5_283 : GoodIn lw_all (wsV RX5 283 RX5 yX5_weekPay (lw_ws yX5_weekPay cX5_weekPay 4 (some .int))) := lw_gV qw_186 qw_187 qw_188 qw_88 qw_189
theorem yd_X5_weekPay : yX5_weekPay.cls = RX5 ∧ yX5_weekPay.cls ≠ "java/lang/invoke/MethodHandle" ∧ yX5_weekPay.cls ≠ "java/lang/invoke/VarHandle" ∧ (parseMethodDescriptor yX5_weekPay.desc).map (fun d => d.parameters.length) = some 1 := by decide +kernel
theorem gl_X5_371 : GoodIn lw_all (wsV RX5 371 RX5 yX5_hasRest (lw_ws yX5_hasRest cX5_hasRest 6 (some .boolean))) := lw_gV qw_190 qw_191 qw_192 qw_88 qw_193
theorem yd_X5_hasRest : yX5_hasRest.cls = RX5 ∧ yX5_hasRest.cls ≠ "java/lang/invoke/MethodHandle" ∧ yX5_hasRest.cls ≠ "java/lang/invoke/VarHandle" ∧ (parseMethodDescriptor yX5_hasRest.desc).map (fun d => d.parameters.length) = some 3 := by decide +kernel
theorem gl_X5_274 : GoodIn lw_all (wsV RX5 274 RX5 yX5_reasonAgainst (lw_ws yX5_reasonAgainst cX5_reasonAgainst 5 (some .int))) := lw_gV qw_194 qw_195 qw_196 qw_88 qw_197
theorem yd_X5_reasonAgainst : yX5_reasonAgainst.cls = RX5 ∧ yX5_reasonAgainst.cls ≠ "java/lang/invoke/MethodHandle" ∧ yX5_reasonAgainst.cls ≠ "java/lang/invoke/VarHandle" ∧ (parseMethodDescriptor yX5_reasonAgainst.desc).map (fun d => d.parameters.length) = some 3 := by decide +kernel
theorem gl_X5_374 : GoodIn lw_all (wsV RX5 374 RX5 yX5_cheapestDriver (lw_ws yX5_cheapestDriver cX5_cheapestDriver 7 (some .int))) := lw_gV qw_198 qw_199 qw_200 qw_88 qw_201
theorem yd_X5_cheapestDriver : yX5_cheapestDriver.cls = RX5 ∧ yX5_cheapestDriver.cls ≠ "java/lang/invoke/MethodHandle" ∧ yX5_cheapestDriver.cls ≠ "java/lang/invoke/VarHandle" ∧ (parseMethodDescriptor yX5_cheapestDriver.desc).map (fun d => d.parameters.length) = some 2 := by decide +kernel
theorem gl_X5_280 : GoodIn lw_all (wsV RX5 280 RX5 yX5_enter (lw_ws yX5_enter cX5_enter 4 (none))) := lw_gV qw_202 qw_203 qw_204 qw_88 qw_205
theorem yd_X5_enter : yX5_enter.cls = RX5 ∧ yX5_enter.cls ≠ "java/lang/invoke/MethodHandle" ∧ yX5_enter.cls ≠ "java/lang/invoke/VarHandle" ∧ (parseMethodDescriptor yX5_enter.desc).map (fun d => d.parameters.length) = some 3 := by decide +kernel
theorem gf_X5_49 {p : Program} {l : Launch} {e : Env} {R : Room} {s : State} {m : MethodId} {args : Array Value} {below : List Frame} {meth : Method} {c : Code} {H : Heap} {locs : List Loc} {cells slots : Nat} {Q : State → Prop} {cc : ByteArray} {pc : Nat} {ls : Array Slot} {rest : List Value} {g : dd_G} {ad : Nat → Nat} {sg : dd_S} {X : va_W} (hx : p.tables.exec = Jvm.exec) (hb : c.code = cc) (hts : ∀ w ∈ lw_all, w.before args s = true) (hown : s.vm.findClass RX5 = some m.cls) (hK : KC g s) (hP : va_P g.1 vwCl (WC g ad sg ++ X) H) (hdg : decode cc pc = .ok (.getfield 49, 3))
    (kk : W p l e R s m args below meth c H locs cells slots Q (F0 m (pc + 3) ls (.ref (ad 36) :: rest))) : W p l e R s m args below meth c H locs cells slots Q (F0 m pc ls (.ref (ad 30) :: rest)) :=
  W_get hx hb hts inw_X5 hown hK hP 30 (by decide) cc_30 rfl 9 (by decide) qw_206 rfl rfl hdg kk
theorem gl_X5_206 : GoodIn lw_all (wsV RX5 206 RX2 yX2_clear (lw_ws yX2_clear cX2_clear 1 (none))) := lw_gV qw_207 qw_208 qw_209 qw_210 qw_211
theorem yd_X2_clear : yX2_clear.cls = RX2 ∧ yX2_clear.cls ≠ "java/lang/invoke/MethodHandle" ∧ yX2_clear.cls ≠ "java/lang/invoke/VarHandle" ∧ (parseMethodDescriptor yX2_clear.desc).map (fun d => d.parameters.length) = some 0 := by decide +kernel
theorem gl_X5_212 : GoodIn lw_all (wsV RX5 212 RX2 yX2_insert (lw_ws yX2_insert cX2_insert 4 (none))) := lw_gV qw_212 qw_213 qw_214 qw_210 qw_215
theorem yd_X2_insert : yX2_insert.cls = RX2 ∧ yX2_insert.cls ≠ "java/lang/invoke/MethodHandle" ∧ yX2_insert.cls ≠ "java/lang/invoke/VarHandle" ∧ (parseMethodDescriptor yX2_insert.desc).map (fun d => d.parameters.length) = some 2 := by decide +kernel
theorem gf_X5_215 {p : Program} {l : Launch} {e : Env} {R : Room} {s : State} {m : MethodId} {args : Array Value} {below : List Frame} {meth : Method} {c : Code} {H : Heap} {locs : List Loc} {cells slots : Nat} {Q : State → Prop} {cc : ByteArray} {pc : Nat} {ls : Array Slot} {rest : List Value} {g : dd_G} {ad : Nat → Nat} {sg : dd_S} {X : va_W} (hx : p.tables.exec = Jvm.exec) (hb : c.code = cc) (hts : ∀ w ∈ lw_all, w.before args s = true) (hown : s.vm.findClass RX5 = some m.cls) (hK : KC g s) (hP : va_P g.1 vwCl (WC g ad sg ++ X) H) (hdg : decode cc pc = .ok (.getfield 215, 3))
    (kk : W p l e R s m args below meth c H locs cells slots Q (F0 m (pc + 3) ls (.int (sg 36 2) :: rest))) : W p l e R s m args below meth c H locs cells slots Q (F0 m pc ls (.ref (ad 36) :: rest)) :=
  W_getN hx hb hts inw_X2 hown hK hP 36 (by decide) cc_36 rfl 2 (by decide) qw_216 rfl rfl hdg kk
theorem gl_X5_143 : GoodIn lw_all (wsV RX5 143 RX5 yX5_freeTrips (lw_ws yX5_freeTrips cX5_freeTrips 3 (some .int))) := lw_gV qw_217 qw_218 qw_219 qw_88 qw_220
theorem yd_X5_freeTrips : yX5_freeTrips.cls = RX5 ∧ yX5_freeTrips.cls ≠ "java/lang/invoke/MethodHandle" ∧ yX5_freeTrips.cls ≠ "java/lang/invoke/VarHandle" ∧ (parseMethodDescriptor yX5_freeTrips.desc).map (fun d => d.parameters.length) = some 0 := by decide +kernel
theorem gl_X5_216 : GoodIn lw_all (wsV RX5 216 RX2 yX2_numberIn (lw_ws yX2_numberIn cX2_numberIn 2 (some .int))) := lw_gV qw_221 qw_222 qw_223 qw_210 qw_224
theorem yd_X2_numberIn : yX2_numberIn.cls = RX2 ∧ yX2_numberIn.cls ≠ "java/lang/invoke/MethodHandle" ∧ yX2_numberIn.cls ≠ "java/lang/invoke/VarHandle" ∧ (parseMethodDescriptor yX2_numberIn.desc).map (fun d => d.parameters.length) = some 1 := by decide +kernel
theorem gl_X5_219 : GoodIn lw_all (wsV RX5 219 RX5 yX5_planTrip (lw_ws yX5_planTrip cX5_planTrip 3 (none))) := lw_gV qw_225 qw_226 qw_227 qw_88 qw_228
theorem yd_X5_planTrip : yX5_planTrip.cls = RX5 ∧ yX5_planTrip.cls ≠ "java/lang/invoke/MethodHandle" ∧ yX5_planTrip.cls ≠ "java/lang/invoke/VarHandle" ∧ (parseMethodDescriptor yX5_planTrip.desc).map (fun d => d.parameters.length) = some 1 := by decide +kernel
theorem gl_X5_239 : GoodIn lw_all (wsV RX5 239 RX1 yX1_clear (lw_ws yX1_clear cX1_clear 1 (none))) := lw_gV qw_229 qw_230 qw_231 qw_167 qw_232
theorem yd_X1_clear : yX1_clear.cls = RX1 ∧ yX1_clear.cls ≠ "java/lang/invoke/MethodHandle" ∧ yX1_clear.cls ≠ "java/lang/invoke/VarHandle" ∧ (parseMethodDescriptor yX1_clear.desc).map (fun d => d.parameters.length) = some 0 := by decide +kernel
theorem gf_X5_243 {p : Program} {l : Launch} {e : Env} {R : Room} {s : State} {m : MethodId} {args : Array Value} {below : List Frame} {meth : Method} {c : Code} {H : Heap} {locs : List Loc} {cells slots : Nat} {Q : State → Prop} {cc : ByteArray} {pc : Nat} {ls : Array Slot} {rest : List Value} {g : dd_G} {ad : Nat → Nat} {sg : dd_S} {X : va_W} (hx : p.tables.exec = Jvm.exec) (hb : c.code = cc) (hts : ∀ w ∈ lw_all, w.before args s = true) (hown : s.vm.findClass RX5 = some m.cls) (hK : KC g s) (hP : va_P g.1 vwCl (WC g ad sg ++ X) H) (hdg : decode cc pc = .ok (.getfield 243, 3))
    (kk : W p l e R s m args below meth c H locs cells slots Q (F0 m (pc + 3) ls (.int (sg 39 3) :: rest))) : W p l e R s m args below meth c H locs cells slots Q (F0 m pc ls (.ref (ad 39) :: rest)) :=
  W_getN hx hb hts inw_X1 hown hK hP 39 (by decide) cc_39 rfl 3 (by decide) qw_233 rfl rfl hdg kk
theorem gf_X5_246 {p : Program} {l : Launch} {e : Env} {R : Room} {s : State} {m : MethodId} {args : Array Value} {below : List Frame} {meth : Method} {c : Code} {H : Heap} {locs : List Loc} {cells slots : Nat} {Q : State → Prop} {cc : ByteArray} {pc : Nat} {ls : Array Slot} {rest : List Value} {g : dd_G} {ad : Nat → Nat} {sg : dd_S} {X : va_W} (hx : p.tables.exec = Jvm.exec) (hb : c.code = cc) (hts : ∀ w ∈ lw_all, w.before args s = true) (hown : s.vm.findClass RX5 = some m.cls) (hK : KC g s) (hP : va_P g.1 vwCl (WC g ad sg ++ X) H) (hdg : decode cc pc = .ok (.getfield 246, 3))
    (kk : W p l e R s m args below meth c H locs cells slots Q (F0 m (pc + 3) ls (.int (sg 39 0) :: rest))) : W p l e R s m args below meth c H locs cells slots Q (F0 m pc ls (.ref (ad 39) :: rest)) :=
  W_getN hx hb hts inw_X1 hown hK hP 39 (by decide) cc_39 rfl 0 (by decide) qw_234 rfl rfl hdg kk
theorem gf_X5_249 {p : Program} {l : Launch} {e : Env} {R : Room} {s : State} {m : MethodId} {args : Array Value} {below : List Frame} {meth : Method} {c : Code} {H : Heap} {locs : List Loc} {cells slots : Nat} {Q : State → Prop} {cc : ByteArray} {pc : Nat} {ls : Array Slot} {rest : List Value} {g : dd_G} {ad : Nat → Nat} {sg : dd_S} {X : va_W} (hx : p.tables.exec = Jvm.exec) (hb : c.code = cc) (hts : ∀ w ∈ lw_all, w.before args s = true) (hown : s.vm.findClass RX5 = some m.cls) (hK : KC g s) (hP : va_P g.1 vwCl (WC g ad sg ++ X) H) (hdg : decode cc pc = .ok (.getfield 249, 3))
    (kk : W p l e R s m args below meth c H locs cells slots Q (F0 m (pc + 3) ls (.int (sg 39 1) :: rest))) : W p l e R s m args below meth c H locs cells slots Q (F0 m pc ls (.ref (ad 39) :: rest)) :=
  W_getN hx hb hts inw_X1 hown hK hP 39 (by decide) cc_39 rfl 1 (by decide) qw_235 rfl rfl hdg kk
theorem gf_X5_252 {p : Program} {l : Launch} {e : Env} {R : Room} {s : State} {m : MethodId} {args : Array Value} {below : List Frame} {meth : Method} {c : Code} {H : Heap} {locs : List Loc} {cells slots : Nat} {Q : State → Prop} {cc : ByteArray} {pc : Nat} {ls : Array Slot} {rest : List Value} {g : dd_G} {ad : Nat → Nat} {sg : dd_S} {X : va_W} (hx : p.tables.exec = Jvm.exec) (hb : c.code = cc) (hts : ∀ w ∈ lw_all, w.before args s = true) (hown : s.vm.findClass RX5 = some m.cls) (hK : KC g s) (hP : va_P g.1 vwCl (WC g ad sg ++ X) H) (hdg : decode cc pc = .ok (.getfield 252, 3))
    (kk : W p l e R s m args below meth c H locs cells slots Q (F0 m (pc + 3) ls (.int (sg 39 2) :: rest))) : W p l e R s m args below meth c H locs cells slots Q (F0 m pc ls (.ref (ad 39) :: rest)) :=
  W_getN hx hb hts inw_X1 hown hK hP 39 (by decide) cc_39 rfl 2 (by decide) qw_236 rfl rfl hdg kk
theorem gl_X5_236 : GoodIn lw_all (wsV RX5 236 RX5 yX5_keepExchange (lw_ws yX5_keepExchange cX5_keepExchange 3 (none))) := lw_gV qw_237 qw_238 qw_239 qw_88 qw_240
theorem yd_X5_keepExchange : yX5_keepExchange.cls = RX5 ∧ yX5_keepExchange.cls ≠ "java/lang/invoke/MethodHandle" ∧ yX5_keepExchange.cls ≠ "java/lang/invoke/VarHandle" ∧ (parseMethodDescriptor yX5_keepExchange.desc).map (fun d => d.parameters.length) = some 2 := by decide +kernel
theorem gl_X5_240 : GoodIn lw_all (wsV RX5 240 RX5 yX5_weighPairsOf (lw_ws yX5_weighPairsOf cX5_weighPairsOf 3 (none))) := lw_gV qw_241 qw_242 qw_243 qw_88 qw_244
theorem yd_X5_weighPairsOf : yX5_weighPairsOf.cls = RX5 ∧ yX5_weighPairsOf.cls ≠ "java/lang/invoke/MethodHandle" ∧ yX5_weighPairsOf.cls ≠ "java/lang/invoke/VarHandle" ∧ (parseMethodDescriptor yX5_weighPairsOf.desc).map (fun d => d.parameters.length) = some 1 := by decide +kernel
theorem gl_X5_63 : GoodIn lw_all (wsS RX5 63 yX5_isPoint (lw_ws yX5_isPoint cX5_isPoint 1 (some .boolean))) := lw_gS qw_245 qw_246 qw_88 qw_247
theorem yd_X5_isPoint : yX5_isPoint.cls = RX5 ∧ yX5_isPoint.cls ≠ "java/lang/invoke/MethodHandle" ∧ yX5_isPoint.cls ≠ "java/lang/invoke/VarHandle" ∧ (parseMethodDescriptor yX5_isPoint.desc).map (fun d => d.parameters.length) = some 1 := by decide +kernel
theorem gl_X5_90 : GoodIn lw_all (wsS RX5 90 yX5_areTimesOfTrip (lw_ws yX5_areTimesOfTrip cX5_areTimesOfTrip 2 (some .boolean))) := lw_gS qw_248 qw_249 qw_88 qw_250
theorem yd_X5_areTimesOfTrip : yX5_areTimesOfTrip.cls = RX5 ∧ yX5_areTimesOfTrip.cls ≠ "java/lang/invoke/MethodHandle" ∧ yX5_areTimesOfTrip.cls ≠ "java/lang/invoke/VarHandle" ∧ (parseMethodDescriptor yX5_areTimesOfTrip.desc).map (fun d => d.parameters.length) = some 2 := by decide +kernel
theorem gl_X5_105 : GoodIn lw_all (wsV RX5 105 RX4 yX4_append (lw_ws yX4_append cX4_append 5 (some .int))) := lw_gV qw_251 qw_252 qw_253 qw_10 qw_254
theorem yd_X4_append : yX4_append.cls = RX4 ∧ yX4_append.cls ≠ "java/lang/invoke/MethodHandle" ∧ yX4_append.cls ≠ "java/lang/invoke/VarHandle" ∧ (parseMethodDescriptor yX4_append.desc).map (fun d => d.parameters.length) = some 4 := by decide +kernel
theorem gl_X5_109 : GoodIn lw_all (wsV RX5 109 RX5 yX5_isTrip (lw_ws yX5_isTrip cX5_isTrip 2 (some .boolean))) := lw_gV qw_255 qw_256 qw_257 qw_88 qw_258
theorem yd_X5_isTrip : yX5_isTrip.cls = RX5 ∧ yX5_isTrip.cls ≠ "java/lang/invoke/MethodHandle" ∧ yX5_isTrip.cls ≠ "java/lang/invoke/VarHandle" ∧ (parseMethodDescriptor yX5_isTrip.desc).map (fun d => d.parameters.length) = some 1 := by decide +kernel
theorem gl_X5_114 : GoodIn lw_all (wsV RX5 114 RX5 yX5_tripFact (lw_ws yX5_tripFact cX5_tripFact 3 (some .int))) := lw_gV qw_259 qw_260 qw_261 qw_88 qw_262
theorem yd_X5_tripFact : yX5_tripFact.cls = RX5 ∧ yX5_tripFact.cls ≠ "java/lang/invoke/MethodHandle" ∧ yX5_tripFact.cls ≠ "java/lang/invoke/VarHandle" ∧ (parseMethodDescriptor yX5_tripFact.desc).map (fun d => d.parameters.length) = some 2 := by decide +kernel
theorem gl_X5_150 : GoodIn lw_all (wsV RX5 150 RX5 yX5_isDuty (lw_ws yX5_isDuty cX5_isDuty 2 (some .boolean))) := lw_gV qw_263 qw_264 qw_265 qw_88 qw_266
theorem yd_X5_isDuty : yX5_isDuty.cls = RX5 ∧ yX5_isDuty.cls ≠ "java/lang/invoke/MethodHandle" ∧ yX5_isDuty.cls ≠ "java/lang/invoke/VarHandle" ∧ (parseMethodDescriptor yX5_isDuty.desc).map (fun d => d.parameters.length) = some 1 := by decide +kernel
theorem gl_X5_194 : GoodIn lw_all (wsV RX5 194 RX5 yX5_dutyFact (lw_ws yX5_dutyFact cX5_dutyFact 4 (some .int))) := lw_gV qw_267 qw_268 qw_269 qw_88 qw_270
theorem yd_X5_dutyFact : yX5_dutyFact.cls = RX5 ∧ yX5_dutyFact.cls ≠ "java/lang/invoke/MethodHandle" ∧ yX5_dutyFact.cls ≠ "java/lang/invoke/VarHandle" ∧ (parseMethodDescriptor yX5_dutyFact.desc).map (fun d => d.parameters.length) = some 2 := by decide +kernel
theorem pf_X5_140 {p : Program} {l : Launch} {e : Env} {R : Room} {s : State} {m : MethodId} {args : Array Value} {below : List Frame} {meth : Method} {c : Code} {H : Heap} {locs : List Loc} {cells slots : Nat} {Q : State → Prop} {cc : ByteArray} {pc : Nat} {ls : Array Slot} {rest : List Value} {g : dd_G} {ad : Nat → Nat} {sg : dd_S} {X : va_W} {A0 : Nat → Prop} {H0 : Heap} {x : Int32} (hx : p.tables.exec = Jvm.exec) (hb : c.code = cc) (hts : ∀ w ∈ lw_all, w.before args s = true) (hown : s.vm.findClass RX5 = some m.cls) (hK : KC g s) (hP : va_P g.1 vwCl (WC g ad sg ++ X) H) (hD : ∀ s2 : dd_S, va_D A0 (WC g ad s2 ++ X)) (hS : va_S A0 H0 H locs) (hdg : decode cc pc = .ok (.putfield 140, 3))
    (kk : ∀ (H1 : Heap) (locs1 : List Loc), va_P g.1 vwCl (WC g ad (st2 sg 30 6 x) ++ X) H1 → va_S A0 H0 H1 locs1 → W p l e R s m args below meth c H1 locs1 cells slots Q (F0 m (pc + 3) ls rest)) : W p l e R s m args below meth c H locs cells slots Q (F0 m pc ls (.int x :: .ref (ad 30) :: rest)) :=
  W_put hx hb hts inw_X5 tyX5 tyX5_ok nmX5 hown hK hP hD hS 30 (by decide) cc_30 rfl 6 (by decide) qw_77 rfl rfl (ty := .int) (tyX5_ok 6 (by decide)) rfl rfl (Nat.le_of_ble_eq_true rfl) (cc_30.trans rfl) hdg kk
theorem gl_X5_266 : GoodIn lw_all (wsV RX5 266 RX5 yX5_isDriver (lw_ws yX5_isDriver cX5_isDriver 2 (some .boolean))) := lw_gV qw_271 qw_272 qw_273 qw_88 qw_274
theorem yd_X5_isDriver : yX5_isDriver.cls = RX5 ∧ yX5_isDriver.cls ≠ "java/lang/invoke/MethodHandle" ∧ yX5_isDriver.cls ≠ "java/lang/invoke/VarHandle" ∧ (parseMethodDescriptor yX5_isDriver.desc).map (fun d => d.parameters.length) = some 1 := by decide +kernel
theorem gl_X5_269 : GoodIn lw_all (wsS RX5 269 yX5_isDay (lw_ws yX5_isDay cX5_isDay 1 (some .boolean))) := lw_gS qw_275 qw_276 qw_88 qw_277
theorem yd_X5_isDay : yX5_isDay.cls = RX5 ∧ yX5_isDay.cls ≠ "java/lang/invoke/MethodHandle" ∧ yX5_isDay.cls ≠ "java/lang/invoke/VarHandle" ∧ (parseMethodDescriptor yX5_isDay.desc).map (fun d => d.parameters.length) = some 1 := by decide +kernel
theorem gl_X5_304 : GoodIn lw_all (wsV RX5 304 RX5 yX5_openDuties (lw_ws yX5_openDuties cX5_openDuties 4 (some .int))) := lw_gV qw_278 qw_279 qw_280 qw_88 qw_281
theorem yd_X5_openDuties : yX5_openDuties.cls = RX5 ∧ yX5_openDuties.cls ≠ "java/lang/invoke/MethodHandle" ∧ yX5_openDuties.cls ≠ "java/lang/invoke/VarHandle" ∧ (parseMethodDescriptor yX5_openDuties.desc).map (fun d => d.parameters.length) = some 1 := by decide +kernel
theorem gl_X5_301 : GoodIn lw_all (wsV RX5 301 RX5 yX5_fillWith (lw_ws yX5_fillWith cX5_fillWith 4 (none))) := lw_gV qw_282 qw_283 qw_284 qw_88 qw_285
theorem yd_X5_fillWith : yX5_fillWith.cls = RX5 ∧ yX5_fillWith.cls ≠ "java/lang/invoke/MethodHandle" ∧ yX5_fillWith.cls ≠ "java/lang/invoke/VarHandle" ∧ (parseMethodDescriptor yX5_fillWith.desc).map (fun d => d.parameters.length) = some 2 := by decide +kernel
