theorem dX6_init_0 : decode cX6_init 0 = .ok (.aload_n 0, 1) := by decide +kernel
theorem dX6_init_1 : decode cX6_init 1 = .ok (.invokespecial 1, 3) := by decide +kernel
theorem dX6_init_4 : decode cX6_init 4 = .ok (.aload_n 0, 1) := by decide +kernel
theorem dX6_init_5 : decode cX6_init 5 = .ok (.bipush 36, 2) := by decide +kernel
theorem dX6_init_7 : decode cX6_init 7 = .ok (.newarray .int, 2) := by decide +kernel
theorem dX6_init_9 : decode cX6_init 9 = .ok (.putfield 9, 3) := by decide +kernel
theorem dX6_init_12 : decode cX6_init 12 = .ok (.aload_n 0, 1) := by decide +kernel
theorem dX6_init_13 : decode cX6_init 13 = .ok (.bipush 40, 2) := by decide +kernel
theorem dX6_init_15 : decode cX6_init 15 = .ok (.newarray .int, 2) := by decide +kernel
theorem dX6_init_17 : decode cX6_init 17 = .ok (.putfield 13, 3) := by decide +kernel
theorem dX6_init_20 : decode cX6_init 20 = .ok (.aload_n 0, 1) := by decide +kernel
theorem dX6_init_21 : decode cX6_init 21 = .ok (.bipush 40, 2) := by decide +kernel
theorem dX6_init_23 : decode cX6_init 23 = .ok (.newarray .int, 2) := by decide +kernel
theorem dX6_init_25 : decode cX6_init 25 = .ok (.putfield 16, 3) := by decide +kernel
theorem dX6_init_28 : decode cX6_init 28 = .ok (.aload_n 0, 1) := by decide +kernel
theorem dX6_init_29 : decode cX6_init 29 = .ok (.bipush 40, 2) := by decide +kernel
theorem dX6_init_31 : decode cX6_init 31 = .ok (.newarray .int, 2) := by decide +kernel
theorem dX6_init_33 : decode cX6_init 33 = .ok (.putfield 19, 3) := by decide +kernel
theorem dX6_init_36 : decode cX6_init 36 = .ok (.aload_n 0, 1) := by decide +kernel
theorem dX6_init_37 : decode cX6_init 37 = .ok (.bipush 40, 2) := by decide +kernel
theorem dX6_init_39 : decode cX6_init 39 = .ok (.newarray .int, 2) := by decide +kernel
theorem dX6_init_41 : decode cX6_init 41 = .ok (.putfield 22, 3) := by decide +kernel
theorem dX6_init_44 : decode cX6_init 44 = .ok (.aload_n 0, 1) := by decide +kernel
theorem dX6_init_45 : decode cX6_init 45 = .ok (.bipush 40, 2) := by decide +kernel
theorem dX6_init_47 : decode cX6_init 47 = .ok (.newarray .int, 2) := by decide +kernel
theorem dX6_init_49 : decode cX6_init 49 = .ok (.putfield 25, 3) := by decide +kernel
theorem dX6_init_52 : decode cX6_init 52 = .ok (.aload_n 0, 1) := by decide +kernel
theorem dX6_init_53 : decode cX6_init 53 = .ok (.bipush 56, 2) := by decide +kernel
theorem dX6_init_55 : decode cX6_init 55 = .ok (.newarray .int, 2) := by decide +kernel
theorem dX6_init_57 : decode cX6_init 57 = .ok (.putfield 28, 3) := by decide +kernel
theorem dX6_init_60 : decode cX6_init 60 = .ok (.aload_n 0, 1) := by decide +kernel
theorem dX6_init_61 : decode cX6_init 61 = .ok (.sipush 270, 3) := by decide +kernel
theorem dX6_init_64 : decode cX6_init 64 = .ok (.putfield 31, 3) := by decide +kernel
theorem dX6_init_67 : decode cX6_init 67 = .ok (.aload_n 0, 1) := by decide +kernel
theorem dX6_init_68 : decode cX6_init 68 = .ok (.sipush 720, 3) := by decide +kernel
theorem dX6_init_71 : decode cX6_init 71 = .ok (.putfield 35, 3) := by decide +kernel
theorem dX6_init_74 : decode cX6_init 74 = .ok (.aload_n 0, 1) := by decide +kernel
theorem dX6_init_75 : decode cX6_init 75 = .ok (.bipush 30, 2) := by decide +kernel
theorem dX6_init_77 : decode cX6_init 77 = .ok (.putfield 38, 3) := by decide +kernel
theorem dX6_init_80 : decode cX6_init 80 = .ok (.aload_n 0, 1) := by decide +kernel
theorem dX6_init_81 : decode cX6_init 81 = .ok (.sipush 660, 3) := by decide +kernel
theorem dX6_init_84 : decode cX6_init 84 = .ok (.putfield 41, 3) := by decide +kernel
theorem dX6_init_87 : decode cX6_init 87 = .ok (.aload_n 0, 1) := by decide +kernel
theorem dX6_init_88 : decode cX6_init 88 = .ok (.bipush 40, 2) := by decide +kernel
theorem dX6_init_90 : decode cX6_init 90 = .ok (.newarray .int, 2) := by decide +kernel
theorem dX6_init_92 : decode cX6_init 92 = .ok (.putfield 44, 3) := by decide +kernel
theorem dX6_init_95 : decode cX6_init 95 = .ok (.iconst 0, 1) := by decide +kernel
theorem dX6_init_96 : decode cX6_init 96 = .ok (.istore_n 1, 1) := by decide +kernel
theorem dX6_init_97 : decode cX6_init 97 = .ok (.iload_n 1, 1) := by decide +kernel
theorem dX6_init_98 : decode cX6_init 98 = .ok (.bipush 36, 2) := by decide +kernel
theorem dX6_init_100 : decode cX6_init 100 = .ok (.if_icmp .ge 32, 3) := by decide +kernel
theorem dX6_init_103 : decode cX6_init 103 = .ok (.aload_n 0, 1) := by decide +kernel
theorem dX6_init_104 : decode cX6_init 104 = .ok (.getfield 9, 3) := by decide +kernel
theorem dX6_init_107 : decode cX6_init 107 = .ok (.iload_n 1, 1) := by decide +kernel
theorem dX6_init_108 : decode cX6_init 108 = .ok (.iload_n 1, 1) := by decide +kernel
theorem dX6_init_109 : decode cX6_init 109 = .ok (.bipush 6, 2) := by decide +kernel
theorem dX6_init_111 : decode cX6_init 111 = .ok (.idiv, 1) := by decide +kernel
theorem dX6_init_112 : decode cX6_init 112 = .ok (.iload_n 1, 1) := by decide +kernel
theorem dX6_init_113 : decode cX6_init 113 = .ok (.bipush 6, 2) := by decide +kernel
theorem dX6_init_115 : decode cX6_init 115 = .ok (.irem, 1) := by decide +kernel
theorem dX6_init_116 : decode cX6_init 116 = .ok (.if_icmp .ne 7, 3) := by decide +kernel
theorem dX6_init_119 : decode cX6_init 119 = .ok (.iconst 0, 1) := by decide +kernel
theorem dX6_init_120 : decode cX6_init 120 = .ok (.goto 5, 3) := by decide +kernel
theorem dX6_init_123 : decode cX6_init 123 = .ok (.bipush 15, 2) := by decide +kernel
theorem dX6_init_125 : decode cX6_init 125 = .ok (.iastore, 1) := by decide +kernel
theorem dX6_init_126 : decode cX6_init 126 = .ok (.iinc 1 1, 3) := by decide +kernel
theorem dX6_init_129 : decode cX6_init 129 = .ok (.goto (-32), 3) := by decide +kernel
theorem dX6_init_132 : decode cX6_init 132 = .ok (.iconst 0, 1) := by decide +kernel
theorem dX6_init_133 : decode cX6_init 133 = .ok (.istore_n 1, 1) := by decide +kernel
theorem dX6_init_134 : decode cX6_init 134 = .ok (.iload_n 1, 1) := by decide +kernel
theorem dX6_init_135 : decode cX6_init 135 = .ok (.bipush 56, 2) := by decide +kernel
theorem dX6_init_137 : decode cX6_init 137 = .ok (.if_icmp .ge 16, 3) := by decide +kernel
theorem dX6_init_140 : decode cX6_init 140 = .ok (.aload_n 0, 1) := by decide +kernel
theorem dX6_init_141 : decode cX6_init 141 = .ok (.getfield 28, 3) := by decide +kernel
theorem dX6_init_144 : decode cX6_init 144 = .ok (.iload_n 1, 1) := by decide +kernel
theorem dX6_init_145 : decode cX6_init 145 = .ok (.iconst (-1), 1) := by decide +kernel
theorem dX6_init_146 : decode cX6_init 146 = .ok (.iastore, 1) := by decide +kernel
theorem dX6_init_147 : decode cX6_init 147 = .ok (.iinc 1 1, 3) := by decide +kernel
theorem dX6_init_150 : decode cX6_init 150 = .ok (.goto (-16), 3) := by decide +kernel
theorem dX6_init_153 : decode cX6_init 153 = .ok (.return_, 1) := by decide +kernel
theorem dX6_thrown_0 : decode cX6_thrown 0 = .ok (.aload_n 0, 1) := by decide +kernel
theorem dX6_thrown_1 : decode cX6_thrown 1 = .ok (.getfield 47, 3) := by decide +kernel
theorem dX6_thrown_4 : decode cX6_thrown 4 = .ok (.ireturn, 1) := by decide +kernel
theorem dX6_no_0 : decode cX6_no 0 = .ok (.aload_n 0, 1) := by decide +kernel
theorem dX6_no_1 : decode cX6_no 1 = .ok (.iload_n 1, 1) := by decide +kernel
theorem dX6_no_2 : decode cX6_no 2 = .ok (.putfield 47, 3) := by decide +kernel
theorem dX6_no_5 : decode cX6_no 5 = .ok (.iconst 0, 1) := by decide +kernel
theorem dX6_no_6 : decode cX6_no 6 = .ok (.ireturn, 1) := by decide +kernel
theorem dX6_isIn_0 : decode cX6_isIn 0 = .ok (.iload_n 0, 1) := by decide +kernel
theorem dX6_isIn_1 : decode cX6_isIn 1 = .ok (.iload_n 1, 1) := by decide +kernel
theorem dX6_isIn_2 : decode cX6_isIn 2 = .ok (.if_icmp .lt 12, 3) := by decide +kernel
theorem dX6_isIn_5 : decode cX6_isIn 5 = .ok (.iload_n 0, 1) := by decide +kernel
theorem dX6_isIn_6 : decode cX6_isIn 6 = .ok (.iload_n 2, 1) := by decide +kernel
theorem dX6_isIn_7 : decode cX6_isIn 7 = .ok (.if_icmp .gt 7, 3) := by decide +kernel
theorem dX6_isIn_10 : decode cX6_isIn 10 = .ok (.iconst 1, 1) := by decide +kernel
theorem dX6_isIn_11 : decode cX6_isIn 11 = .ok (.goto 4, 3) := by decide +kernel
theorem dX6_isIn_14 : decode cX6_isIn 14 = .ok (.iconst 0, 1) := by decide +kernel
theorem dX6_isIn_15 : decode cX6_isIn 15 = .ok (.ireturn, 1) := by decide +kernel
theorem dX6_isTrip_0 : decode cX6_isTrip 0 = .ok (.iload_n 1, 1) := by decide +kernel
theorem dX6_isTrip_1 : decode cX6_isTrip 1 = .ok (.iconst 0, 1) := by decide +kernel
theorem dX6_isTrip_2 : decode cX6_isTrip 2 = .ok (.aload_n 0, 1) := by decide +kernel
theorem dX6_isTrip_3 : decode cX6_isTrip 3 = .ok (.getfield 50, 3) := by decide +kernel
theorem dX6_isTrip_6 : decode cX6_isTrip 6 = .ok (.iconst 1, 1) := by decide +kernel
theorem dX6_isTrip_7 : decode cX6_isTrip 7 = .ok (.isub, 1) := by decide +kernel
theorem dX6_isTrip_8 : decode cX6_isTrip 8 = .ok (.invokestatic 53, 3) := by decide +kernel
theorem dX6_isTrip_11 : decode cX6_isTrip 11 = .ok (.ireturn, 1) := by decide +kernel
theorem dX6_isDuty_0 : decode cX6_isDuty 0 = .ok (.iload_n 1, 1) := by decide +kernel
theorem dX6_isDuty_1 : decode cX6_isDuty 1 = .ok (.iconst 0, 1) := by decide +kernel
theorem dX6_isDuty_2 : decode cX6_isDuty 2 = .ok (.aload_n 0, 1) := by decide +kernel
theorem dX6_isDuty_3 : decode cX6_isDuty 3 = .ok (.getfield 57, 3) := by decide +kernel
theorem dX6_isDuty_6 : decode cX6_isDuty 6 = .ok (.iconst 1, 1) := by decide +kernel
theorem dX6_isDuty_7 : decode cX6_isDuty 7 = .ok (.isub, 1) := by decide +kernel
theorem dX6_isDuty_8 : decode cX6_isDuty 8 = .ok (.invokestatic 53, 3) := by decide +kernel
theorem dX6_isDuty_11 : decode cX6_isDuty 11 = .ok (.ireturn, 1) := by decide +kernel
theorem dX6_isPoint_0 : decode cX6_isPoint 0 = .ok (.iload_n 0, 1) := by decide +kernel
theorem dX6_isPoint_1 : decode cX6_isPoint 1 = .ok (.iconst 0, 1) := by decide +kernel
theorem dX6_isPoint_2 : decode cX6_isPoint 2 = .ok (.iconst 5, 1) := by decide +kernel
theorem dX6_isPoint_3 : decode cX6_isPoint 3 = .ok (.invokestatic 53, 3) := by decide +kernel
theorem dX6_isPoint_6 : decode cX6_isPoint 6 = .ok (.ireturn, 1) := by decide +kernel
theorem dX6_setWay_0 : decode cX6_setWay 0 = .ok (.aload_n 0, 1) := by decide +kernel
theorem dX6_setWay_1 : decode cX6_setWay 1 = .ok (.iconst 0, 1) := by decide +kernel
theorem dX6_setWay_2 : decode cX6_setWay 2 = .ok (.putfield 47, 3) := by decide +kernel
theorem dX6_setWay_5 : decode cX6_setWay 5 = .ok (.iload_n 1, 1) := by decide +kernel
theorem dX6_setWay_6 : decode cX6_setWay 6 = .ok (.invokestatic 60, 3) := by decide +kernel
theorem dX6_setWay_9 : decode cX6_setWay 9 = .ok (.ifCond .eq 10, 3) := by decide +kernel
theorem dX6_setWay_12 : decode cX6_setWay 12 = .ok (.iload_n 2, 1) := by decide +kernel
theorem dX6_setWay_13 : decode cX6_setWay 13 = .ok (.invokestatic 60, 3) := by decide +kernel
theorem dX6_setWay_16 : decode cX6_setWay 16 = .ok (.ifCond .ne 9, 3) := by decide +kernel
theorem dX6_setWay_19 : decode cX6_setWay 19 = .ok (.aload_n 0, 1) := by decide +kernel
theorem dX6_setWay_20 : decode cX6_setWay 20 = .ok (.iconst 1, 1) := by decide +kernel
theorem dX6_setWay_21 : decode cX6_setWay 21 = .ok (.invokevirtual 64, 3) := by decide +kernel
theorem dX6_setWay_24 : decode cX6_setWay 24 = .ok (.ireturn, 1) := by decide +kernel
theorem dX6_setWay_25 : decode cX6_setWay 25 = .ok (.iload_n 1, 1) := by decide +kernel
theorem dX6_setWay_26 : decode cX6_setWay 26 = .ok (.iload_n 2, 1) := by decide +kernel
theorem dX6_setWay_27 : decode cX6_setWay 27 = .ok (.if_icmp .eq 13, 3) := by decide +kernel
theorem dX6_setWay_30 : decode cX6_setWay 30 = .ok (.iload_n 3, 1) := by decide +kernel
theorem dX6_setWay_31 : decode cX6_setWay 31 = .ok (.iconst 1, 1) := by decide +kernel
theorem dX6_setWay_32 : decode cX6_setWay 32 = .ok (.bipush 90, 2) := by decide +kernel
theorem dX6_setWay_34 : decode cX6_setWay 34 = .ok (.invokestatic 53, 3) := by decide +kernel
theorem dX6_setWay_37 : decode cX6_setWay 37 = .ok (.ifCond .ne 9, 3) := by decide +kernel
theorem dX6_setWay_40 : decode cX6_setWay 40 = .ok (.aload_n 0, 1) := by decide +kernel
theorem dX6_setWay_41 : decode cX6_setWay 41 = .ok (.iconst 2, 1) := by decide +kernel
theorem dX6_setWay_42 : decode cX6_setWay 42 = .ok (.invokevirtual 64, 3) := by decide +kernel
theorem dX6_setWay_45 : decode cX6_setWay 45 = .ok (.ireturn, 1) := by decide +kernel
theorem dX6_setWay_46 : decode cX6_setWay 46 = .ok (.aload_n 0, 1) := by decide +kernel
theorem dX6_setWay_47 : decode cX6_setWay 47 = .ok (.getfield 9, 3) := by decide +kernel
theorem dX6_setWay_50 : decode cX6_setWay 50 = .ok (.bipush 6, 2) := by decide +kernel
theorem dX6_setWay_52 : decode cX6_setWay 52 = .ok (.iload_n 1, 1) := by decide +kernel
theorem dX6_setWay_53 : decode cX6_setWay 53 = .ok (.imul, 1) := by decide +kernel
theorem dX6_setWay_54 : decode cX6_setWay 54 = .ok (.iload_n 2, 1) := by decide +kernel
theorem dX6_setWay_55 : decode cX6_setWay 55 = .ok (.iadd, 1) := by decide +kernel
theorem dX6_setWay_56 : decode cX6_setWay 56 = .ok (.iaload, 1) := by decide +kernel
theorem dX6_setWay_57 : decode cX6_setWay 57 = .ok (.istore 4, 2) := by decide +kernel
theorem dX6_setWay_59 : decode cX6_setWay 59 = .ok (.aload_n 0, 1) := by decide +kernel
theorem dX6_setWay_60 : decode cX6_setWay 60 = .ok (.getfield 9, 3) := by decide +kernel
theorem dX6_setWay_63 : decode cX6_setWay 63 = .ok (.bipush 6, 2) := by decide +kernel
theorem dX6_setWay_65 : decode cX6_setWay 65 = .ok (.iload_n 1, 1) := by decide +kernel
theorem dX6_setWay_66 : decode cX6_setWay 66 = .ok (.imul, 1) := by decide +kernel
theorem dX6_setWay_67 : decode cX6_setWay 67 = .ok (.iload_n 2, 1) := by decide +kernel
theorem dX6_setWay_68 : decode cX6_setWay 68 = .ok (.iadd, 1) := by decide +kernel
theorem dX6_setWay_69 : decode cX6_setWay 69 = .ok (.iload_n 3, 1) := by decide +kernel
theorem dX6_setWay_70 : decode cX6_setWay 70 = .ok (.iastore, 1) := by decide +kernel
theorem dX6_setWay_71 : decode cX6_setWay 71 = .ok (.aload_n 0, 1) := by decide +kernel
theorem dX6_setWay_72 : decode cX6_setWay 72 = .ok (.getfield 9, 3) := by decide +kernel
theorem dX6_setWay_75 : decode cX6_setWay 75 = .ok (.bipush 6, 2) := by decide +kernel
theorem dX6_setWay_77 : decode cX6_setWay 77 = .ok (.iload_n 2, 1) := by decide +kernel
theorem dX6_setWay_78 : decode cX6_setWay 78 = .ok (.imul, 1) := by decide +kernel
theorem dX6_setWay_79 : decode cX6_setWay 79 = .ok (.iload_n 1, 1) := by decide +kernel
theorem dX6_setWay_80 : decode cX6_setWay 80 = .ok (.iadd, 1) := by decide +kernel
theorem dX6_setWay_81 : decode cX6_setWay 81 = .ok (.iload_n 3, 1) := by decide +kernel
theorem dX6_setWay_82 : decode cX6_setWay 82 = .ok (.iastore, 1) := by decide +kernel
theorem dX6_setWay_83 : decode cX6_setWay 83 = .ok (.iload 4, 2) := by decide +kernel
theorem dX6_setWay_85 : decode cX6_setWay 85 = .ok (.ireturn, 1) := by decide +kernel
theorem dX6_addTrip_0 : decode cX6_addTrip 0 = .ok (.aload_n 0, 1) := by decide +kernel
theorem dX6_addTrip_1 : decode cX6_addTrip 1 = .ok (.iconst 0, 1) := by decide +kernel
theorem dX6_addTrip_2 : decode cX6_addTrip 2 = .ok (.putfield 47, 3) := by decide +kernel
theorem dX6_addTrip_5 : decode cX6_addTrip 5 = .ok (.iload_n 1, 1) := by decide +kernel
theorem dX6_addTrip_6 : decode cX6_addTrip 6 = .ok (.invokestatic 60, 3) := by decide +kernel
theorem dX6_addTrip_9 : decode cX6_addTrip 9 = .ok (.ifCond .eq 10, 3) := by decide +kernel
theorem dX6_addTrip_12 : decode cX6_addTrip 12 = .ok (.iload_n 2, 1) := by decide +kernel
theorem dX6_addTrip_13 : decode cX6_addTrip 13 = .ok (.invokestatic 60, 3) := by decide +kernel
theorem dX6_addTrip_16 : decode cX6_addTrip 16 = .ok (.ifCond .ne 9, 3) := by decide +kernel
theorem dX6_addTrip_19 : decode cX6_addTrip 19 = .ok (.aload_n 0, 1) := by decide +kernel
theorem dX6_addTrip_20 : decode cX6_addTrip 20 = .ok (.iconst 1, 1) := by decide +kernel
theorem dX6_addTrip_21 : decode cX6_addTrip 21 = .ok (.invokevirtual 64, 3) := by decide +kernel
theorem dX6_addTrip_24 : decode cX6_addTrip 24 = .ok (.ireturn, 1) := by decide +kernel
theorem dX6_addTrip_25 : decode cX6_addTrip 25 = .ok (.iload_n 3, 1) := by decide +kernel
theorem dX6_addTrip_26 : decode cX6_addTrip 26 = .ok (.ifCond .lt 29, 3) := by decide +kernel
theorem dX6_addTrip_29 : decode cX6_addTrip 29 = .ok (.iload 4, 2) := by decide +kernel
theorem dX6_addTrip_31 : decode cX6_addTrip 31 = .ok (.iconst 0, 1) := by decide +kernel
theorem dX6_addTrip_32 : decode cX6_addTrip 32 = .ok (.sipush 1799, 3) := by decide +kernel
theorem dX6_addTrip_35 : decode cX6_addTrip 35 = .ok (.invokestatic 53, 3) := by decide +kernel
theorem dX6_addTrip_38 : decode cX6_addTrip 38 = .ok (.ifCond .eq 17, 3) := by decide +kernel
theorem dX6_addTrip_41 : decode cX6_addTrip 41 = .ok (.iload 4, 2) := by decide +kernel
theorem dX6_addTrip_43 : decode cX6_addTrip 43 = .ok (.iload_n 3, 1) := by decide +kernel
theorem dX6_addTrip_44 : decode cX6_addTrip 44 = .ok (.isub, 1) := by decide +kernel
theorem dX6_addTrip_45 : decode cX6_addTrip 45 = .ok (.iconst 1, 1) := by decide +kernel
theorem dX6_addTrip_46 : decode cX6_addTrip 46 = .ok (.sipush 240, 3) := by decide +kernel
theorem dX6_addTrip_49 : decode cX6_addTrip 49 = .ok (.invokestatic 53, 3) := by decide +kernel
theorem dX6_addTrip_52 : decode cX6_addTrip 52 = .ok (.ifCond .ne 9, 3) := by decide +kernel
theorem dX6_addTrip_55 : decode cX6_addTrip 55 = .ok (.aload_n 0, 1) := by decide +kernel
theorem dX6_addTrip_56 : decode cX6_addTrip 56 = .ok (.iconst 2, 1) := by decide +kernel
theorem dX6_addTrip_57 : decode cX6_addTrip 57 = .ok (.invokevirtual 64, 3) := by decide +kernel
theorem dX6_addTrip_60 : decode cX6_addTrip 60 = .ok (.ireturn, 1) := by decide +kernel
theorem dX6_addTrip_61 : decode cX6_addTrip 61 = .ok (.aload_n 0, 1) := by decide +kernel
theorem dX6_addTrip_62 : decode cX6_addTrip 62 = .ok (.getfield 50, 3) := by decide +kernel
theorem dX6_addTrip_65 : decode cX6_addTrip 65 = .ok (.bipush 40, 2) := by decide +kernel
theorem dX6_addTrip_67 : decode cX6_addTrip 67 = .ok (.if_icmp .ne 9, 3) := by decide +kernel
theorem dX6_addTrip_70 : decode cX6_addTrip 70 = .ok (.aload_n 0, 1) := by decide +kernel
theorem dX6_addTrip_71 : decode cX6_addTrip 71 = .ok (.iconst 3, 1) := by decide +kernel
theorem dX6_addTrip_72 : decode cX6_addTrip 72 = .ok (.invokevirtual 64, 3) := by decide +kernel
theorem dX6_addTrip_75 : decode cX6_addTrip 75 = .ok (.ireturn, 1) := by decide +kernel
theorem dX6_addTrip_76 : decode cX6_addTrip 76 = .ok (.aload_n 0, 1) := by decide +kernel
theorem dX6_addTrip_77 : decode cX6_addTrip 77 = .ok (.getfield 13, 3) := by decide +kernel
theorem dX6_addTrip_80 : decode cX6_addTrip 80 = .ok (.aload_n 0, 1) := by decide +kernel
theorem dX6_addTrip_81 : decode cX6_addTrip 81 = .ok (.getfield 50, 3) := by decide +kernel
theorem dX6_addTrip_84 : decode cX6_addTrip 84 = .ok (.iload_n 1, 1) := by decide +kernel
theorem dX6_addTrip_85 : decode cX6_addTrip 85 = .ok (.iastore, 1) := by decide +kernel
theorem dX6_addTrip_86 : decode cX6_addTrip 86 = .ok (.aload_n 0, 1) := by decide +kernel
theorem dX6_addTrip_87 : decode cX6_addTrip 87 = .ok (.getfield 16, 3) := by decide +kernel
theorem dX6_addTrip_90 : decode cX6_addTrip 90 = .ok (.aload_n 0, 1) := by decide +kernel
theorem dX6_addTrip_91 : decode cX6_addTrip 91 = .ok (.getfield 50, 3) := by decide +kernel
theorem dX6_addTrip_94 : decode cX6_addTrip 94 = .ok (.iload_n 2, 1) := by decide +kernel
theorem dX6_addTrip_95 : decode cX6_addTrip 95 = .ok (.iastore, 1) := by decide +kernel
theorem dX6_addTrip_96 : decode cX6_addTrip 96 = .ok (.aload_n 0, 1) := by decide +kernel
theorem dX6_addTrip_97 : decode cX6_addTrip 97 = .ok (.getfield 19, 3) := by decide +kernel
theorem dX6_addTrip_100 : decode cX6_addTrip 100 = .ok (.aload_n 0, 1) := by decide +kernel
theorem dX6_addTrip_101 : decode cX6_addTrip 101 = .ok (.getfield 50, 3) := by decide +kernel
theorem dX6_addTrip_104 : decode cX6_addTrip 104 = .ok (.iload_n 3, 1) := by decide +kernel
theorem dX6_addTrip_105 : decode cX6_addTrip 105 = .ok (.iastore, 1) := by decide +kernel
theorem dX6_addTrip_106 : decode cX6_addTrip 106 = .ok (.aload_n 0, 1) := by decide +kernel
theorem dX6_addTrip_107 : decode cX6_addTrip 107 = .ok (.getfield 22, 3) := by decide +kernel
theorem dX6_addTrip_110 : decode cX6_addTrip 110 = .ok (.aload_n 0, 1) := by decide +kernel
theorem dX6_addTrip_111 : decode cX6_addTrip 111 = .ok (.getfield 50, 3) := by decide +kernel
theorem dX6_addTrip_114 : decode cX6_addTrip 114 = .ok (.iload 4, 2) := by decide +kernel
theorem dX6_addTrip_116 : decode cX6_addTrip 116 = .ok (.iastore, 1) := by decide +kernel
theorem dX6_addTrip_117 : decode cX6_addTrip 117 = .ok (.aload_n 0, 1) := by decide +kernel
theorem dX6_addTrip_118 : decode cX6_addTrip 118 = .ok (.getfield 25, 3) := by decide +kernel
theorem dX6_addTrip_121 : decode cX6_addTrip 121 = .ok (.aload_n 0, 1) := by decide +kernel
theorem dX6_addTrip_122 : decode cX6_addTrip 122 = .ok (.getfield 50, 3) := by decide +kernel
theorem dX6_addTrip_125 : decode cX6_addTrip 125 = .ok (.iconst (-1), 1) := by decide +kernel
theorem dX6_addTrip_126 : decode cX6_addTrip 126 = .ok (.iastore, 1) := by decide +kernel
theorem dX6_addTrip_127 : decode cX6_addTrip 127 = .ok (.aload_n 0, 1) := by decide +kernel
theorem dX6_addTrip_128 : decode cX6_addTrip 128 = .ok (.dup, 1) := by decide +kernel
theorem dX6_addTrip_129 : decode cX6_addTrip 129 = .ok (.getfield 50, 3) := by decide +kernel
theorem dX6_addTrip_132 : decode cX6_addTrip 132 = .ok (.iconst 1, 1) := by decide +kernel
theorem dX6_addTrip_133 : decode cX6_addTrip 133 = .ok (.iadd, 1) := by decide +kernel
theorem dX6_addTrip_134 : decode cX6_addTrip 134 = .ok (.putfield 50, 3) := by decide +kernel
theorem dX6_addTrip_137 : decode cX6_addTrip 137 = .ok (.aload_n 0, 1) := by decide +kernel
theorem dX6_addTrip_138 : decode cX6_addTrip 138 = .ok (.getfield 50, 3) := by decide +kernel
theorem dX6_addTrip_141 : decode cX6_addTrip 141 = .ok (.iconst 1, 1) := by decide +kernel
theorem dX6_addTrip_142 : decode cX6_addTrip 142 = .ok (.isub, 1) := by decide +kernel
theorem dX6_addTrip_143 : decode cX6_addTrip 143 = .ok (.ireturn, 1) := by decide +kernel
theorem dX6_trip_0 : decode cX6_trip 0 = .ok (.aload_n 0, 1) := by decide +kernel
theorem dX6_trip_1 : decode cX6_trip 1 = .ok (.iconst 0, 1) := by decide +kernel
theorem dX6_trip_2 : decode cX6_trip 2 = .ok (.putfield 47, 3) := by decide +kernel
theorem dX6_trip_5 : decode cX6_trip 5 = .ok (.aload_n 0, 1) := by decide +kernel
theorem dX6_trip_6 : decode cX6_trip 6 = .ok (.iload_n 1, 1) := by decide +kernel
theorem dX6_trip_7 : decode cX6_trip 7 = .ok (.invokevirtual 68, 3) := by decide +kernel
theorem dX6_trip_10 : decode cX6_trip 10 = .ok (.ifCond .eq 12, 3) := by decide +kernel
theorem dX6_trip_13 : decode cX6_trip 13 = .ok (.iload_n 2, 1) := by decide +kernel
theorem dX6_trip_14 : decode cX6_trip 14 = .ok (.iconst 0, 1) := by decide +kernel
theorem dX6_trip_15 : decode cX6_trip 15 = .ok (.iconst 4, 1) := by decide +kernel
theorem dX6_trip_16 : decode cX6_trip 16 = .ok (.invokestatic 53, 3) := by decide +kernel
theorem dX6_trip_19 : decode cX6_trip 19 = .ok (.ifCond .ne 9, 3) := by decide +kernel
theorem dX6_trip_22 : decode cX6_trip 22 = .ok (.aload_n 0, 1) := by decide +kernel
theorem dX6_trip_23 : decode cX6_trip 23 = .ok (.iconst 1, 1) := by decide +kernel
theorem dX6_trip_24 : decode cX6_trip 24 = .ok (.invokevirtual 64, 3) := by decide +kernel
theorem dX6_trip_27 : decode cX6_trip 27 = .ok (.ireturn, 1) := by decide +kernel
theorem dX6_trip_28 : decode cX6_trip 28 = .ok (.iload_n 2, 1) := by decide +kernel
theorem dX6_trip_29 : decode cX6_trip 29 = .ok (.ifCond .ne 12, 3) := by decide +kernel
theorem dX6_trip_32 : decode cX6_trip 32 = .ok (.aload_n 0, 1) := by decide +kernel
theorem dX6_trip_33 : decode cX6_trip 33 = .ok (.getfield 13, 3) := by decide +kernel
theorem dX6_trip_36 : decode cX6_trip 36 = .ok (.iload_n 1, 1) := by decide +kernel
theorem dX6_trip_37 : decode cX6_trip 37 = .ok (.iaload, 1) := by decide +kernel
theorem dX6_trip_38 : decode cX6_trip 38 = .ok (.goto 51, 3) := by decide +kernel
theorem dX6_trip_41 : decode cX6_trip 41 = .ok (.iload_n 2, 1) := by decide +kernel
theorem dX6_trip_42 : decode cX6_trip 42 = .ok (.iconst 1, 1) := by decide +kernel
theorem dX6_trip_43 : decode cX6_trip 43 = .ok (.if_icmp .ne 12, 3) := by decide +kernel
theorem dX6_trip_46 : decode cX6_trip 46 = .ok (.aload_n 0, 1) := by decide +kernel
theorem dX6_trip_47 : decode cX6_trip 47 = .ok (.getfield 16, 3) := by decide +kernel
theorem dX6_trip_50 : decode cX6_trip 50 = .ok (.iload_n 1, 1) := by decide +kernel
theorem dX6_trip_51 : decode cX6_trip 51 = .ok (.iaload, 1) := by decide +kernel
theorem dX6_trip_52 : decode cX6_trip 52 = .ok (.goto 37, 3) := by decide +kernel
theorem dX6_trip_55 : decode cX6_trip 55 = .ok (.iload_n 2, 1) := by decide +kernel
theorem dX6_trip_56 : decode cX6_trip 56 = .ok (.iconst 2, 1) := by decide +kernel
theorem dX6_trip_57 : decode cX6_trip 57 = .ok (.if_icmp .ne 12, 3) := by decide +kernel
theorem dX6_trip_60 : decode cX6_trip 60 = .ok (.aload_n 0, 1) := by decide +kernel
theorem dX6_trip_61 : decode cX6_trip 61 = .ok (.getfield 19, 3) := by decide +kernel
theorem dX6_trip_64 : decode cX6_trip 64 = .ok (.iload_n 1, 1) := by decide +kernel
theorem dX6_trip_65 : decode cX6_trip 65 = .ok (.iaload, 1) := by decide +kernel
theorem dX6_trip_66 : decode cX6_trip 66 = .ok (.goto 23, 3) := by decide +kernel
theorem dX6_trip_69 : decode cX6_trip 69 = .ok (.iload_n 2, 1) := by decide +kernel
theorem dX6_trip_70 : decode cX6_trip 70 = .ok (.iconst 3, 1) := by decide +kernel
theorem dX6_trip_71 : decode cX6_trip 71 = .ok (.if_icmp .ne 12, 3) := by decide +kernel
theorem dX6_trip_74 : decode cX6_trip 74 = .ok (.aload_n 0, 1) := by decide +kernel
theorem dX6_trip_75 : decode cX6_trip 75 = .ok (.getfield 22, 3) := by decide +kernel
theorem dX6_trip_78 : decode cX6_trip 78 = .ok (.iload_n 1, 1) := by decide +kernel
theorem dX6_trip_79 : decode cX6_trip 79 = .ok (.iaload, 1) := by decide +kernel
theorem dX6_trip_80 : decode cX6_trip 80 = .ok (.goto 9, 3) := by decide +kernel
theorem dX6_trip_83 : decode cX6_trip 83 = .ok (.aload_n 0, 1) := by decide +kernel
theorem dX6_trip_84 : decode cX6_trip 84 = .ok (.getfield 25, 3) := by decide +kernel
theorem dX6_trip_87 : decode cX6_trip 87 = .ok (.iload_n 1, 1) := by decide +kernel
theorem dX6_trip_88 : decode cX6_trip 88 = .ok (.iaload, 1) := by decide +kernel
theorem dX6_trip_89 : decode cX6_trip 89 = .ok (.ireturn, 1) := by decide +kernel
theorem dX6_setRules_0 : decode cX6_setRules 0 = .ok (.aload_n 0, 1) := by decide +kernel
theorem dX6_setRules_1 : decode cX6_setRules 1 = .ok (.iconst 0, 1) := by decide +kernel
theorem dX6_setRules_2 : decode cX6_setRules 2 = .ok (.putfield 47, 3) := by decide +kernel
theorem dX6_setRules_5 : decode cX6_setRules 5 = .ok (.iload_n 1, 1) := by decide +kernel
theorem dX6_setRules_6 : decode cX6_setRules 6 = .ok (.bipush 60, 2) := by decide +kernel
theorem dX6_setRules_8 : decode cX6_setRules 8 = .ok (.sipush 600, 3) := by decide +kernel
theorem dX6_setRules_11 : decode cX6_setRules 11 = .ok (.invokestatic 53, 3) := by decide +kernel
theorem dX6_setRules_14 : decode cX6_setRules 14 = .ok (.ifCond .eq 39, 3) := by decide +kernel
theorem dX6_setRules_17 : decode cX6_setRules 17 = .ok (.iload_n 2, 1) := by decide +kernel
theorem dX6_setRules_18 : decode cX6_setRules 18 = .ok (.sipush 240, 3) := by decide +kernel
theorem dX6_setRules_21 : decode cX6_setRules 21 = .ok (.sipush 1000, 3) := by decide +kernel
theorem dX6_setRules_24 : decode cX6_setRules 24 = .ok (.invokestatic 53, 3) := by decide +kernel
theorem dX6_setRules_27 : decode cX6_setRules 27 = .ok (.ifCond .eq 26, 3) := by decide +kernel
theorem dX6_setRules_30 : decode cX6_setRules 30 = .ok (.iload_n 3, 1) := by decide +kernel
theorem dX6_setRules_31 : decode cX6_setRules 31 = .ok (.bipush 10, 2) := by decide +kernel
theorem dX6_setRules_33 : decode cX6_setRules 33 = .ok (.bipush 90, 2) := by decide +kernel
theorem dX6_setRules_35 : decode cX6_setRules 35 = .ok (.invokestatic 53, 3) := by decide +kernel
theorem dX6_setRules_38 : decode cX6_setRules 38 = .ok (.ifCond .eq 15, 3) := by decide +kernel
theorem dX6_setRules_41 : decode cX6_setRules 41 = .ok (.iload 4, 2) := by decide +kernel
theorem dX6_setRules_43 : decode cX6_setRules 43 = .ok (.iconst 0, 1) := by decide +kernel
theorem dX6_setRules_44 : decode cX6_setRules 44 = .ok (.sipush 900, 3) := by decide +kernel
theorem dX6_setRules_47 : decode cX6_setRules 47 = .ok (.invokestatic 53, 3) := by decide +kernel
theorem dX6_setRules_50 : decode cX6_setRules 50 = .ok (.ifCond .ne 9, 3) := by decide +kernel
theorem dX6_setRules_53 : decode cX6_setRules 53 = .ok (.aload_n 0, 1) := by decide +kernel
theorem dX6_setRules_54 : decode cX6_setRules 54 = .ok (.iconst 1, 1) := by decide +kernel
theorem dX6_setRules_55 : decode cX6_setRules 55 = .ok (.invokevirtual 64, 3) := by decide +kernel
theorem dX6_setRules_58 : decode cX6_setRules 58 = .ok (.ireturn, 1) := by decide +kernel
theorem dX6_setRules_59 : decode cX6_setRules 59 = .ok (.aload_n 0, 1) := by decide +kernel
theorem dX6_setRules_60 : decode cX6_setRules 60 = .ok (.iload_n 1, 1) := by decide +kernel
theorem dX6_setRules_61 : decode cX6_setRules 61 = .ok (.putfield 31, 3) := by decide +kernel
theorem dX6_setRules_64 : decode cX6_setRules 64 = .ok (.aload_n 0, 1) := by decide +kernel
theorem dX6_setRules_65 : decode cX6_setRules 65 = .ok (.iload_n 2, 1) := by decide +kernel
theorem dX6_setRules_66 : decode cX6_setRules 66 = .ok (.putfield 35, 3) := by decide +kernel
theorem dX6_setRules_69 : decode cX6_setRules 69 = .ok (.aload_n 0, 1) := by decide +kernel
theorem dX6_setRules_70 : decode cX6_setRules 70 = .ok (.iload_n 3, 1) := by decide +kernel
theorem dX6_setRules_71 : decode cX6_setRules 71 = .ok (.putfield 38, 3) := by decide +kernel
theorem dX6_setRules_74 : decode cX6_setRules 74 = .ok (.aload_n 0, 1) := by decide +kernel
theorem dX6_setRules_75 : decode cX6_setRules 75 = .ok (.iload 4, 2) := by decide +kernel
theorem dX6_setRules_77 : decode cX6_setRules 77 = .ok (.putfield 41, 3) := by decide +kernel
theorem dX6_setRules_80 : decode cX6_setRules 80 = .ok (.iconst 0, 1) := by decide +kernel
theorem dX6_setRules_81 : decode cX6_setRules 81 = .ok (.istore 5, 2) := by decide +kernel
theorem dX6_setRules_83 : decode cX6_setRules 83 = .ok (.iconst 0, 1) := by decide +kernel
theorem dX6_setRules_84 : decode cX6_setRules 84 = .ok (.istore 6, 2) := by decide +kernel
theorem dX6_setRules_86 : decode cX6_setRules 86 = .ok (.iload 6, 2) := by decide +kernel
theorem dX6_setRules_88 : decode cX6_setRules 88 = .ok (.aload_n 0, 1) := by decide +kernel
theorem dX6_setRules_89 : decode cX6_setRules 89 = .ok (.getfield 57, 3) := by decide +kernel
theorem dX6_setRules_92 : decode cX6_setRules 92 = .ok (.if_icmp .ge 28, 3) := by decide +kernel
theorem dX6_setRules_95 : decode cX6_setRules 95 = .ok (.iload 5, 2) := by decide +kernel
theorem dX6_setRules_97 : decode cX6_setRules 97 = .ok (.aload_n 0, 1) := by decide +kernel
theorem dX6_setRules_98 : decode cX6_setRules 98 = .ok (.iload 6, 2) := by decide +kernel
theorem dX6_setRules_100 : decode cX6_setRules 100 = .ok (.invokevirtual 71, 3) := by decide +kernel
theorem dX6_setRules_103 : decode cX6_setRules 103 = .ok (.ifCond .eq 7, 3) := by decide +kernel
theorem dX6_setRules_106 : decode cX6_setRules 106 = .ok (.iconst 0, 1) := by decide +kernel
theorem dX6_setRules_107 : decode cX6_setRules 107 = .ok (.goto 4, 3) := by decide +kernel
theorem dX6_setRules_110 : decode cX6_setRules 110 = .ok (.iconst 1, 1) := by decide +kernel
theorem dX6_setRules_111 : decode cX6_setRules 111 = .ok (.iadd, 1) := by decide +kernel
theorem dX6_setRules_112 : decode cX6_setRules 112 = .ok (.istore 5, 2) := by decide +kernel
theorem dX6_setRules_114 : decode cX6_setRules 114 = .ok (.iinc 6 1, 3) := by decide +kernel
theorem dX6_setRules_117 : decode cX6_setRules 117 = .ok (.goto (-31), 3) := by decide +kernel
theorem dX6_setRules_120 : decode cX6_setRules 120 = .ok (.iload 5, 2) := by decide +kernel
theorem dX6_setRules_122 : decode cX6_setRules 122 = .ok (.ireturn, 1) := by decide +kernel
theorem dX6_freeTrips_0 : decode cX6_freeTrips 0 = .ok (.iconst 0, 1) := by decide +kernel
theorem dX6_freeTrips_1 : decode cX6_freeTrips 1 = .ok (.istore_n 1, 1) := by decide +kernel
theorem dX6_freeTrips_2 : decode cX6_freeTrips 2 = .ok (.iconst 0, 1) := by decide +kernel
theorem dX6_freeTrips_3 : decode cX6_freeTrips 3 = .ok (.istore_n 2, 1) := by decide +kernel
theorem dX6_freeTrips_4 : decode cX6_freeTrips 4 = .ok (.iload_n 2, 1) := by decide +kernel
theorem dX6_freeTrips_5 : decode cX6_freeTrips 5 = .ok (.aload_n 0, 1) := by decide +kernel
theorem dX6_freeTrips_6 : decode cX6_freeTrips 6 = .ok (.getfield 50, 3) := by decide +kernel
theorem dX6_freeTrips_9 : decode cX6_freeTrips 9 = .ok (.if_icmp .ge 27, 3) := by decide +kernel
theorem dX6_freeTrips_12 : decode cX6_freeTrips 12 = .ok (.iload_n 1, 1) := by decide +kernel
theorem dX6_freeTrips_13 : decode cX6_freeTrips 13 = .ok (.aload_n 0, 1) := by decide +kernel
theorem dX6_freeTrips_14 : decode cX6_freeTrips 14 = .ok (.getfield 25, 3) := by decide +kernel
theorem dX6_freeTrips_17 : decode cX6_freeTrips 17 = .ok (.iload_n 2, 1) := by decide +kernel
theorem dX6_freeTrips_18 : decode cX6_freeTrips 18 = .ok (.iaload, 1) := by decide +kernel
theorem dX6_freeTrips_19 : decode cX6_freeTrips 19 = .ok (.iconst (-1), 1) := by decide +kernel
theorem dX6_freeTrips_20 : decode cX6_freeTrips 20 = .ok (.if_icmp .ne 7, 3) := by decide +kernel
theorem dX6_freeTrips_23 : decode cX6_freeTrips 23 = .ok (.iconst 1, 1) := by decide +kernel
theorem dX6_freeTrips_24 : decode cX6_freeTrips 24 = .ok (.goto 4, 3) := by decide +kernel
theorem dX6_freeTrips_27 : decode cX6_freeTrips 27 = .ok (.iconst 0, 1) := by decide +kernel
theorem dX6_freeTrips_28 : decode cX6_freeTrips 28 = .ok (.iadd, 1) := by decide +kernel
theorem dX6_freeTrips_29 : decode cX6_freeTrips 29 = .ok (.istore_n 1, 1) := by decide +kernel
theorem dX6_freeTrips_30 : decode cX6_freeTrips 30 = .ok (.iinc 2 1, 3) := by decide +kernel
theorem dX6_freeTrips_33 : decode cX6_freeTrips 33 = .ok (.goto (-29), 3) := by decide +kernel
theorem dX6_freeTrips_36 : decode cX6_freeTrips 36 = .ok (.iload_n 1, 1) := by decide +kernel
theorem dX6_freeTrips_37 : decode cX6_freeTrips 37 = .ok (.ireturn, 1) := by decide +kernel
theorem dX6_count_0 : decode cX6_count 0 = .ok (.aload_n 0, 1) := by decide +kernel
theorem dX6_count_1 : decode cX6_count 1 = .ok (.iconst 0, 1) := by decide +kernel
theorem dX6_count_2 : decode cX6_count 2 = .ok (.putfield 47, 3) := by decide +kernel
theorem dX6_count_5 : decode cX6_count 5 = .ok (.iload_n 1, 1) := by decide +kernel
theorem dX6_count_6 : decode cX6_count 6 = .ok (.iconst 0, 1) := by decide +kernel
theorem dX6_count_7 : decode cX6_count 7 = .ok (.iconst 3, 1) := by decide +kernel
theorem dX6_count_8 : decode cX6_count 8 = .ok (.invokestatic 53, 3) := by decide +kernel
theorem dX6_count_11 : decode cX6_count 11 = .ok (.ifCond .ne 9, 3) := by decide +kernel
theorem dX6_count_14 : decode cX6_count 14 = .ok (.aload_n 0, 1) := by decide +kernel
theorem dX6_count_15 : decode cX6_count 15 = .ok (.iconst 1, 1) := by decide +kernel
theorem dX6_count_16 : decode cX6_count 16 = .ok (.invokevirtual 64, 3) := by decide +kernel
theorem dX6_count_19 : decode cX6_count 19 = .ok (.ireturn, 1) := by decide +kernel
theorem dX6_count_20 : decode cX6_count 20 = .ok (.iload_n 1, 1) := by decide +kernel
theorem dX6_count_21 : decode cX6_count 21 = .ok (.ifCond .ne 10, 3) := by decide +kernel
theorem dX6_count_24 : decode cX6_count 24 = .ok (.aload_n 0, 1) := by decide +kernel
theorem dX6_count_25 : decode cX6_count 25 = .ok (.getfield 50, 3) := by decide +kernel
theorem dX6_count_28 : decode cX6_count 28 = .ok (.goto 31, 3) := by decide +kernel
theorem dX6_count_31 : decode cX6_count 31 = .ok (.iload_n 1, 1) := by decide +kernel
theorem dX6_count_32 : decode cX6_count 32 = .ok (.iconst 1, 1) := by decide +kernel
theorem dX6_count_33 : decode cX6_count 33 = .ok (.if_icmp .ne 10, 3) := by decide +kernel
theorem dX6_count_36 : decode cX6_count 36 = .ok (.aload_n 0, 1) := by decide +kernel
theorem dX6_count_37 : decode cX6_count 37 = .ok (.getfield 57, 3) := by decide +kernel
theorem dX6_count_40 : decode cX6_count 40 = .ok (.goto 19, 3) := by decide +kernel
theorem dX6_count_43 : decode cX6_count 43 = .ok (.iload_n 1, 1) := by decide +kernel
theorem dX6_count_44 : decode cX6_count 44 = .ok (.iconst 2, 1) := by decide +kernel
theorem dX6_count_45 : decode cX6_count 45 = .ok (.if_icmp .ne 10, 3) := by decide +kernel
theorem dX6_count_48 : decode cX6_count 48 = .ok (.aload_n 0, 1) := by decide +kernel
theorem dX6_count_49 : decode cX6_count 49 = .ok (.getfield 74, 3) := by decide +kernel
theorem dX6_count_52 : decode cX6_count 52 = .ok (.goto 7, 3) := by decide +kernel
theorem dX6_count_55 : decode cX6_count 55 = .ok (.aload_n 0, 1) := by decide +kernel
theorem dX6_count_56 : decode cX6_count 56 = .ok (.invokevirtual 77, 3) := by decide +kernel
theorem dX6_count_59 : decode cX6_count 59 = .ok (.ireturn, 1) := by decide +kernel
theorem dX6_way_0 : decode cX6_way 0 = .ok (.aload_n 0, 1) := by decide +kernel
theorem dX6_way_1 : decode cX6_way 1 = .ok (.getfield 9, 3) := by decide +kernel
theorem dX6_way_4 : decode cX6_way 4 = .ok (.bipush 6, 2) := by decide +kernel
theorem dX6_way_6 : decode cX6_way 6 = .ok (.iload_n 1, 1) := by decide +kernel
theorem dX6_way_7 : decode cX6_way 7 = .ok (.imul, 1) := by decide +kernel
theorem dX6_way_8 : decode cX6_way 8 = .ok (.iload_n 2, 1) := by decide +kernel
theorem dX6_way_9 : decode cX6_way 9 = .ok (.iadd, 1) := by decide +kernel
theorem dX6_way_10 : decode cX6_way 10 = .ok (.iaload, 1) := by decide +kernel
theorem dX6_way_11 : decode cX6_way 11 = .ok (.ireturn, 1) := by decide +kernel
theorem dX6_sort_0 : decode cX6_sort 0 = .ok (.aload_n 0, 1) := by decide +kernel
theorem dX6_sort_1 : decode cX6_sort 1 = .ok (.iconst 0, 1) := by decide +kernel
theorem dX6_sort_2 : decode cX6_sort 2 = .ok (.putfield 81, 3) := by decide +kernel
theorem dX6_sort_5 : decode cX6_sort 5 = .ok (.iconst 0, 1) := by decide +kernel
theorem dX6_sort_6 : decode cX6_sort 6 = .ok (.istore_n 2, 1) := by decide +kernel
theorem dX6_sort_7 : decode cX6_sort 7 = .ok (.iload_n 2, 1) := by decide +kernel
theorem dX6_sort_8 : decode cX6_sort 8 = .ok (.aload_n 0, 1) := by decide +kernel
theorem dX6_sort_9 : decode cX6_sort 9 = .ok (.getfield 50, 3) := by decide +kernel
theorem dX6_sort_12 : decode cX6_sort 12 = .ok (.if_icmp .ge 90, 3) := by decide +kernel
theorem dX6_sort_15 : decode cX6_sort 15 = .ok (.aload_n 0, 1) := by decide +kernel
theorem dX6_sort_16 : decode cX6_sort 16 = .ok (.getfield 25, 3) := by decide +kernel
theorem dX6_sort_19 : decode cX6_sort 19 = .ok (.iload_n 2, 1) := by decide +kernel
theorem dX6_sort_20 : decode cX6_sort 20 = .ok (.iaload, 1) := by decide +kernel
theorem dX6_sort_21 : decode cX6_sort 21 = .ok (.iload_n 1, 1) := by decide +kernel
theorem dX6_sort_22 : decode cX6_sort 22 = .ok (.if_icmp .eq 6, 3) := by decide +kernel
theorem dX6_sort_25 : decode cX6_sort 25 = .ok (.goto 71, 3) := by decide +kernel
theorem dX6_sort_28 : decode cX6_sort 28 = .ok (.aload_n 0, 1) := by decide +kernel
theorem dX6_sort_29 : decode cX6_sort 29 = .ok (.getfield 81, 3) := by decide +kernel
theorem dX6_sort_32 : decode cX6_sort 32 = .ok (.istore_n 3, 1) := by decide +kernel
theorem dX6_sort_33 : decode cX6_sort 33 = .ok (.iload_n 3, 1) := by decide +kernel
theorem dX6_sort_34 : decode cX6_sort 34 = .ok (.ifCond .le 45, 3) := by decide +kernel
theorem dX6_sort_37 : decode cX6_sort 37 = .ok (.aload_n 0, 1) := by decide +kernel
theorem dX6_sort_38 : decode cX6_sort 38 = .ok (.getfield 19, 3) := by decide +kernel
theorem dX6_sort_41 : decode cX6_sort 41 = .ok (.aload_n 0, 1) := by decide +kernel
theorem dX6_sort_42 : decode cX6_sort 42 = .ok (.getfield 44, 3) := by decide +kernel
theorem dX6_sort_45 : decode cX6_sort 45 = .ok (.iload_n 3, 1) := by decide +kernel
theorem dX6_sort_46 : decode cX6_sort 46 = .ok (.iconst 1, 1) := by decide +kernel
theorem dX6_sort_47 : decode cX6_sort 47 = .ok (.isub, 1) := by decide +kernel
theorem dX6_sort_48 : decode cX6_sort 48 = .ok (.iaload, 1) := by decide +kernel
theorem dX6_sort_49 : decode cX6_sort 49 = .ok (.iaload, 1) := by decide +kernel
theorem dX6_sort_50 : decode cX6_sort 50 = .ok (.aload_n 0, 1) := by decide +kernel
theorem dX6_sort_51 : decode cX6_sort 51 = .ok (.getfield 19, 3) := by decide +kernel
theorem dX6_sort_54 : decode cX6_sort 54 = .ok (.iload_n 2, 1) := by decide +kernel
theorem dX6_sort_55 : decode cX6_sort 55 = .ok (.iaload, 1) := by decide +kernel
theorem dX6_sort_56 : decode cX6_sort 56 = .ok (.if_icmp .le 23, 3) := by decide +kernel
theorem dX6_sort_59 : decode cX6_sort 59 = .ok (.aload_n 0, 1) := by decide +kernel
theorem dX6_sort_60 : decode cX6_sort 60 = .ok (.getfield 44, 3) := by decide +kernel
theorem dX6_sort_63 : decode cX6_sort 63 = .ok (.iload_n 3, 1) := by decide +kernel
theorem dX6_sort_64 : decode cX6_sort 64 = .ok (.aload_n 0, 1) := by decide +kernel
theorem dX6_sort_65 : decode cX6_sort 65 = .ok (.getfield 44, 3) := by decide +kernel
theorem dX6_sort_68 : decode cX6_sort 68 = .ok (.iload_n 3, 1) := by decide +kernel
theorem dX6_sort_69 : decode cX6_sort 69 = .ok (.iconst 1, 1) := by decide +kernel
theorem dX6_sort_70 : decode cX6_sort 70 = .ok (.isub, 1) := by decide +kernel
theorem dX6_sort_71 : decode cX6_sort 71 = .ok (.iaload, 1) := by decide +kernel
theorem dX6_sort_72 : decode cX6_sort 72 = .ok (.iastore, 1) := by decide +kernel
theorem dX6_sort_73 : decode cX6_sort 73 = .ok (.iinc 3 (-1), 3) := by decide +kernel
theorem dX6_sort_76 : decode cX6_sort 76 = .ok (.goto (-43), 3) := by decide +kernel
theorem dX6_sort_79 : decode cX6_sort 79 = .ok (.aload_n 0, 1) := by decide +kernel
theorem dX6_sort_80 : decode cX6_sort 80 = .ok (.getfield 44, 3) := by decide +kernel
theorem dX6_sort_83 : decode cX6_sort 83 = .ok (.iload_n 3, 1) := by decide +kernel
theorem dX6_sort_84 : decode cX6_sort 84 = .ok (.iload_n 2, 1) := by decide +kernel
theorem dX6_sort_85 : decode cX6_sort 85 = .ok (.iastore, 1) := by decide +kernel
theorem dX6_sort_86 : decode cX6_sort 86 = .ok (.aload_n 0, 1) := by decide +kernel
theorem dX6_sort_87 : decode cX6_sort 87 = .ok (.dup, 1) := by decide +kernel
theorem dX6_sort_88 : decode cX6_sort 88 = .ok (.getfield 81, 3) := by decide +kernel
theorem dX6_sort_91 : decode cX6_sort 91 = .ok (.iconst 1, 1) := by decide +kernel
theorem dX6_sort_92 : decode cX6_sort 92 = .ok (.iadd, 1) := by decide +kernel
theorem dX6_sort_93 : decode cX6_sort 93 = .ok (.putfield 81, 3) := by decide +kernel
theorem dX6_sort_96 : decode cX6_sort 96 = .ok (.iinc 2 1, 3) := by decide +kernel
theorem dX6_sort_99 : decode cX6_sort 99 = .ok (.goto (-92), 3) := by decide +kernel
theorem dX6_sort_102 : decode cX6_sort 102 = .ok (.return_, 1) := by decide +kernel
theorem dX6_look_0 : decode cX6_look 0 = .ok (.aload_n 0, 1) := by decide +kernel
theorem dX6_look_1 : decode cX6_look 1 = .ok (.iload_n 1, 1) := by decide +kernel
theorem dX6_look_2 : decode cX6_look 2 = .ok (.invokevirtual 84, 3) := by decide +kernel
theorem dX6_look_5 : decode cX6_look 5 = .ok (.aload_n 0, 1) := by decide +kernel
theorem dX6_look_6 : decode cX6_look 6 = .ok (.iconst 0, 1) := by decide +kernel
theorem dX6_look_7 : decode cX6_look 7 = .ok (.putfield 88, 3) := by decide +kernel
theorem dX6_look_10 : decode cX6_look 10 = .ok (.aload_n 0, 1) := by decide +kernel
theorem dX6_look_11 : decode cX6_look 11 = .ok (.iconst 0, 1) := by decide +kernel
theorem dX6_look_12 : decode cX6_look 12 = .ok (.putfield 91, 3) := by decide +kernel
theorem dX6_look_15 : decode cX6_look 15 = .ok (.aload_n 0, 1) := by decide +kernel
theorem dX6_look_16 : decode cX6_look 16 = .ok (.iconst 0, 1) := by decide +kernel
theorem dX6_look_17 : decode cX6_look 17 = .ok (.putfield 94, 3) := by decide +kernel
theorem dX6_look_20 : decode cX6_look 20 = .ok (.aload_n 0, 1) := by decide +kernel
theorem dX6_look_21 : decode cX6_look 21 = .ok (.iconst 0, 1) := by decide +kernel
theorem dX6_look_22 : decode cX6_look 22 = .ok (.putfield 97, 3) := by decide +kernel
theorem dX6_look_25 : decode cX6_look 25 = .ok (.aload_n 0, 1) := by decide +kernel
theorem dX6_look_26 : decode cX6_look 26 = .ok (.iconst 0, 1) := by decide +kernel
theorem dX6_look_27 : decode cX6_look 27 = .ok (.putfield 100, 3) := by decide +kernel
theorem dX6_look_30 : decode cX6_look 30 = .ok (.aload_n 0, 1) := by decide +kernel
theorem dX6_look_31 : decode cX6_look 31 = .ok (.iconst 0, 1) := by decide +kernel
theorem dX6_look_32 : decode cX6_look 32 = .ok (.putfield 103, 3) := by decide +kernel
theorem dX6_look_35 : decode cX6_look 35 = .ok (.aload_n 0, 1) := by decide +kernel
theorem dX6_look_36 : decode cX6_look 36 = .ok (.iconst 1, 1) := by decide +kernel
theorem dX6_look_37 : decode cX6_look 37 = .ok (.putfield 106, 3) := by decide +kernel
theorem dX6_look_40 : decode cX6_look 40 = .ok (.aload_n 0, 1) := by decide +kernel
theorem dX6_look_41 : decode cX6_look 41 = .ok (.getfield 81, 3) := by decide +kernel
theorem dX6_look_44 : decode cX6_look 44 = .ok (.ifCond .ne 5, 3) := by decide +kernel
theorem dX6_look_47 : decode cX6_look 47 = .ok (.iconst 1, 1) := by decide +kernel
theorem dX6_look_48 : decode cX6_look 48 = .ok (.ireturn, 1) := by decide +kernel
theorem dX6_look_49 : decode cX6_look 49 = .ok (.aload_n 0, 1) := by decide +kernel
theorem dX6_look_50 : decode cX6_look 50 = .ok (.aload_n 0, 1) := by decide +kernel
theorem dX6_look_51 : decode cX6_look 51 = .ok (.getfield 19, 3) := by decide +kernel
theorem dX6_look_54 : decode cX6_look 54 = .ok (.aload_n 0, 1) := by decide +kernel
theorem dX6_look_55 : decode cX6_look 55 = .ok (.getfield 44, 3) := by decide +kernel
theorem dX6_look_58 : decode cX6_look 58 = .ok (.iconst 0, 1) := by decide +kernel
theorem dX6_look_59 : decode cX6_look 59 = .ok (.iaload, 1) := by decide +kernel
theorem dX6_look_60 : decode cX6_look 60 = .ok (.iaload, 1) := by decide +kernel
theorem dX6_look_61 : decode cX6_look 61 = .ok (.aload_n 0, 1) := by decide +kernel
theorem dX6_look_62 : decode cX6_look 62 = .ok (.iconst 0, 1) := by decide +kernel
theorem dX6_look_63 : decode cX6_look 63 = .ok (.aload_n 0, 1) := by decide +kernel
theorem dX6_look_64 : decode cX6_look 64 = .ok (.getfield 13, 3) := by decide +kernel
theorem dX6_look_67 : decode cX6_look 67 = .ok (.aload_n 0, 1) := by decide +kernel
theorem dX6_look_68 : decode cX6_look 68 = .ok (.getfield 44, 3) := by decide +kernel
theorem dX6_look_71 : decode cX6_look 71 = .ok (.iconst 0, 1) := by decide +kernel
theorem dX6_look_72 : decode cX6_look 72 = .ok (.iaload, 1) := by decide +kernel
theorem dX6_look_73 : decode cX6_look 73 = .ok (.iaload, 1) := by decide +kernel
theorem dX6_look_74 : decode cX6_look 74 = .ok (.invokevirtual 110, 3) := by decide +kernel
theorem dX6_look_77 : decode cX6_look 77 = .ok (.isub, 1) := by decide +kernel
theorem dX6_look_78 : decode cX6_look 78 = .ok (.bipush 10, 2) := by decide +kernel
theorem dX6_look_80 : decode cX6_look 80 = .ok (.isub, 1) := by decide +kernel
theorem dX6_look_81 : decode cX6_look 81 = .ok (.putfield 88, 3) := by decide +kernel
theorem dX6_look_84 : decode cX6_look 84 = .ok (.aload_n 0, 1) := by decide +kernel
theorem dX6_look_85 : decode cX6_look 85 = .ok (.aload_n 0, 1) := by decide +kernel
theorem dX6_look_86 : decode cX6_look 86 = .ok (.getfield 22, 3) := by decide +kernel
theorem dX6_look_89 : decode cX6_look 89 = .ok (.aload_n 0, 1) := by decide +kernel
theorem dX6_look_90 : decode cX6_look 90 = .ok (.getfield 44, 3) := by decide +kernel
theorem dX6_look_93 : decode cX6_look 93 = .ok (.aload_n 0, 1) := by decide +kernel
theorem dX6_look_94 : decode cX6_look 94 = .ok (.getfield 81, 3) := by decide +kernel
theorem dX6_look_97 : decode cX6_look 97 = .ok (.iconst 1, 1) := by decide +kernel
theorem dX6_look_98 : decode cX6_look 98 = .ok (.isub, 1) := by decide +kernel
theorem dX6_look_99 : decode cX6_look 99 = .ok (.iaload, 1) := by decide +kernel
theorem dX6_look_100 : decode cX6_look 100 = .ok (.iaload, 1) := by decide +kernel
theorem dX6_look_101 : decode cX6_look 101 = .ok (.aload_n 0, 1) := by decide +kernel
theorem dX6_look_102 : decode cX6_look 102 = .ok (.aload_n 0, 1) := by decide +kernel
theorem dX6_look_103 : decode cX6_look 103 = .ok (.getfield 16, 3) := by decide +kernel
theorem dX6_look_106 : decode cX6_look 106 = .ok (.aload_n 0, 1) := by decide +kernel
theorem dX6_look_107 : decode cX6_look 107 = .ok (.getfield 44, 3) := by decide +kernel
theorem dX6_look_110 : decode cX6_look 110 = .ok (.aload_n 0, 1) := by decide +kernel
theorem dX6_look_111 : decode cX6_look 111 = .ok (.getfield 81, 3) := by decide +kernel
theorem dX6_look_114 : decode cX6_look 114 = .ok (.iconst 1, 1) := by decide +kernel
theorem dX6_look_115 : decode cX6_look 115 = .ok (.isub, 1) := by decide +kernel
theorem dX6_look_116 : decode cX6_look 116 = .ok (.iaload, 1) := by decide +kernel
theorem dX6_look_117 : decode cX6_look 117 = .ok (.iaload, 1) := by decide +kernel
theorem dX6_look_118 : decode cX6_look 118 = .ok (.iconst 0, 1) := by decide +kernel
theorem dX6_look_119 : decode cX6_look 119 = .ok (.invokevirtual 110, 3) := by decide +kernel
theorem dX6_look_122 : decode cX6_look 122 = .ok (.iadd, 1) := by decide +kernel
theorem dX6_look_123 : decode cX6_look 123 = .ok (.iconst 5, 1) := by decide +kernel
theorem dX6_look_124 : decode cX6_look 124 = .ok (.iadd, 1) := by decide +kernel
theorem dX6_look_125 : decode cX6_look 125 = .ok (.putfield 91, 3) := by decide +kernel
theorem dX6_look_128 : decode cX6_look 128 = .ok (.aload_n 0, 1) := by decide +kernel
theorem dX6_look_129 : decode cX6_look 129 = .ok (.aload_n 0, 1) := by decide +kernel
theorem dX6_look_130 : decode cX6_look 130 = .ok (.getfield 91, 3) := by decide +kernel
theorem dX6_look_133 : decode cX6_look 133 = .ok (.aload_n 0, 1) := by decide +kernel
theorem dX6_look_134 : decode cX6_look 134 = .ok (.getfield 88, 3) := by decide +kernel
theorem dX6_look_137 : decode cX6_look 137 = .ok (.isub, 1) := by decide +kernel
theorem dX6_look_138 : decode cX6_look 138 = .ok (.putfield 94, 3) := by decide +kernel
theorem dX6_look_141 : decode cX6_look 141 = .ok (.aload_n 0, 1) := by decide +kernel
theorem dX6_look_142 : decode cX6_look 142 = .ok (.iconst 0, 1) := by decide +kernel
theorem dX6_look_143 : decode cX6_look 143 = .ok (.aload_n 0, 1) := by decide +kernel
theorem dX6_look_144 : decode cX6_look 144 = .ok (.getfield 13, 3) := by decide +kernel
theorem dX6_look_147 : decode cX6_look 147 = .ok (.aload_n 0, 1) := by decide +kernel
theorem dX6_look_148 : decode cX6_look 148 = .ok (.getfield 44, 3) := by decide +kernel
theorem dX6_look_151 : decode cX6_look 151 = .ok (.iconst 0, 1) := by decide +kernel
theorem dX6_look_152 : decode cX6_look 152 = .ok (.iaload, 1) := by decide +kernel
theorem dX6_look_153 : decode cX6_look 153 = .ok (.iaload, 1) := by decide +kernel
theorem dX6_look_154 : decode cX6_look 154 = .ok (.invokevirtual 110, 3) := by decide +kernel
theorem dX6_look_157 : decode cX6_look 157 = .ok (.istore_n 2, 1) := by decide +kernel
theorem dX6_look_158 : decode cX6_look 158 = .ok (.iconst 0, 1) := by decide +kernel
theorem dX6_look_159 : decode cX6_look 159 = .ok (.istore_n 3, 1) := by decide +kernel
theorem dX6_look_160 : decode cX6_look 160 = .ok (.iload_n 3, 1) := by decide +kernel
theorem dX6_look_161 : decode cX6_look 161 = .ok (.aload_n 0, 1) := by decide +kernel
theorem dX6_look_162 : decode cX6_look 162 = .ok (.getfield 81, 3) := by decide +kernel
theorem dX6_look_165 : decode cX6_look 165 = .ok (.if_icmp .ge 232, 3) := by decide +kernel
theorem dX6_look_168 : decode cX6_look 168 = .ok (.iload_n 2, 1) := by decide +kernel
theorem dX6_look_169 : decode cX6_look 169 = .ok (.aload_n 0, 1) := by decide +kernel
theorem dX6_look_170 : decode cX6_look 170 = .ok (.getfield 22, 3) := by decide +kernel
theorem dX6_look_173 : decode cX6_look 173 = .ok (.aload_n 0, 1) := by decide +kernel
theorem dX6_look_174 : decode cX6_look 174 = .ok (.getfield 44, 3) := by decide +kernel
theorem dX6_look_177 : decode cX6_look 177 = .ok (.iload_n 3, 1) := by decide +kernel
theorem dX6_look_178 : decode cX6_look 178 = .ok (.iaload, 1) := by decide +kernel
theorem dX6_look_179 : decode cX6_look 179 = .ok (.iaload, 1) := by decide +kernel
theorem dX6_look_180 : decode cX6_look 180 = .ok (.aload_n 0, 1) := by decide +kernel
theorem dX6_look_181 : decode cX6_look 181 = .ok (.getfield 19, 3) := by decide +kernel
theorem dX6_look_184 : decode cX6_look 184 = .ok (.aload_n 0, 1) := by decide +kernel
theorem dX6_look_185 : decode cX6_look 185 = .ok (.getfield 44, 3) := by decide +kernel
theorem dX6_look_188 : decode cX6_look 188 = .ok (.iload_n 3, 1) := by decide +kernel
theorem dX6_look_189 : decode cX6_look 189 = .ok (.iaload, 1) := by decide +kernel
theorem dX6_look_190 : decode cX6_look 190 = .ok (.iaload, 1) := by decide +kernel
theorem dX6_look_191 : decode cX6_look 191 = .ok (.isub, 1) := by decide +kernel
theorem dX6_look_192 : decode cX6_look 192 = .ok (.iadd, 1) := by decide +kernel
theorem dX6_look_193 : decode cX6_look 193 = .ok (.istore_n 2, 1) := by decide +kernel
theorem dX6_look_194 : decode cX6_look 194 = .ok (.iload_n 3, 1) := by decide +kernel
theorem dX6_look_195 : decode cX6_look 195 = .ok (.aload_n 0, 1) := by decide +kernel
theorem dX6_look_196 : decode cX6_look 196 = .ok (.getfield 81, 3) := by decide +kernel
theorem dX6_look_199 : decode cX6_look 199 = .ok (.iconst 1, 1) := by decide +kernel
theorem dX6_look_200 : decode cX6_look 200 = .ok (.isub, 1) := by decide +kernel
theorem dX6_look_201 : decode cX6_look 201 = .ok (.if_icmp .ne 7, 3) := by decide +kernel
theorem dX6_look_204 : decode cX6_look 204 = .ok (.iconst 1, 1) := by decide +kernel
theorem dX6_look_205 : decode cX6_look 205 = .ok (.goto 4, 3) := by decide +kernel
theorem dX6_look_208 : decode cX6_look 208 = .ok (.iconst 0, 1) := by decide +kernel
theorem dX6_look_209 : decode cX6_look 209 = .ok (.istore 4, 2) := by decide +kernel
theorem dX6_look_211 : decode cX6_look 211 = .ok (.iload 4, 2) := by decide +kernel
theorem dX6_look_213 : decode cX6_look 213 = .ok (.ifCond .eq 22, 3) := by decide +kernel
theorem dX6_look_216 : decode cX6_look 216 = .ok (.aload_n 0, 1) := by decide +kernel
theorem dX6_look_217 : decode cX6_look 217 = .ok (.aload_n 0, 1) := by decide +kernel
theorem dX6_look_218 : decode cX6_look 218 = .ok (.getfield 16, 3) := by decide +kernel
theorem dX6_look_221 : decode cX6_look 221 = .ok (.aload_n 0, 1) := by decide +kernel
theorem dX6_look_222 : decode cX6_look 222 = .ok (.getfield 44, 3) := by decide +kernel
theorem dX6_look_225 : decode cX6_look 225 = .ok (.iload_n 3, 1) := by decide +kernel
theorem dX6_look_226 : decode cX6_look 226 = .ok (.iaload, 1) := by decide +kernel
theorem dX6_look_227 : decode cX6_look 227 = .ok (.iaload, 1) := by decide +kernel
theorem dX6_look_228 : decode cX6_look 228 = .ok (.iconst 0, 1) := by decide +kernel
theorem dX6_look_229 : decode cX6_look 229 = .ok (.invokevirtual 110, 3) := by decide +kernel
theorem dX6_look_232 : decode cX6_look 232 = .ok (.goto 31, 3) := by decide +kernel
theorem dX6_look_235 : decode cX6_look 235 = .ok (.aload_n 0, 1) := by decide +kernel
theorem dX6_look_236 : decode cX6_look 236 = .ok (.aload_n 0, 1) := by decide +kernel
theorem dX6_look_237 : decode cX6_look 237 = .ok (.getfield 16, 3) := by decide +kernel
theorem dX6_look_240 : decode cX6_look 240 = .ok (.aload_n 0, 1) := by decide +kernel
theorem dX6_look_241 : decode cX6_look 241 = .ok (.getfield 44, 3) := by decide +kernel
theorem dX6_look_244 : decode cX6_look 244 = .ok (.iload_n 3, 1) := by decide +kernel
theorem dX6_look_245 : decode cX6_look 245 = .ok (.iaload, 1) := by decide +kernel
theorem dX6_look_246 : decode cX6_look 246 = .ok (.iaload, 1) := by decide +kernel
theorem dX6_look_247 : decode cX6_look 247 = .ok (.aload_n 0, 1) := by decide +kernel
theorem dX6_look_248 : decode cX6_look 248 = .ok (.getfield 13, 3) := by decide +kernel
theorem dX6_look_251 : decode cX6_look 251 = .ok (.aload_n 0, 1) := by decide +kernel
theorem dX6_look_252 : decode cX6_look 252 = .ok (.getfield 44, 3) := by decide +kernel
theorem dX6_look_255 : decode cX6_look 255 = .ok (.iload_n 3, 1) := by decide +kernel
theorem dX6_look_256 : decode cX6_look 256 = .ok (.iconst 1, 1) := by decide +kernel
theorem dX6_look_257 : decode cX6_look 257 = .ok (.iadd, 1) := by decide +kernel
theorem dX6_look_258 : decode cX6_look 258 = .ok (.iaload, 1) := by decide +kernel
theorem dX6_look_259 : decode cX6_look 259 = .ok (.iaload, 1) := by decide +kernel
theorem dX6_look_260 : decode cX6_look 260 = .ok (.invokevirtual 110, 3) := by decide +kernel
theorem dX6_look_263 : decode cX6_look 263 = .ok (.istore 5, 2) := by decide +kernel
theorem dX6_look_265 : decode cX6_look 265 = .ok (.iload 4, 2) := by decide +kernel
theorem dX6_look_267 : decode cX6_look 267 = .ok (.ifCond .eq 7, 3) := by decide +kernel
theorem dX6_look_270 : decode cX6_look 270 = .ok (.iconst 0, 1) := by decide +kernel
theorem dX6_look_271 : decode cX6_look 271 = .ok (.goto 31, 3) := by decide +kernel
theorem dX6_look_274 : decode cX6_look 274 = .ok (.aload_n 0, 1) := by decide +kernel
theorem dX6_look_275 : decode cX6_look 275 = .ok (.getfield 19, 3) := by decide +kernel
theorem dX6_look_278 : decode cX6_look 278 = .ok (.aload_n 0, 1) := by decide +kernel
theorem dX6_look_279 : decode cX6_look 279 = .ok (.getfield 44, 3) := by decide +kernel
theorem dX6_look_282 : decode cX6_look 282 = .ok (.iload_n 3, 1) := by decide +kernel
theorem dX6_look_283 : decode cX6_look 283 = .ok (.iconst 1, 1) := by decide +kernel
theorem dX6_look_284 : decode cX6_look 284 = .ok (.iadd, 1) := by decide +kernel
theorem dX6_look_285 : decode cX6_look 285 = .ok (.iaload, 1) := by decide +kernel
theorem dX6_look_286 : decode cX6_look 286 = .ok (.iaload, 1) := by decide +kernel
theorem dX6_look_287 : decode cX6_look 287 = .ok (.aload_n 0, 1) := by decide +kernel
theorem dX6_look_288 : decode cX6_look 288 = .ok (.getfield 22, 3) := by decide +kernel
theorem dX6_look_291 : decode cX6_look 291 = .ok (.aload_n 0, 1) := by decide +kernel
theorem dX6_look_292 : decode cX6_look 292 = .ok (.getfield 44, 3) := by decide +kernel
theorem dX6_look_295 : decode cX6_look 295 = .ok (.iload_n 3, 1) := by decide +kernel
theorem dX6_look_296 : decode cX6_look 296 = .ok (.iaload, 1) := by decide +kernel
theorem dX6_look_297 : decode cX6_look 297 = .ok (.iaload, 1) := by decide +kernel
theorem dX6_look_298 : decode cX6_look 298 = .ok (.isub, 1) := by decide +kernel
theorem dX6_look_299 : decode cX6_look 299 = .ok (.iload 5, 2) := by decide +kernel
theorem dX6_look_301 : decode cX6_look 301 = .ok (.isub, 1) := by decide +kernel
theorem dX6_look_302 : decode cX6_look 302 = .ok (.istore 6, 2) := by decide +kernel
theorem dX6_look_304 : decode cX6_look 304 = .ok (.iload 4, 2) := by decide +kernel
theorem dX6_look_306 : decode cX6_look 306 = .ok (.ifCond .ne 16, 3) := by decide +kernel
theorem dX6_look_309 : decode cX6_look 309 = .ok (.iload 6, 2) := by decide +kernel
theorem dX6_look_311 : decode cX6_look 311 = .ok (.aload_n 0, 1) := by decide +kernel
theorem dX6_look_312 : decode cX6_look 312 = .ok (.getfield 38, 3) := by decide +kernel
theorem dX6_look_315 : decode cX6_look 315 = .ok (.if_icmp .lt 7, 3) := by decide +kernel
theorem dX6_look_318 : decode cX6_look 318 = .ok (.iconst 1, 1) := by decide +kernel
theorem dX6_look_319 : decode cX6_look 319 = .ok (.goto 4, 3) := by decide +kernel
theorem dX6_look_322 : decode cX6_look 322 = .ok (.iconst 0, 1) := by decide +kernel
theorem dX6_look_323 : decode cX6_look 323 = .ok (.istore 7, 2) := by decide +kernel
theorem dX6_look_325 : decode cX6_look 325 = .ok (.aload_n 0, 1) := by decide +kernel
theorem dX6_look_326 : decode cX6_look 326 = .ok (.aload_n 0, 1) := by decide +kernel
theorem dX6_look_327 : decode cX6_look 327 = .ok (.getfield 106, 3) := by decide +kernel
theorem dX6_look_330 : decode cX6_look 330 = .ok (.ifCond .eq 12, 3) := by decide +kernel
theorem dX6_look_333 : decode cX6_look 333 = .ok (.iload 6, 2) := by decide +kernel
theorem dX6_look_335 : decode cX6_look 335 = .ok (.ifCond .lt 7, 3) := by decide +kernel
theorem dX6_look_338 : decode cX6_look 338 = .ok (.iconst 1, 1) := by decide +kernel
theorem dX6_look_339 : decode cX6_look 339 = .ok (.goto 4, 3) := by decide +kernel
theorem dX6_look_342 : decode cX6_look 342 = .ok (.iconst 0, 1) := by decide +kernel
theorem dX6_look_343 : decode cX6_look 343 = .ok (.putfield 106, 3) := by decide +kernel
theorem dX6_look_346 : decode cX6_look 346 = .ok (.iload 7, 2) := by decide +kernel
theorem dX6_look_348 : decode cX6_look 348 = .ok (.ifCond .eq 38, 3) := by decide +kernel
theorem dX6_look_351 : decode cX6_look 351 = .ok (.aload_n 0, 1) := by decide +kernel
theorem dX6_look_352 : decode cX6_look 352 = .ok (.dup, 1) := by decide +kernel
theorem dX6_look_353 : decode cX6_look 353 = .ok (.getfield 100, 3) := by decide +kernel
theorem dX6_look_356 : decode cX6_look 356 = .ok (.iconst 1, 1) := by decide +kernel
theorem dX6_look_357 : decode cX6_look 357 = .ok (.iadd, 1) := by decide +kernel
theorem dX6_look_358 : decode cX6_look 358 = .ok (.putfield 100, 3) := by decide +kernel
theorem dX6_look_361 : decode cX6_look 361 = .ok (.aload_n 0, 1) := by decide +kernel
theorem dX6_look_362 : decode cX6_look 362 = .ok (.dup, 1) := by decide +kernel
theorem dX6_look_363 : decode cX6_look 363 = .ok (.getfield 94, 3) := by decide +kernel
theorem dX6_look_366 : decode cX6_look 366 = .ok (.iload 6, 2) := by decide +kernel
theorem dX6_look_368 : decode cX6_look 368 = .ok (.isub, 1) := by decide +kernel
theorem dX6_look_369 : decode cX6_look 369 = .ok (.putfield 94, 3) := by decide +kernel
theorem dX6_look_372 : decode cX6_look 372 = .ok (.aload_n 0, 1) := by decide +kernel
theorem dX6_look_373 : decode cX6_look 373 = .ok (.aload_n 0, 1) := by decide +kernel
theorem dX6_look_374 : decode cX6_look 374 = .ok (.getfield 103, 3) := by decide +kernel
theorem dX6_look_377 : decode cX6_look 377 = .ok (.iload_n 2, 1) := by decide +kernel
theorem dX6_look_378 : decode cX6_look 378 = .ok (.invokestatic 114, 3) := by decide +kernel
theorem dX6_look_381 : decode cX6_look 381 = .ok (.putfield 103, 3) := by decide +kernel
theorem dX6_look_384 : decode cX6_look 384 = .ok (.iconst 0, 1) := by decide +kernel
theorem dX6_look_385 : decode cX6_look 385 = .ok (.istore_n 2, 1) := by decide +kernel
theorem dX6_look_386 : decode cX6_look 386 = .ok (.iload_n 2, 1) := by decide +kernel
theorem dX6_look_387 : decode cX6_look 387 = .ok (.iload 5, 2) := by decide +kernel
theorem dX6_look_389 : decode cX6_look 389 = .ok (.iadd, 1) := by decide +kernel
theorem dX6_look_390 : decode cX6_look 390 = .ok (.istore_n 2, 1) := by decide +kernel
theorem dX6_look_391 : decode cX6_look 391 = .ok (.iinc 3 1, 3) := by decide +kernel
theorem dX6_look_394 : decode cX6_look 394 = .ok (.goto (-234), 3) := by decide +kernel
theorem dX6_look_397 : decode cX6_look 397 = .ok (.aload_n 0, 1) := by decide +kernel
theorem dX6_look_398 : decode cX6_look 398 = .ok (.aload_n 0, 1) := by decide +kernel
theorem dX6_look_399 : decode cX6_look 399 = .ok (.getfield 103, 3) := by decide +kernel
theorem dX6_look_402 : decode cX6_look 402 = .ok (.iload_n 2, 1) := by decide +kernel
theorem dX6_look_403 : decode cX6_look 403 = .ok (.invokestatic 114, 3) := by decide +kernel
theorem dX6_look_406 : decode cX6_look 406 = .ok (.putfield 103, 3) := by decide +kernel
theorem dX6_look_409 : decode cX6_look 409 = .ok (.aload_n 0, 1) := by decide +kernel
theorem dX6_look_410 : decode cX6_look 410 = .ok (.sipush 360, 3) := by decide +kernel
theorem dX6_look_413 : decode cX6_look 413 = .ok (.aload_n 0, 1) := by decide +kernel
theorem dX6_look_414 : decode cX6_look 414 = .ok (.getfield 94, 3) := by decide +kernel
theorem dX6_look_417 : decode cX6_look 417 = .ok (.invokestatic 114, 3) := by decide +kernel
theorem dX6_look_420 : decode cX6_look 420 = .ok (.iconst 0, 1) := by decide +kernel
theorem dX6_look_421 : decode cX6_look 421 = .ok (.aload_n 0, 1) := by decide +kernel
theorem dX6_look_422 : decode cX6_look 422 = .ok (.getfield 94, 3) := by decide +kernel
theorem dX6_look_425 : decode cX6_look 425 = .ok (.sipush 480, 3) := by decide +kernel
theorem dX6_look_428 : decode cX6_look 428 = .ok (.isub, 1) := by decide +kernel
theorem dX6_look_429 : decode cX6_look 429 = .ok (.invokestatic 114, 3) := by decide +kernel
theorem dX6_look_432 : decode cX6_look 432 = .ok (.iconst 2, 1) := by decide +kernel
theorem dX6_look_433 : decode cX6_look 433 = .ok (.idiv, 1) := by decide +kernel
theorem dX6_look_434 : decode cX6_look 434 = .ok (.iadd, 1) := by decide +kernel
theorem dX6_look_435 : decode cX6_look 435 = .ok (.putfield 97, 3) := by decide +kernel
theorem dX6_look_438 : decode cX6_look 438 = .ok (.aload_n 0, 1) := by decide +kernel
theorem dX6_look_439 : decode cX6_look 439 = .ok (.aload_n 0, 1) := by decide +kernel
theorem dX6_look_440 : decode cX6_look 440 = .ok (.getfield 106, 3) := by decide +kernel
theorem dX6_look_443 : decode cX6_look 443 = .ok (.ifCond .eq 34, 3) := by decide +kernel
theorem dX6_look_446 : decode cX6_look 446 = .ok (.aload_n 0, 1) := by decide +kernel
theorem dX6_look_447 : decode cX6_look 447 = .ok (.getfield 103, 3) := by decide +kernel
theorem dX6_look_450 : decode cX6_look 450 = .ok (.aload_n 0, 1) := by decide +kernel
theorem dX6_look_451 : decode cX6_look 451 = .ok (.getfield 31, 3) := by decide +kernel
theorem dX6_look_454 : decode cX6_look 454 = .ok (.if_icmp .gt 23, 3) := by decide +kernel
theorem dX6_look_457 : decode cX6_look 457 = .ok (.aload_n 0, 1) := by decide +kernel
theorem dX6_look_458 : decode cX6_look 458 = .ok (.getfield 91, 3) := by decide +kernel
theorem dX6_look_461 : decode cX6_look 461 = .ok (.aload_n 0, 1) := by decide +kernel
theorem dX6_look_462 : decode cX6_look 462 = .ok (.getfield 88, 3) := by decide +kernel
theorem dX6_look_465 : decode cX6_look 465 = .ok (.isub, 1) := by decide +kernel
theorem dX6_look_466 : decode cX6_look 466 = .ok (.aload_n 0, 1) := by decide +kernel
theorem dX6_look_467 : decode cX6_look 467 = .ok (.getfield 35, 3) := by decide +kernel
theorem dX6_look_470 : decode cX6_look 470 = .ok (.if_icmp .gt 7, 3) := by decide +kernel
theorem dX6_look_473 : decode cX6_look 473 = .ok (.iconst 1, 1) := by decide +kernel
theorem dX6_look_474 : decode cX6_look 474 = .ok (.goto 4, 3) := by decide +kernel
theorem dX6_look_477 : decode cX6_look 477 = .ok (.iconst 0, 1) := by decide +kernel
theorem dX6_look_478 : decode cX6_look 478 = .ok (.putfield 106, 3) := by decide +kernel
theorem dX6_look_481 : decode cX6_look 481 = .ok (.aload_n 0, 1) := by decide +kernel
theorem dX6_look_482 : decode cX6_look 482 = .ok (.getfield 106, 3) := by decide +kernel
theorem dX6_look_485 : decode cX6_look 485 = .ok (.ireturn, 1) := by decide +kernel
theorem dX6_payOf_0 : decode cX6_payOf 0 = .ok (.aload_n 0, 1) := by decide +kernel
theorem dX6_payOf_1 : decode cX6_payOf 1 = .ok (.iload_n 1, 1) := by decide +kernel
theorem dX6_payOf_2 : decode cX6_payOf 2 = .ok (.invokevirtual 71, 3) := by decide +kernel
theorem dX6_payOf_5 : decode cX6_payOf 5 = .ok (.pop, 1) := by decide +kernel
theorem dX6_payOf_6 : decode cX6_payOf 6 = .ok (.aload_n 0, 1) := by decide +kernel
theorem dX6_payOf_7 : decode cX6_payOf 7 = .ok (.getfield 97, 3) := by decide +kernel
theorem dX6_payOf_10 : decode cX6_payOf 10 = .ok (.ireturn, 1) := by decide +kernel
theorem dX6_isFixed_0 : decode cX6_isFixed 0 = .ok (.iconst 0, 1) := by decide +kernel
theorem dX6_isFixed_1 : decode cX6_isFixed 1 = .ok (.istore_n 2, 1) := by decide +kernel
theorem dX6_isFixed_2 : decode cX6_isFixed 2 = .ok (.iconst 0, 1) := by decide +kernel
theorem dX6_isFixed_3 : decode cX6_isFixed 3 = .ok (.istore_n 3, 1) := by decide +kernel
theorem dX6_isFixed_4 : decode cX6_isFixed 4 = .ok (.iload_n 3, 1) := by decide +kernel
theorem dX6_isFixed_5 : decode cX6_isFixed 5 = .ok (.bipush 7, 2) := by decide +kernel
theorem dX6_isFixed_7 : decode cX6_isFixed 7 = .ok (.aload_n 0, 1) := by decide +kernel
theorem dX6_isFixed_8 : decode cX6_isFixed 8 = .ok (.getfield 74, 3) := by decide +kernel
theorem dX6_isFixed_11 : decode cX6_isFixed 11 = .ok (.imul, 1) := by decide +kernel
theorem dX6_isFixed_12 : decode cX6_isFixed 12 = .ok (.if_icmp .ge 29, 3) := by decide +kernel
theorem dX6_isFixed_15 : decode cX6_isFixed 15 = .ok (.iload_n 2, 1) := by decide +kernel
theorem dX6_isFixed_16 : decode cX6_isFixed 16 = .ok (.ifCond .ne 13, 3) := by decide +kernel
theorem dX6_isFixed_19 : decode cX6_isFixed 19 = .ok (.aload_n 0, 1) := by decide +kernel
theorem dX6_isFixed_20 : decode cX6_isFixed 20 = .ok (.getfield 28, 3) := by decide +kernel
theorem dX6_isFixed_23 : decode cX6_isFixed 23 = .ok (.iload_n 3, 1) := by decide +kernel
theorem dX6_isFixed_24 : decode cX6_isFixed 24 = .ok (.iaload, 1) := by decide +kernel
theorem dX6_isFixed_25 : decode cX6_isFixed 25 = .ok (.iload_n 1, 1) := by decide +kernel
theorem dX6_isFixed_26 : decode cX6_isFixed 26 = .ok (.if_icmp .ne 7, 3) := by decide +kernel
theorem dX6_isFixed_29 : decode cX6_isFixed 29 = .ok (.iconst 1, 1) := by decide +kernel
theorem dX6_isFixed_30 : decode cX6_isFixed 30 = .ok (.goto 4, 3) := by decide +kernel
theorem dX6_isFixed_33 : decode cX6_isFixed 33 = .ok (.iconst 0, 1) := by decide +kernel
theorem dX6_isFixed_34 : decode cX6_isFixed 34 = .ok (.istore_n 2, 1) := by decide +kernel
theorem dX6_isFixed_35 : decode cX6_isFixed 35 = .ok (.iinc 3 1, 3) := by decide +kernel
theorem dX6_isFixed_38 : decode cX6_isFixed 38 = .ok (.goto (-34), 3) := by decide +kernel
theorem dX6_isFixed_41 : decode cX6_isFixed 41 = .ok (.iload_n 2, 1) := by decide +kernel
theorem dX6_isFixed_42 : decode cX6_isFixed 42 = .ok (.ireturn, 1) := by decide +kernel
theorem dX6_addDuty_0 : decode cX6_addDuty 0 = .ok (.aload_n 0, 1) := by decide +kernel
theorem dX6_addDuty_1 : decode cX6_addDuty 1 = .ok (.iconst 0, 1) := by decide +kernel
theorem dX6_addDuty_2 : decode cX6_addDuty 2 = .ok (.putfield 47, 3) := by decide +kernel
theorem dX6_addDuty_5 : decode cX6_addDuty 5 = .ok (.aload_n 0, 1) := by decide +kernel
theorem dX6_addDuty_6 : decode cX6_addDuty 6 = .ok (.getfield 57, 3) := by decide +kernel
theorem dX6_addDuty_9 : decode cX6_addDuty 9 = .ok (.bipush 12, 2) := by decide +kernel
theorem dX6_addDuty_11 : decode cX6_addDuty 11 = .ok (.if_icmp .ne 9, 3) := by decide +kernel
theorem dX6_addDuty_14 : decode cX6_addDuty 14 = .ok (.aload_n 0, 1) := by decide +kernel
theorem dX6_addDuty_15 : decode cX6_addDuty 15 = .ok (.iconst 1, 1) := by decide +kernel
theorem dX6_addDuty_16 : decode cX6_addDuty 16 = .ok (.invokevirtual 64, 3) := by decide +kernel
theorem dX6_addDuty_19 : decode cX6_addDuty 19 = .ok (.ireturn, 1) := by decide +kernel
theorem dX6_addDuty_20 : decode cX6_addDuty 20 = .ok (.aload_n 0, 1) := by decide +kernel
theorem dX6_addDuty_21 : decode cX6_addDuty 21 = .ok (.dup, 1) := by decide +kernel
theorem dX6_addDuty_22 : decode cX6_addDuty 22 = .ok (.getfield 57, 3) := by decide +kernel
theorem dX6_addDuty_25 : decode cX6_addDuty 25 = .ok (.iconst 1, 1) := by decide +kernel
theorem dX6_addDuty_26 : decode cX6_addDuty 26 = .ok (.iadd, 1) := by decide +kernel
theorem dX6_addDuty_27 : decode cX6_addDuty 27 = .ok (.putfield 57, 3) := by decide +kernel
theorem dX6_addDuty_30 : decode cX6_addDuty 30 = .ok (.aload_n 0, 1) := by decide +kernel
theorem dX6_addDuty_31 : decode cX6_addDuty 31 = .ok (.getfield 57, 3) := by decide +kernel
theorem dX6_addDuty_34 : decode cX6_addDuty 34 = .ok (.iconst 1, 1) := by decide +kernel
theorem dX6_addDuty_35 : decode cX6_addDuty 35 = .ok (.isub, 1) := by decide +kernel
theorem dX6_addDuty_36 : decode cX6_addDuty 36 = .ok (.ireturn, 1) := by decide +kernel
theorem dX6_hasDeparture_0 : decode cX6_hasDeparture 0 = .ok (.iconst 0, 1) := by decide +kernel
theorem dX6_hasDeparture_1 : decode cX6_hasDeparture 1 = .ok (.istore_n 3, 1) := by decide +kernel
theorem dX6_hasDeparture_2 : decode cX6_hasDeparture 2 = .ok (.iconst 0, 1) := by decide +kernel
theorem dX6_hasDeparture_3 : decode cX6_hasDeparture 3 = .ok (.istore 4, 2) := by decide +kernel
theorem dX6_hasDeparture_5 : decode cX6_hasDeparture 5 = .ok (.iload 4, 2) := by decide +kernel
theorem dX6_hasDeparture_7 : decode cX6_hasDeparture 7 = .ok (.aload_n 0, 1) := by decide +kernel
theorem dX6_hasDeparture_8 : decode cX6_hasDeparture 8 = .ok (.getfield 50, 3) := by decide +kernel
theorem dX6_hasDeparture_11 : decode cX6_hasDeparture 11 = .ok (.if_icmp .ge 46, 3) := by decide +kernel
theorem dX6_hasDeparture_14 : decode cX6_hasDeparture 14 = .ok (.iload_n 3, 1) := by decide +kernel
theorem dX6_hasDeparture_15 : decode cX6_hasDeparture 15 = .ok (.ifCond .ne 30, 3) := by decide +kernel
theorem dX6_hasDeparture_18 : decode cX6_hasDeparture 18 = .ok (.aload_n 0, 1) := by decide +kernel
theorem dX6_hasDeparture_19 : decode cX6_hasDeparture 19 = .ok (.getfield 25, 3) := by decide +kernel
theorem dX6_hasDeparture_22 : decode cX6_hasDeparture 22 = .ok (.iload 4, 2) := by decide +kernel
theorem dX6_hasDeparture_24 : decode cX6_hasDeparture 24 = .ok (.iaload, 1) := by decide +kernel
theorem dX6_hasDeparture_25 : decode cX6_hasDeparture 25 = .ok (.iload_n 1, 1) := by decide +kernel
theorem dX6_hasDeparture_26 : decode cX6_hasDeparture 26 = .ok (.if_icmp .ne 23, 3) := by decide +kernel
theorem dX6_hasDeparture_29 : decode cX6_hasDeparture 29 = .ok (.aload_n 0, 1) := by decide +kernel
theorem dX6_hasDeparture_30 : decode cX6_hasDeparture 30 = .ok (.getfield 19, 3) := by decide +kernel
theorem dX6_hasDeparture_33 : decode cX6_hasDeparture 33 = .ok (.iload 4, 2) := by decide +kernel
theorem dX6_hasDeparture_35 : decode cX6_hasDeparture 35 = .ok (.iaload, 1) := by decide +kernel
theorem dX6_hasDeparture_36 : decode cX6_hasDeparture 36 = .ok (.aload_n 0, 1) := by decide +kernel
theorem dX6_hasDeparture_37 : decode cX6_hasDeparture 37 = .ok (.getfield 19, 3) := by decide +kernel
theorem dX6_hasDeparture_40 : decode cX6_hasDeparture 40 = .ok (.iload_n 2, 1) := by decide +kernel
theorem dX6_hasDeparture_41 : decode cX6_hasDeparture 41 = .ok (.iaload, 1) := by decide +kernel
theorem dX6_hasDeparture_42 : decode cX6_hasDeparture 42 = .ok (.if_icmp .ne 7, 3) := by decide +kernel
theorem dX6_hasDeparture_45 : decode cX6_hasDeparture 45 = .ok (.iconst 1, 1) := by decide +kernel
theorem dX6_hasDeparture_46 : decode cX6_hasDeparture 46 = .ok (.goto 4, 3) := by decide +kernel
theorem dX6_hasDeparture_49 : decode cX6_hasDeparture 49 = .ok (.iconst 0, 1) := by decide +kernel
theorem dX6_hasDeparture_50 : decode cX6_hasDeparture 50 = .ok (.istore_n 3, 1) := by decide +kernel
theorem dX6_hasDeparture_51 : decode cX6_hasDeparture 51 = .ok (.iinc 4 1, 3) := by decide +kernel
theorem dX6_hasDeparture_54 : decode cX6_hasDeparture 54 = .ok (.goto (-49), 3) := by decide +kernel
theorem dX6_hasDeparture_57 : decode cX6_hasDeparture 57 = .ok (.iload_n 3, 1) := by decide +kernel
theorem dX6_hasDeparture_58 : decode cX6_hasDeparture 58 = .ok (.ireturn, 1) := by decide +kernel
theorem dX6_canPut_0 : decode cX6_canPut 0 = .ok (.aload_n 0, 1) := by decide +kernel
theorem dX6_canPut_1 : decode cX6_canPut 1 = .ok (.getfield 25, 3) := by decide +kernel
theorem dX6_canPut_4 : decode cX6_canPut 4 = .ok (.iload_n 2, 1) := by decide +kernel
theorem dX6_canPut_5 : decode cX6_canPut 5 = .ok (.iaload, 1) := by decide +kernel
theorem dX6_canPut_6 : decode cX6_canPut 6 = .ok (.iconst (-1), 1) := by decide +kernel
theorem dX6_canPut_7 : decode cX6_canPut 7 = .ok (.if_icmp .ne 20, 3) := by decide +kernel
theorem dX6_canPut_10 : decode cX6_canPut 10 = .ok (.aload_n 0, 1) := by decide +kernel
theorem dX6_canPut_11 : decode cX6_canPut 11 = .ok (.iload_n 1, 1) := by decide +kernel
theorem dX6_canPut_12 : decode cX6_canPut 12 = .ok (.invokevirtual 119, 3) := by decide +kernel
theorem dX6_canPut_15 : decode cX6_canPut 15 = .ok (.ifCond .ne 12, 3) := by decide +kernel
theorem dX6_canPut_18 : decode cX6_canPut 18 = .ok (.aload_n 0, 1) := by decide +kernel
theorem dX6_canPut_19 : decode cX6_canPut 19 = .ok (.iload_n 1, 1) := by decide +kernel
theorem dX6_canPut_20 : decode cX6_canPut 20 = .ok (.iload_n 2, 1) := by decide +kernel
theorem dX6_canPut_21 : decode cX6_canPut 21 = .ok (.invokevirtual 122, 3) := by decide +kernel
theorem dX6_canPut_24 : decode cX6_canPut 24 = .ok (.ifCond .eq 5, 3) := by decide +kernel
theorem dX6_canPut_27 : decode cX6_canPut 27 = .ok (.iconst 0, 1) := by decide +kernel
theorem dX6_canPut_28 : decode cX6_canPut 28 = .ok (.ireturn, 1) := by decide +kernel
theorem dX6_canPut_29 : decode cX6_canPut 29 = .ok (.aload_n 0, 1) := by decide +kernel
theorem dX6_canPut_30 : decode cX6_canPut 30 = .ok (.getfield 25, 3) := by decide +kernel
theorem dX6_canPut_33 : decode cX6_canPut 33 = .ok (.iload_n 2, 1) := by decide +kernel
theorem dX6_canPut_34 : decode cX6_canPut 34 = .ok (.iload_n 1, 1) := by decide +kernel
theorem dX6_canPut_35 : decode cX6_canPut 35 = .ok (.iastore, 1) := by decide +kernel
theorem dX6_canPut_36 : decode cX6_canPut 36 = .ok (.aload_n 0, 1) := by decide +kernel
theorem dX6_canPut_37 : decode cX6_canPut 37 = .ok (.iload_n 1, 1) := by decide +kernel
theorem dX6_canPut_38 : decode cX6_canPut 38 = .ok (.invokevirtual 71, 3) := by decide +kernel
theorem dX6_canPut_41 : decode cX6_canPut 41 = .ok (.istore_n 3, 1) := by decide +kernel
theorem dX6_canPut_42 : decode cX6_canPut 42 = .ok (.aload_n 0, 1) := by decide +kernel
theorem dX6_canPut_43 : decode cX6_canPut 43 = .ok (.getfield 25, 3) := by decide +kernel
theorem dX6_canPut_46 : decode cX6_canPut 46 = .ok (.iload_n 2, 1) := by decide +kernel
theorem dX6_canPut_47 : decode cX6_canPut 47 = .ok (.iconst (-1), 1) := by decide +kernel
theorem dX6_canPut_48 : decode cX6_canPut 48 = .ok (.iastore, 1) := by decide +kernel
theorem dX6_canPut_49 : decode cX6_canPut 49 = .ok (.iload_n 3, 1) := by decide +kernel
theorem dX6_canPut_50 : decode cX6_canPut 50 = .ok (.ireturn, 1) := by decide +kernel
theorem dX6_put_0 : decode cX6_put 0 = .ok (.aload_n 0, 1) := by decide +kernel
theorem dX6_put_1 : decode cX6_put 1 = .ok (.iconst 0, 1) := by decide +kernel
theorem dX6_put_2 : decode cX6_put 2 = .ok (.putfield 47, 3) := by decide +kernel
theorem dX6_put_5 : decode cX6_put 5 = .ok (.aload_n 0, 1) := by decide +kernel
theorem dX6_put_6 : decode cX6_put 6 = .ok (.iload_n 1, 1) := by decide +kernel
theorem dX6_put_7 : decode cX6_put 7 = .ok (.invokevirtual 126, 3) := by decide +kernel
theorem dX6_put_10 : decode cX6_put 10 = .ok (.ifCond .eq 11, 3) := by decide +kernel
theorem dX6_put_13 : decode cX6_put 13 = .ok (.aload_n 0, 1) := by decide +kernel
theorem dX6_put_14 : decode cX6_put 14 = .ok (.iload_n 2, 1) := by decide +kernel
theorem dX6_put_15 : decode cX6_put 15 = .ok (.invokevirtual 68, 3) := by decide +kernel
theorem dX6_put_18 : decode cX6_put 18 = .ok (.ifCond .ne 9, 3) := by decide +kernel
theorem dX6_put_21 : decode cX6_put 21 = .ok (.aload_n 0, 1) := by decide +kernel
theorem dX6_put_22 : decode cX6_put 22 = .ok (.iconst 1, 1) := by decide +kernel
theorem dX6_put_23 : decode cX6_put 23 = .ok (.invokevirtual 64, 3) := by decide +kernel
theorem dX6_put_26 : decode cX6_put 26 = .ok (.ireturn, 1) := by decide +kernel
theorem dX6_put_27 : decode cX6_put 27 = .ok (.aload_n 0, 1) := by decide +kernel
theorem dX6_put_28 : decode cX6_put 28 = .ok (.iload_n 1, 1) := by decide +kernel
theorem dX6_put_29 : decode cX6_put 29 = .ok (.iload_n 2, 1) := by decide +kernel
theorem dX6_put_30 : decode cX6_put 30 = .ok (.invokevirtual 129, 3) := by decide +kernel
theorem dX6_put_33 : decode cX6_put 33 = .ok (.ifCond .ne 9, 3) := by decide +kernel
theorem dX6_put_36 : decode cX6_put 36 = .ok (.aload_n 0, 1) := by decide +kernel
theorem dX6_put_37 : decode cX6_put 37 = .ok (.iconst 2, 1) := by decide +kernel
theorem dX6_put_38 : decode cX6_put 38 = .ok (.invokevirtual 64, 3) := by decide +kernel
theorem dX6_put_41 : decode cX6_put 41 = .ok (.ireturn, 1) := by decide +kernel
theorem dX6_put_42 : decode cX6_put 42 = .ok (.aload_n 0, 1) := by decide +kernel
theorem dX6_put_43 : decode cX6_put 43 = .ok (.getfield 25, 3) := by decide +kernel
theorem dX6_put_46 : decode cX6_put 46 = .ok (.iload_n 2, 1) := by decide +kernel
theorem dX6_put_47 : decode cX6_put 47 = .ok (.iload_n 1, 1) := by decide +kernel
theorem dX6_put_48 : decode cX6_put 48 = .ok (.iastore, 1) := by decide +kernel
theorem dX6_put_49 : decode cX6_put 49 = .ok (.aload_n 0, 1) := by decide +kernel
theorem dX6_put_50 : decode cX6_put 50 = .ok (.iload_n 1, 1) := by decide +kernel
theorem dX6_put_51 : decode cX6_put 51 = .ok (.invokevirtual 84, 3) := by decide +kernel
theorem dX6_put_54 : decode cX6_put 54 = .ok (.iconst 0, 1) := by decide +kernel
theorem dX6_put_55 : decode cX6_put 55 = .ok (.istore_n 3, 1) := by decide +kernel
theorem dX6_put_56 : decode cX6_put 56 = .ok (.aload_n 0, 1) := by decide +kernel
theorem dX6_put_57 : decode cX6_put 57 = .ok (.getfield 44, 3) := by decide +kernel
theorem dX6_put_60 : decode cX6_put 60 = .ok (.iload_n 3, 1) := by decide +kernel
theorem dX6_put_61 : decode cX6_put 61 = .ok (.iaload, 1) := by decide +kernel
theorem dX6_put_62 : decode cX6_put 62 = .ok (.iload_n 2, 1) := by decide +kernel
theorem dX6_put_63 : decode cX6_put 63 = .ok (.if_icmp .eq 9, 3) := by decide +kernel
theorem dX6_put_66 : decode cX6_put 66 = .ok (.iinc 3 1, 3) := by decide +kernel
theorem dX6_put_69 : decode cX6_put 69 = .ok (.goto (-13), 3) := by decide +kernel
theorem dX6_put_72 : decode cX6_put 72 = .ok (.iload_n 3, 1) := by decide +kernel
theorem dX6_put_73 : decode cX6_put 73 = .ok (.ireturn, 1) := by decide +kernel
theorem dX6_takeOut_0 : decode cX6_takeOut 0 = .ok (.aload_n 0, 1) := by decide +kernel
theorem dX6_takeOut_1 : decode cX6_takeOut 1 = .ok (.iconst 0, 1) := by decide +kernel
theorem dX6_takeOut_2 : decode cX6_takeOut 2 = .ok (.putfield 47, 3) := by decide +kernel
theorem dX6_takeOut_5 : decode cX6_takeOut 5 = .ok (.aload_n 0, 1) := by decide +kernel
theorem dX6_takeOut_6 : decode cX6_takeOut 6 = .ok (.iload_n 1, 1) := by decide +kernel
theorem dX6_takeOut_7 : decode cX6_takeOut 7 = .ok (.invokevirtual 68, 3) := by decide +kernel
theorem dX6_takeOut_10 : decode cX6_takeOut 10 = .ok (.ifCond .ne 9, 3) := by decide +kernel
theorem dX6_takeOut_13 : decode cX6_takeOut 13 = .ok (.aload_n 0, 1) := by decide +kernel
theorem dX6_takeOut_14 : decode cX6_takeOut 14 = .ok (.iconst 1, 1) := by decide +kernel
theorem dX6_takeOut_15 : decode cX6_takeOut 15 = .ok (.invokevirtual 64, 3) := by decide +kernel
theorem dX6_takeOut_18 : decode cX6_takeOut 18 = .ok (.ireturn, 1) := by decide +kernel
theorem dX6_takeOut_19 : decode cX6_takeOut 19 = .ok (.aload_n 0, 1) := by decide +kernel
theorem dX6_takeOut_20 : decode cX6_takeOut 20 = .ok (.getfield 25, 3) := by decide +kernel
theorem dX6_takeOut_23 : decode cX6_takeOut 23 = .ok (.iload_n 1, 1) := by decide +kernel
theorem dX6_takeOut_24 : decode cX6_takeOut 24 = .ok (.iaload, 1) := by decide +kernel
theorem dX6_takeOut_25 : decode cX6_takeOut 25 = .ok (.istore_n 2, 1) := by decide +kernel
theorem dX6_takeOut_26 : decode cX6_takeOut 26 = .ok (.iload_n 2, 1) := by decide +kernel
theorem dX6_takeOut_27 : decode cX6_takeOut 27 = .ok (.iconst (-1), 1) := by decide +kernel
theorem dX6_takeOut_28 : decode cX6_takeOut 28 = .ok (.if_icmp .eq 11, 3) := by decide +kernel
theorem dX6_takeOut_31 : decode cX6_takeOut 31 = .ok (.aload_n 0, 1) := by decide +kernel
theorem dX6_takeOut_32 : decode cX6_takeOut 32 = .ok (.iload_n 2, 1) := by decide +kernel
theorem dX6_takeOut_33 : decode cX6_takeOut 33 = .ok (.invokevirtual 119, 3) := by decide +kernel
theorem dX6_takeOut_36 : decode cX6_takeOut 36 = .ok (.ifCond .eq 9, 3) := by decide +kernel
theorem dX6_takeOut_39 : decode cX6_takeOut 39 = .ok (.aload_n 0, 1) := by decide +kernel
theorem dX6_takeOut_40 : decode cX6_takeOut 40 = .ok (.iconst 2, 1) := by decide +kernel
theorem dX6_takeOut_41 : decode cX6_takeOut 41 = .ok (.invokevirtual 64, 3) := by decide +kernel
theorem dX6_takeOut_44 : decode cX6_takeOut 44 = .ok (.ireturn, 1) := by decide +kernel
theorem dX6_takeOut_45 : decode cX6_takeOut 45 = .ok (.aload_n 0, 1) := by decide +kernel
theorem dX6_takeOut_46 : decode cX6_takeOut 46 = .ok (.getfield 25, 3) := by decide +kernel
theorem dX6_takeOut_49 : decode cX6_takeOut 49 = .ok (.iload_n 1, 1) := by decide +kernel
theorem dX6_takeOut_50 : decode cX6_takeOut 50 = .ok (.iconst (-1), 1) := by decide +kernel
theorem dX6_takeOut_51 : decode cX6_takeOut 51 = .ok (.iastore, 1) := by decide +kernel
theorem dX6_takeOut_52 : decode cX6_takeOut 52 = .ok (.aload_n 0, 1) := by decide +kernel
theorem dX6_takeOut_53 : decode cX6_takeOut 53 = .ok (.iload_n 2, 1) := by decide +kernel
theorem dX6_takeOut_54 : decode cX6_takeOut 54 = .ok (.invokevirtual 71, 3) := by decide +kernel
theorem dX6_takeOut_57 : decode cX6_takeOut 57 = .ok (.ifCond .eq 5, 3) := by decide +kernel
theorem dX6_takeOut_60 : decode cX6_takeOut 60 = .ok (.iload_n 2, 1) := by decide +kernel
theorem dX6_takeOut_61 : decode cX6_takeOut 61 = .ok (.ireturn, 1) := by decide +kernel
theorem dX6_takeOut_62 : decode cX6_takeOut 62 = .ok (.aload_n 0, 1) := by decide +kernel
theorem dX6_takeOut_63 : decode cX6_takeOut 63 = .ok (.getfield 25, 3) := by decide +kernel
theorem dX6_takeOut_66 : decode cX6_takeOut 66 = .ok (.iload_n 1, 1) := by decide +kernel
theorem dX6_takeOut_67 : decode cX6_takeOut 67 = .ok (.iload_n 2, 1) := by decide +kernel
theorem dX6_takeOut_68 : decode cX6_takeOut 68 = .ok (.iastore, 1) := by decide +kernel
theorem dX6_takeOut_69 : decode cX6_takeOut 69 = .ok (.aload_n 0, 1) := by decide +kernel
theorem dX6_takeOut_70 : decode cX6_takeOut 70 = .ok (.iconst 2, 1) := by decide +kernel
theorem dX6_takeOut_71 : decode cX6_takeOut 71 = .ok (.invokevirtual 64, 3) := by decide +kernel
theorem dX6_takeOut_74 : decode cX6_takeOut 74 = .ok (.ireturn, 1) := by decide +kernel
theorem dX6_told_0 : decode cX6_told 0 = .ok (.aload_n 0, 1) := by decide +kernel
theorem dX6_told_1 : decode cX6_told 1 = .ok (.iload_n 1, 1) := by decide +kernel
theorem dX6_told_2 : decode cX6_told 2 = .ok (.invokevirtual 71, 3) := by decide +kernel
theorem dX6_told_5 : decode cX6_told 5 = .ok (.pop, 1) := by decide +kernel
theorem dX6_told_6 : decode cX6_told 6 = .ok (.bipush 9, 2) := by decide +kernel
theorem dX6_told_8 : decode cX6_told 8 = .ok (.newarray .int, 2) := by decide +kernel
theorem dX6_told_10 : decode cX6_told 10 = .ok (.dup, 1) := by decide +kernel
theorem dX6_told_11 : decode cX6_told 11 = .ok (.iconst 0, 1) := by decide +kernel
theorem dX6_told_12 : decode cX6_told 12 = .ok (.aload_n 0, 1) := by decide +kernel
theorem dX6_told_13 : decode cX6_told 13 = .ok (.getfield 81, 3) := by decide +kernel
theorem dX6_told_16 : decode cX6_told 16 = .ok (.iastore, 1) := by decide +kernel
theorem dX6_told_17 : decode cX6_told 17 = .ok (.dup, 1) := by decide +kernel
theorem dX6_told_18 : decode cX6_told 18 = .ok (.iconst 1, 1) := by decide +kernel
theorem dX6_told_19 : decode cX6_told 19 = .ok (.aload_n 0, 1) := by decide +kernel
theorem dX6_told_20 : decode cX6_told 20 = .ok (.getfield 88, 3) := by decide +kernel
theorem dX6_told_23 : decode cX6_told 23 = .ok (.iastore, 1) := by decide +kernel
theorem dX6_told_24 : decode cX6_told 24 = .ok (.dup, 1) := by decide +kernel
theorem dX6_told_25 : decode cX6_told 25 = .ok (.iconst 2, 1) := by decide +kernel
theorem dX6_told_26 : decode cX6_told 26 = .ok (.aload_n 0, 1) := by decide +kernel
theorem dX6_told_27 : decode cX6_told 27 = .ok (.getfield 91, 3) := by decide +kernel
theorem dX6_told_30 : decode cX6_told 30 = .ok (.iastore, 1) := by decide +kernel
theorem dX6_told_31 : decode cX6_told 31 = .ok (.dup, 1) := by decide +kernel
theorem dX6_told_32 : decode cX6_told 32 = .ok (.iconst 3, 1) := by decide +kernel
theorem dX6_told_33 : decode cX6_told 33 = .ok (.aload_n 0, 1) := by decide +kernel
theorem dX6_told_34 : decode cX6_told 34 = .ok (.getfield 94, 3) := by decide +kernel
theorem dX6_told_37 : decode cX6_told 37 = .ok (.iastore, 1) := by decide +kernel
theorem dX6_told_38 : decode cX6_told 38 = .ok (.dup, 1) := by decide +kernel
theorem dX6_told_39 : decode cX6_told 39 = .ok (.iconst 4, 1) := by decide +kernel
theorem dX6_told_40 : decode cX6_told 40 = .ok (.aload_n 0, 1) := by decide +kernel
theorem dX6_told_41 : decode cX6_told 41 = .ok (.getfield 97, 3) := by decide +kernel
theorem dX6_told_44 : decode cX6_told 44 = .ok (.iastore, 1) := by decide +kernel
theorem dX6_told_45 : decode cX6_told 45 = .ok (.dup, 1) := by decide +kernel
theorem dX6_told_46 : decode cX6_told 46 = .ok (.iconst 5, 1) := by decide +kernel
theorem dX6_told_47 : decode cX6_told 47 = .ok (.aload_n 0, 1) := by decide +kernel
theorem dX6_told_48 : decode cX6_told 48 = .ok (.getfield 100, 3) := by decide +kernel
theorem dX6_told_51 : decode cX6_told 51 = .ok (.iastore, 1) := by decide +kernel
theorem dX6_told_52 : decode cX6_told 52 = .ok (.dup, 1) := by decide +kernel
theorem dX6_told_53 : decode cX6_told 53 = .ok (.bipush 6, 2) := by decide +kernel
theorem dX6_told_55 : decode cX6_told 55 = .ok (.aload_n 0, 1) := by decide +kernel
theorem dX6_told_56 : decode cX6_told 56 = .ok (.getfield 103, 3) := by decide +kernel
theorem dX6_told_59 : decode cX6_told 59 = .ok (.iastore, 1) := by decide +kernel
theorem dX6_told_60 : decode cX6_told 60 = .ok (.dup, 1) := by decide +kernel
theorem dX6_told_61 : decode cX6_told 61 = .ok (.bipush 7, 2) := by decide +kernel
theorem dX6_told_63 : decode cX6_told 63 = .ok (.aload_n 0, 1) := by decide +kernel
theorem dX6_told_64 : decode cX6_told 64 = .ok (.getfield 106, 3) := by decide +kernel
theorem dX6_told_67 : decode cX6_told 67 = .ok (.ifCond .eq 7, 3) := by decide +kernel
theorem dX6_told_70 : decode cX6_told 70 = .ok (.iconst 1, 1) := by decide +kernel
theorem dX6_told_71 : decode cX6_told 71 = .ok (.goto 4, 3) := by decide +kernel
theorem dX6_told_74 : decode cX6_told 74 = .ok (.iconst 0, 1) := by decide +kernel
theorem dX6_told_75 : decode cX6_told 75 = .ok (.iastore, 1) := by decide +kernel
theorem dX6_told_76 : decode cX6_told 76 = .ok (.dup, 1) := by decide +kernel
theorem dX6_told_77 : decode cX6_told 77 = .ok (.bipush 8, 2) := by decide +kernel
theorem dX6_told_79 : decode cX6_told 79 = .ok (.aload_n 0, 1) := by decide +kernel
theorem dX6_told_80 : decode cX6_told 80 = .ok (.iload_n 1, 1) := by decide +kernel
theorem dX6_told_81 : decode cX6_told 81 = .ok (.invokevirtual 119, 3) := by decide +kernel
theorem dX6_told_84 : decode cX6_told 84 = .ok (.ifCond .eq 7, 3) := by decide +kernel
theorem dX6_told_87 : decode cX6_told 87 = .ok (.iconst 1, 1) := by decide +kernel
theorem dX6_told_88 : decode cX6_told 88 = .ok (.goto 4, 3) := by decide +kernel
theorem dX6_told_91 : decode cX6_told 91 = .ok (.iconst 0, 1) := by decide +kernel
theorem dX6_told_92 : decode cX6_told 92 = .ok (.iastore, 1) := by decide +kernel
theorem dX6_told_93 : decode cX6_told 93 = .ok (.astore_n 3, 1) := by decide +kernel
theorem dX6_told_94 : decode cX6_told 94 = .ok (.aload_n 3, 1) := by decide +kernel
theorem dX6_told_95 : decode cX6_told 95 = .ok (.iload_n 2, 1) := by decide +kernel
theorem dX6_told_96 : decode cX6_told 96 = .ok (.iaload, 1) := by decide +kernel
theorem dX6_told_97 : decode cX6_told 97 = .ok (.ireturn, 1) := by decide +kernel
theorem dX6_duty_0 : decode cX6_duty 0 = .ok (.aload_n 0, 1) := by decide +kernel
theorem dX6_duty_1 : decode cX6_duty 1 = .ok (.iconst 0, 1) := by decide +kernel
theorem dX6_duty_2 : decode cX6_duty 2 = .ok (.putfield 47, 3) := by decide +kernel
theorem dX6_duty_5 : decode cX6_duty 5 = .ok (.aload_n 0, 1) := by decide +kernel
theorem dX6_duty_6 : decode cX6_duty 6 = .ok (.iload_n 1, 1) := by decide +kernel
theorem dX6_duty_7 : decode cX6_duty 7 = .ok (.invokevirtual 126, 3) := by decide +kernel
theorem dX6_duty_10 : decode cX6_duty 10 = .ok (.ifCond .eq 22, 3) := by decide +kernel
theorem dX6_duty_13 : decode cX6_duty 13 = .ok (.iload_n 2, 1) := by decide +kernel
theorem dX6_duty_14 : decode cX6_duty 14 = .ok (.iconst 0, 1) := by decide +kernel
theorem dX6_duty_15 : decode cX6_duty 15 = .ok (.bipush 8, 2) := by decide +kernel
theorem dX6_duty_17 : decode cX6_duty 17 = .ok (.invokestatic 53, 3) := by decide +kernel
theorem dX6_duty_20 : decode cX6_duty 20 = .ok (.ifCond .eq 12, 3) := by decide +kernel
theorem dX6_duty_23 : decode cX6_duty 23 = .ok (.aload_n 0, 1) := by decide +kernel
theorem dX6_duty_24 : decode cX6_duty 24 = .ok (.iload_n 1, 1) := by decide +kernel
theorem dX6_duty_25 : decode cX6_duty 25 = .ok (.iload_n 2, 1) := by decide +kernel
theorem dX6_duty_26 : decode cX6_duty 26 = .ok (.invokevirtual 132, 3) := by decide +kernel
theorem dX6_duty_29 : decode cX6_duty 29 = .ok (.goto 8, 3) := by decide +kernel
theorem dX6_duty_32 : decode cX6_duty 32 = .ok (.aload_n 0, 1) := by decide +kernel
theorem dX6_duty_33 : decode cX6_duty 33 = .ok (.iconst 1, 1) := by decide +kernel
theorem dX6_duty_34 : decode cX6_duty 34 = .ok (.invokevirtual 64, 3) := by decide +kernel
theorem dX6_duty_37 : decode cX6_duty 37 = .ok (.ireturn, 1) := by decide +kernel
theorem dX6_tripAt_0 : decode cX6_tripAt 0 = .ok (.aload_n 0, 1) := by decide +kernel
theorem dX6_tripAt_1 : decode cX6_tripAt 1 = .ok (.iconst 0, 1) := by decide +kernel
theorem dX6_tripAt_2 : decode cX6_tripAt 2 = .ok (.putfield 47, 3) := by decide +kernel
theorem dX6_tripAt_5 : decode cX6_tripAt 5 = .ok (.aload_n 0, 1) := by decide +kernel
theorem dX6_tripAt_6 : decode cX6_tripAt 6 = .ok (.iload_n 1, 1) := by decide +kernel
theorem dX6_tripAt_7 : decode cX6_tripAt 7 = .ok (.invokevirtual 126, 3) := by decide +kernel
theorem dX6_tripAt_10 : decode cX6_tripAt 10 = .ok (.ifCond .ne 9, 3) := by decide +kernel
theorem dX6_tripAt_13 : decode cX6_tripAt 13 = .ok (.aload_n 0, 1) := by decide +kernel
theorem dX6_tripAt_14 : decode cX6_tripAt 14 = .ok (.iconst 1, 1) := by decide +kernel
theorem dX6_tripAt_15 : decode cX6_tripAt 15 = .ok (.invokevirtual 64, 3) := by decide +kernel
theorem dX6_tripAt_18 : decode cX6_tripAt 18 = .ok (.ireturn, 1) := by decide +kernel
theorem dX6_tripAt_19 : decode cX6_tripAt 19 = .ok (.aload_n 0, 1) := by decide +kernel
theorem dX6_tripAt_20 : decode cX6_tripAt 20 = .ok (.iload_n 1, 1) := by decide +kernel
theorem dX6_tripAt_21 : decode cX6_tripAt 21 = .ok (.invokevirtual 84, 3) := by decide +kernel
theorem dX6_tripAt_24 : decode cX6_tripAt 24 = .ok (.iload_n 2, 1) := by decide +kernel
theorem dX6_tripAt_25 : decode cX6_tripAt 25 = .ok (.iconst 0, 1) := by decide +kernel
theorem dX6_tripAt_26 : decode cX6_tripAt 26 = .ok (.aload_n 0, 1) := by decide +kernel
theorem dX6_tripAt_27 : decode cX6_tripAt 27 = .ok (.getfield 81, 3) := by decide +kernel
theorem dX6_tripAt_30 : decode cX6_tripAt 30 = .ok (.iconst 1, 1) := by decide +kernel
theorem dX6_tripAt_31 : decode cX6_tripAt 31 = .ok (.isub, 1) := by decide +kernel
theorem dX6_tripAt_32 : decode cX6_tripAt 32 = .ok (.invokestatic 53, 3) := by decide +kernel
theorem dX6_tripAt_35 : decode cX6_tripAt 35 = .ok (.ifCond .eq 12, 3) := by decide +kernel
theorem dX6_tripAt_38 : decode cX6_tripAt 38 = .ok (.aload_n 0, 1) := by decide +kernel
theorem dX6_tripAt_39 : decode cX6_tripAt 39 = .ok (.getfield 44, 3) := by decide +kernel
theorem dX6_tripAt_42 : decode cX6_tripAt 42 = .ok (.iload_n 2, 1) := by decide +kernel
theorem dX6_tripAt_43 : decode cX6_tripAt 43 = .ok (.iaload, 1) := by decide +kernel
theorem dX6_tripAt_44 : decode cX6_tripAt 44 = .ok (.goto 8, 3) := by decide +kernel
theorem dX6_tripAt_47 : decode cX6_tripAt 47 = .ok (.aload_n 0, 1) := by decide +kernel
theorem dX6_tripAt_48 : decode cX6_tripAt 48 = .ok (.iconst 1, 1) := by decide +kernel
theorem dX6_tripAt_49 : decode cX6_tripAt 49 = .ok (.invokevirtual 64, 3) := by decide +kernel
theorem dX6_tripAt_52 : decode cX6_tripAt 52 = .ok (.ireturn, 1) := by decide +kernel
theorem dX6_best_0 : decode cX6_best 0 = .ok (.iconst (-1), 1) := by decide +kernel
theorem dX6_best_1 : decode cX6_best 1 = .ok (.istore_n 2, 1) := by decide +kernel
theorem dX6_best_2 : decode cX6_best 2 = .ok (.iconst 0, 1) := by decide +kernel
theorem dX6_best_3 : decode cX6_best 3 = .ok (.istore_n 3, 1) := by decide +kernel
theorem dX6_best_4 : decode cX6_best 4 = .ok (.iconst 0, 1) := by decide +kernel
theorem dX6_best_5 : decode cX6_best 5 = .ok (.istore 4, 2) := by decide +kernel
theorem dX6_best_7 : decode cX6_best 7 = .ok (.iload 4, 2) := by decide +kernel
theorem dX6_best_9 : decode cX6_best 9 = .ok (.aload_n 0, 1) := by decide +kernel
theorem dX6_best_10 : decode cX6_best 10 = .ok (.getfield 57, 3) := by decide +kernel
theorem dX6_best_13 : decode cX6_best 13 = .ok (.if_icmp .ge 60, 3) := by decide +kernel
theorem dX6_best_16 : decode cX6_best 16 = .ok (.aload_n 0, 1) := by decide +kernel
theorem dX6_best_17 : decode cX6_best 17 = .ok (.iload 4, 2) := by decide +kernel
theorem dX6_best_19 : decode cX6_best 19 = .ok (.invokevirtual 135, 3) := by decide +kernel
theorem dX6_best_22 : decode cX6_best 22 = .ok (.istore 5, 2) := by decide +kernel
theorem dX6_best_24 : decode cX6_best 24 = .ok (.aload_n 0, 1) := by decide +kernel
theorem dX6_best_25 : decode cX6_best 25 = .ok (.iload 4, 2) := by decide +kernel
theorem dX6_best_27 : decode cX6_best 27 = .ok (.iload_n 1, 1) := by decide +kernel
theorem dX6_best_28 : decode cX6_best 28 = .ok (.invokevirtual 129, 3) := by decide +kernel
theorem dX6_best_31 : decode cX6_best 31 = .ok (.ifCond .ne 6, 3) := by decide +kernel
theorem dX6_best_34 : decode cX6_best 34 = .ok (.goto 33, 3) := by decide +kernel
theorem dX6_best_37 : decode cX6_best 37 = .ok (.iload_n 2, 1) := by decide +kernel
theorem dX6_best_38 : decode cX6_best 38 = .ok (.iconst (-1), 1) := by decide +kernel
theorem dX6_best_39 : decode cX6_best 39 = .ok (.if_icmp .eq 17, 3) := by decide +kernel
theorem dX6_best_42 : decode cX6_best 42 = .ok (.aload_n 0, 1) := by decide +kernel
theorem dX6_best_43 : decode cX6_best 43 = .ok (.getfield 97, 3) := by decide +kernel
theorem dX6_best_46 : decode cX6_best 46 = .ok (.iload 5, 2) := by decide +kernel
theorem dX6_best_48 : decode cX6_best 48 = .ok (.isub, 1) := by decide +kernel
theorem dX6_best_49 : decode cX6_best 49 = .ok (.iload_n 3, 1) := by decide +kernel
theorem dX6_best_50 : decode cX6_best 50 = .ok (.if_icmp .lt 6, 3) := by decide +kernel
theorem dX6_best_53 : decode cX6_best 53 = .ok (.goto 14, 3) := by decide +kernel
theorem dX6_best_56 : decode cX6_best 56 = .ok (.iload 4, 2) := by decide +kernel
theorem dX6_best_58 : decode cX6_best 58 = .ok (.istore_n 2, 1) := by decide +kernel
theorem dX6_best_59 : decode cX6_best 59 = .ok (.aload_n 0, 1) := by decide +kernel
theorem dX6_best_60 : decode cX6_best 60 = .ok (.getfield 97, 3) := by decide +kernel
theorem dX6_best_63 : decode cX6_best 63 = .ok (.iload 5, 2) := by decide +kernel
theorem dX6_best_65 : decode cX6_best 65 = .ok (.isub, 1) := by decide +kernel
theorem dX6_best_66 : decode cX6_best 66 = .ok (.istore_n 3, 1) := by decide +kernel
theorem dX6_best_67 : decode cX6_best 67 = .ok (.iinc 4 1, 3) := by decide +kernel
theorem dX6_best_70 : decode cX6_best 70 = .ok (.goto (-63), 3) := by decide +kernel
theorem dX6_best_73 : decode cX6_best 73 = .ok (.iload_n 2, 1) := by decide +kernel
theorem dX6_best_74 : decode cX6_best 74 = .ok (.ireturn, 1) := by decide +kernel
theorem dX6_bestFor_0 : decode cX6_bestFor 0 = .ok (.aload_n 0, 1) := by decide +kernel
theorem dX6_bestFor_1 : decode cX6_bestFor 1 = .ok (.iconst 0, 1) := by decide +kernel
theorem dX6_bestFor_2 : decode cX6_bestFor 2 = .ok (.putfield 47, 3) := by decide +kernel
theorem dX6_bestFor_5 : decode cX6_bestFor 5 = .ok (.aload_n 0, 1) := by decide +kernel
theorem dX6_bestFor_6 : decode cX6_bestFor 6 = .ok (.iload_n 1, 1) := by decide +kernel
theorem dX6_bestFor_7 : decode cX6_bestFor 7 = .ok (.invokevirtual 68, 3) := by decide +kernel
theorem dX6_bestFor_10 : decode cX6_bestFor 10 = .ok (.ifCond .eq 11, 3) := by decide +kernel
theorem dX6_bestFor_13 : decode cX6_bestFor 13 = .ok (.aload_n 0, 1) := by decide +kernel
theorem dX6_bestFor_14 : decode cX6_bestFor 14 = .ok (.iload_n 1, 1) := by decide +kernel
theorem dX6_bestFor_15 : decode cX6_bestFor 15 = .ok (.invokevirtual 138, 3) := by decide +kernel
theorem dX6_bestFor_18 : decode cX6_bestFor 18 = .ok (.goto 8, 3) := by decide +kernel
theorem dX6_bestFor_21 : decode cX6_bestFor 21 = .ok (.aload_n 0, 1) := by decide +kernel
theorem dX6_bestFor_22 : decode cX6_bestFor 22 = .ok (.iconst 1, 1) := by decide +kernel
theorem dX6_bestFor_23 : decode cX6_bestFor 23 = .ok (.invokevirtual 64, 3) := by decide +kernel
theorem dX6_bestFor_26 : decode cX6_bestFor 26 = .ok (.ireturn, 1) := by decide +kernel
theorem dX6_place_0 : decode cX6_place 0 = .ok (.aload_n 0, 1) := by decide +kernel
theorem dX6_place_1 : decode cX6_place 1 = .ok (.iload_n 1, 1) := by decide +kernel
theorem dX6_place_2 : decode cX6_place 2 = .ok (.invokevirtual 138, 3) := by decide +kernel
theorem dX6_place_5 : decode cX6_place 5 = .ok (.istore_n 2, 1) := by decide +kernel
theorem dX6_place_6 : decode cX6_place 6 = .ok (.iload_n 2, 1) := by decide +kernel
theorem dX6_place_7 : decode cX6_place 7 = .ok (.iconst (-1), 1) := by decide +kernel
theorem dX6_place_8 : decode cX6_place 8 = .ok (.if_icmp .ne 56, 3) := by decide +kernel
theorem dX6_place_11 : decode cX6_place 11 = .ok (.aload_n 0, 1) := by decide +kernel
theorem dX6_place_12 : decode cX6_place 12 = .ok (.getfield 57, 3) := by decide +kernel
theorem dX6_place_15 : decode cX6_place 15 = .ok (.bipush 12, 2) := by decide +kernel
theorem dX6_place_17 : decode cX6_place 17 = .ok (.if_icmp .ge 47, 3) := by decide +kernel
theorem dX6_place_20 : decode cX6_place 20 = .ok (.aload_n 0, 1) := by decide +kernel
theorem dX6_place_21 : decode cX6_place 21 = .ok (.dup, 1) := by decide +kernel
theorem dX6_place_22 : decode cX6_place 22 = .ok (.getfield 57, 3) := by decide +kernel
theorem dX6_place_25 : decode cX6_place 25 = .ok (.iconst 1, 1) := by decide +kernel
theorem dX6_place_26 : decode cX6_place 26 = .ok (.iadd, 1) := by decide +kernel
theorem dX6_place_27 : decode cX6_place 27 = .ok (.putfield 57, 3) := by decide +kernel
theorem dX6_place_30 : decode cX6_place 30 = .ok (.aload_n 0, 1) := by decide +kernel
theorem dX6_place_31 : decode cX6_place 31 = .ok (.aload_n 0, 1) := by decide +kernel
theorem dX6_place_32 : decode cX6_place 32 = .ok (.getfield 57, 3) := by decide +kernel
theorem dX6_place_35 : decode cX6_place 35 = .ok (.iconst 1, 1) := by decide +kernel
theorem dX6_place_36 : decode cX6_place 36 = .ok (.isub, 1) := by decide +kernel
theorem dX6_place_37 : decode cX6_place 37 = .ok (.iload_n 1, 1) := by decide +kernel
theorem dX6_place_38 : decode cX6_place 38 = .ok (.invokevirtual 129, 3) := by decide +kernel
theorem dX6_place_41 : decode cX6_place 41 = .ok (.ifCond .eq 13, 3) := by decide +kernel
theorem dX6_place_44 : decode cX6_place 44 = .ok (.aload_n 0, 1) := by decide +kernel
theorem dX6_place_45 : decode cX6_place 45 = .ok (.getfield 57, 3) := by decide +kernel
theorem dX6_place_48 : decode cX6_place 48 = .ok (.iconst 1, 1) := by decide +kernel
theorem dX6_place_49 : decode cX6_place 49 = .ok (.isub, 1) := by decide +kernel
theorem dX6_place_50 : decode cX6_place 50 = .ok (.istore_n 2, 1) := by decide +kernel
theorem dX6_place_51 : decode cX6_place 51 = .ok (.goto 13, 3) := by decide +kernel
theorem dX6_place_54 : decode cX6_place 54 = .ok (.aload_n 0, 1) := by decide +kernel
theorem dX6_place_55 : decode cX6_place 55 = .ok (.dup, 1) := by decide +kernel
theorem dX6_place_56 : decode cX6_place 56 = .ok (.getfield 57, 3) := by decide +kernel
theorem dX6_place_59 : decode cX6_place 59 = .ok (.iconst 1, 1) := by decide +kernel
theorem dX6_place_60 : decode cX6_place 60 = .ok (.isub, 1) := by decide +kernel
theorem dX6_place_61 : decode cX6_place 61 = .ok (.putfield 57, 3) := by decide +kernel
theorem dX6_place_64 : decode cX6_place 64 = .ok (.aload_n 0, 1) := by decide +kernel
theorem dX6_place_65 : decode cX6_place 65 = .ok (.getfield 25, 3) := by decide +kernel
theorem dX6_place_68 : decode cX6_place 68 = .ok (.iload_n 1, 1) := by decide +kernel
theorem dX6_place_69 : decode cX6_place 69 = .ok (.iload_n 2, 1) := by decide +kernel
theorem dX6_place_70 : decode cX6_place 70 = .ok (.iastore, 1) := by decide +kernel
theorem dX6_place_71 : decode cX6_place 71 = .ok (.return_, 1) := by decide +kernel
theorem dX6_plan_0 : decode cX6_plan 0 = .ok (.aload_n 0, 1) := by decide +kernel
theorem dX6_plan_1 : decode cX6_plan 1 = .ok (.iconst 0, 1) := by decide +kernel
theorem dX6_plan_2 : decode cX6_plan 2 = .ok (.putfield 47, 3) := by decide +kernel
theorem dX6_plan_5 : decode cX6_plan 5 = .ok (.bipush 40, 2) := by decide +kernel
theorem dX6_plan_7 : decode cX6_plan 7 = .ok (.newarray .boolean, 2) := by decide +kernel
theorem dX6_plan_9 : decode cX6_plan 9 = .ok (.astore_n 1, 1) := by decide +kernel
theorem dX6_plan_10 : decode cX6_plan 10 = .ok (.iconst 0, 1) := by decide +kernel
theorem dX6_plan_11 : decode cX6_plan 11 = .ok (.istore_n 2, 1) := by decide +kernel
theorem dX6_plan_12 : decode cX6_plan 12 = .ok (.iload_n 2, 1) := by decide +kernel
theorem dX6_plan_13 : decode cX6_plan 13 = .ok (.aload_n 0, 1) := by decide +kernel
theorem dX6_plan_14 : decode cX6_plan 14 = .ok (.getfield 50, 3) := by decide +kernel
theorem dX6_plan_17 : decode cX6_plan 17 = .ok (.if_icmp .ge 88, 3) := by decide +kernel
theorem dX6_plan_20 : decode cX6_plan 20 = .ok (.iconst (-1), 1) := by decide +kernel
theorem dX6_plan_21 : decode cX6_plan 21 = .ok (.istore_n 3, 1) := by decide +kernel
theorem dX6_plan_22 : decode cX6_plan 22 = .ok (.iconst 0, 1) := by decide +kernel
theorem dX6_plan_23 : decode cX6_plan 23 = .ok (.istore 4, 2) := by decide +kernel
theorem dX6_plan_25 : decode cX6_plan 25 = .ok (.iload 4, 2) := by decide +kernel
theorem dX6_plan_27 : decode cX6_plan 27 = .ok (.aload_n 0, 1) := by decide +kernel
theorem dX6_plan_28 : decode cX6_plan 28 = .ok (.getfield 50, 3) := by decide +kernel
theorem dX6_plan_31 : decode cX6_plan 31 = .ok (.if_icmp .ge 51, 3) := by decide +kernel
theorem dX6_plan_34 : decode cX6_plan 34 = .ok (.aload_n 1, 1) := by decide +kernel
theorem dX6_plan_35 : decode cX6_plan 35 = .ok (.iload 4, 2) := by decide +kernel
theorem dX6_plan_37 : decode cX6_plan 37 = .ok (.baload, 1) := by decide +kernel
theorem dX6_plan_38 : decode cX6_plan 38 = .ok (.ifCond .ne 38, 3) := by decide +kernel
theorem dX6_plan_41 : decode cX6_plan 41 = .ok (.aload_n 0, 1) := by decide +kernel
theorem dX6_plan_42 : decode cX6_plan 42 = .ok (.getfield 25, 3) := by decide +kernel
theorem dX6_plan_45 : decode cX6_plan 45 = .ok (.iload 4, 2) := by decide +kernel
theorem dX6_plan_47 : decode cX6_plan 47 = .ok (.iaload, 1) := by decide +kernel
theorem dX6_plan_48 : decode cX6_plan 48 = .ok (.iconst (-1), 1) := by decide +kernel
theorem dX6_plan_49 : decode cX6_plan 49 = .ok (.if_icmp .ne 27, 3) := by decide +kernel
theorem dX6_plan_52 : decode cX6_plan 52 = .ok (.iload_n 3, 1) := by decide +kernel
theorem dX6_plan_53 : decode cX6_plan 53 = .ok (.iconst (-1), 1) := by decide +kernel
theorem dX6_plan_54 : decode cX6_plan 54 = .ok (.if_icmp .eq 19, 3) := by decide +kernel
theorem dX6_plan_57 : decode cX6_plan 57 = .ok (.aload_n 0, 1) := by decide +kernel
theorem dX6_plan_58 : decode cX6_plan 58 = .ok (.getfield 19, 3) := by decide +kernel
theorem dX6_plan_61 : decode cX6_plan 61 = .ok (.iload 4, 2) := by decide +kernel
theorem dX6_plan_63 : decode cX6_plan 63 = .ok (.iaload, 1) := by decide +kernel
theorem dX6_plan_64 : decode cX6_plan 64 = .ok (.aload_n 0, 1) := by decide +kernel
theorem dX6_plan_65 : decode cX6_plan 65 = .ok (.getfield 19, 3) := by decide +kernel
theorem dX6_plan_68 : decode cX6_plan 68 = .ok (.iload_n 3, 1) := by decide +kernel
theorem dX6_plan_69 : decode cX6_plan 69 = .ok (.iaload, 1) := by decide +kernel
theorem dX6_plan_70 : decode cX6_plan 70 = .ok (.if_icmp .ge 6, 3) := by decide +kernel
theorem dX6_plan_73 : decode cX6_plan 73 = .ok (.iload 4, 2) := by decide +kernel
theorem dX6_plan_75 : decode cX6_plan 75 = .ok (.istore_n 3, 1) := by decide +kernel
theorem dX6_plan_76 : decode cX6_plan 76 = .ok (.iinc 4 1, 3) := by decide +kernel
theorem dX6_plan_79 : decode cX6_plan 79 = .ok (.goto (-54), 3) := by decide +kernel
theorem dX6_plan_82 : decode cX6_plan 82 = .ok (.iload_n 3, 1) := by decide +kernel
theorem dX6_plan_83 : decode cX6_plan 83 = .ok (.iconst (-1), 1) := by decide +kernel
theorem dX6_plan_84 : decode cX6_plan 84 = .ok (.if_icmp .ne 6, 3) := by decide +kernel
theorem dX6_plan_87 : decode cX6_plan 87 = .ok (.goto 18, 3) := by decide +kernel
theorem dX6_plan_90 : decode cX6_plan 90 = .ok (.aload_n 1, 1) := by decide +kernel
theorem dX6_plan_91 : decode cX6_plan 91 = .ok (.iload_n 3, 1) := by decide +kernel
theorem dX6_plan_92 : decode cX6_plan 92 = .ok (.iconst 1, 1) := by decide +kernel
theorem dX6_plan_93 : decode cX6_plan 93 = .ok (.bastore, 1) := by decide +kernel
theorem dX6_plan_94 : decode cX6_plan 94 = .ok (.aload_n 0, 1) := by decide +kernel
theorem dX6_plan_95 : decode cX6_plan 95 = .ok (.iload_n 3, 1) := by decide +kernel
theorem dX6_plan_96 : decode cX6_plan 96 = .ok (.invokevirtual 141, 3) := by decide +kernel
theorem dX6_plan_99 : decode cX6_plan 99 = .ok (.iinc 2 1, 3) := by decide +kernel
theorem dX6_plan_102 : decode cX6_plan 102 = .ok (.goto (-90), 3) := by decide +kernel
theorem dX6_plan_105 : decode cX6_plan 105 = .ok (.aload_n 0, 1) := by decide +kernel
theorem dX6_plan_106 : decode cX6_plan 106 = .ok (.invokevirtual 77, 3) := by decide +kernel
theorem dX6_plan_109 : decode cX6_plan 109 = .ok (.ireturn, 1) := by decide +kernel
theorem dX6_exchange_0 : decode cX6_exchange 0 = .ok (.iconst 0, 1) := by decide +kernel
theorem dX6_exchange_1 : decode cX6_exchange 1 = .ok (.istore 4, 2) := by decide +kernel
theorem dX6_exchange_3 : decode cX6_exchange 3 = .ok (.iload 4, 2) := by decide +kernel
theorem dX6_exchange_5 : decode cX6_exchange 5 = .ok (.aload_n 0, 1) := by decide +kernel
theorem dX6_exchange_6 : decode cX6_exchange 6 = .ok (.getfield 50, 3) := by decide +kernel
theorem dX6_exchange_9 : decode cX6_exchange 9 = .ok (.if_icmp .ge 79, 3) := by decide +kernel
theorem dX6_exchange_12 : decode cX6_exchange 12 = .ok (.aload_n 0, 1) := by decide +kernel
theorem dX6_exchange_13 : decode cX6_exchange 13 = .ok (.getfield 19, 3) := by decide +kernel
theorem dX6_exchange_16 : decode cX6_exchange 16 = .ok (.iload 4, 2) := by decide +kernel
theorem dX6_exchange_18 : decode cX6_exchange 18 = .ok (.iaload, 1) := by decide +kernel
theorem dX6_exchange_19 : decode cX6_exchange 19 = .ok (.iload_n 3, 1) := by decide +kernel
theorem dX6_exchange_20 : decode cX6_exchange 20 = .ok (.if_icmp .lt 62, 3) := by decide +kernel
theorem dX6_exchange_23 : decode cX6_exchange 23 = .ok (.aload_n 0, 1) := by decide +kernel
theorem dX6_exchange_24 : decode cX6_exchange 24 = .ok (.getfield 25, 3) := by decide +kernel
theorem dX6_exchange_27 : decode cX6_exchange 27 = .ok (.iload 4, 2) := by decide +kernel
theorem dX6_exchange_29 : decode cX6_exchange 29 = .ok (.iaload, 1) := by decide +kernel
theorem dX6_exchange_30 : decode cX6_exchange 30 = .ok (.iconst (-1), 1) := by decide +kernel
theorem dX6_exchange_31 : decode cX6_exchange 31 = .ok (.if_icmp .eq 51, 3) := by decide +kernel
theorem dX6_exchange_34 : decode cX6_exchange 34 = .ok (.aload_n 0, 1) := by decide +kernel
theorem dX6_exchange_35 : decode cX6_exchange 35 = .ok (.getfield 25, 3) := by decide +kernel
theorem dX6_exchange_38 : decode cX6_exchange 38 = .ok (.iload 4, 2) := by decide +kernel
theorem dX6_exchange_40 : decode cX6_exchange 40 = .ok (.iaload, 1) := by decide +kernel
theorem dX6_exchange_41 : decode cX6_exchange 41 = .ok (.iload_n 1, 1) := by decide +kernel
theorem dX6_exchange_42 : decode cX6_exchange 42 = .ok (.if_icmp .eq 17, 3) := by decide +kernel
theorem dX6_exchange_45 : decode cX6_exchange 45 = .ok (.aload_n 0, 1) := by decide +kernel
theorem dX6_exchange_46 : decode cX6_exchange 46 = .ok (.getfield 25, 3) := by decide +kernel
theorem dX6_exchange_49 : decode cX6_exchange 49 = .ok (.iload 4, 2) := by decide +kernel
theorem dX6_exchange_51 : decode cX6_exchange 51 = .ok (.iaload, 1) := by decide +kernel
theorem dX6_exchange_52 : decode cX6_exchange 52 = .ok (.iload_n 2, 1) := by decide +kernel
theorem dX6_exchange_53 : decode cX6_exchange 53 = .ok (.if_icmp .eq 6, 3) := by decide +kernel
theorem dX6_exchange_56 : decode cX6_exchange 56 = .ok (.goto 26, 3) := by decide +kernel
theorem dX6_exchange_59 : decode cX6_exchange 59 = .ok (.aload_n 0, 1) := by decide +kernel
theorem dX6_exchange_60 : decode cX6_exchange 60 = .ok (.getfield 25, 3) := by decide +kernel
theorem dX6_exchange_63 : decode cX6_exchange 63 = .ok (.iload 4, 2) := by decide +kernel
theorem dX6_exchange_65 : decode cX6_exchange 65 = .ok (.aload_n 0, 1) := by decide +kernel
theorem dX6_exchange_66 : decode cX6_exchange 66 = .ok (.getfield 25, 3) := by decide +kernel
theorem dX6_exchange_69 : decode cX6_exchange 69 = .ok (.iload 4, 2) := by decide +kernel
theorem dX6_exchange_71 : decode cX6_exchange 71 = .ok (.iaload, 1) := by decide +kernel
theorem dX6_exchange_72 : decode cX6_exchange 72 = .ok (.iload_n 1, 1) := by decide +kernel
theorem dX6_exchange_73 : decode cX6_exchange 73 = .ok (.if_icmp .ne 7, 3) := by decide +kernel
theorem dX6_exchange_76 : decode cX6_exchange 76 = .ok (.iload_n 2, 1) := by decide +kernel
theorem dX6_exchange_77 : decode cX6_exchange 77 = .ok (.goto 4, 3) := by decide +kernel
theorem dX6_exchange_80 : decode cX6_exchange 80 = .ok (.iload_n 1, 1) := by decide +kernel
theorem dX6_exchange_81 : decode cX6_exchange 81 = .ok (.iastore, 1) := by decide +kernel
theorem dX6_exchange_82 : decode cX6_exchange 82 = .ok (.iinc 4 1, 3) := by decide +kernel
theorem dX6_exchange_85 : decode cX6_exchange 85 = .ok (.goto (-82), 3) := by decide +kernel
theorem dX6_exchange_88 : decode cX6_exchange 88 = .ok (.return_, 1) := by decide +kernel
theorem dX6_canExchange_0 : decode cX6_canExchange 0 = .ok (.aload_n 0, 1) := by decide +kernel
theorem dX6_canExchange_1 : decode cX6_canExchange 1 = .ok (.iload_n 1, 1) := by decide +kernel
theorem dX6_canExchange_2 : decode cX6_canExchange 2 = .ok (.invokevirtual 119, 3) := by decide +kernel
theorem dX6_canExchange_5 : decode cX6_canExchange 5 = .ok (.ifCond .ne 11, 3) := by decide +kernel
theorem dX6_canExchange_8 : decode cX6_canExchange 8 = .ok (.aload_n 0, 1) := by decide +kernel
theorem dX6_canExchange_9 : decode cX6_canExchange 9 = .ok (.iload_n 2, 1) := by decide +kernel
theorem dX6_canExchange_10 : decode cX6_canExchange 10 = .ok (.invokevirtual 119, 3) := by decide +kernel
theorem dX6_canExchange_13 : decode cX6_canExchange 13 = .ok (.ifCond .eq 5, 3) := by decide +kernel
theorem dX6_canExchange_16 : decode cX6_canExchange 16 = .ok (.iconst 0, 1) := by decide +kernel
theorem dX6_canExchange_17 : decode cX6_canExchange 17 = .ok (.ireturn, 1) := by decide +kernel
theorem dX6_canExchange_18 : decode cX6_canExchange 18 = .ok (.aload_n 0, 1) := by decide +kernel
theorem dX6_canExchange_19 : decode cX6_canExchange 19 = .ok (.aload_n 0, 1) := by decide +kernel
theorem dX6_canExchange_20 : decode cX6_canExchange 20 = .ok (.iload_n 1, 1) := by decide +kernel
theorem dX6_canExchange_21 : decode cX6_canExchange 21 = .ok (.invokevirtual 135, 3) := by decide +kernel
theorem dX6_canExchange_24 : decode cX6_canExchange 24 = .ok (.ineg, 1) := by decide +kernel
theorem dX6_canExchange_25 : decode cX6_canExchange 25 = .ok (.aload_n 0, 1) := by decide +kernel
theorem dX6_canExchange_26 : decode cX6_canExchange 26 = .ok (.iload_n 2, 1) := by decide +kernel
theorem dX6_canExchange_27 : decode cX6_canExchange 27 = .ok (.invokevirtual 135, 3) := by decide +kernel
theorem dX6_canExchange_30 : decode cX6_canExchange 30 = .ok (.isub, 1) := by decide +kernel
theorem dX6_canExchange_31 : decode cX6_canExchange 31 = .ok (.putfield 144, 3) := by decide +kernel
theorem dX6_canExchange_34 : decode cX6_canExchange 34 = .ok (.aload_n 0, 1) := by decide +kernel
theorem dX6_canExchange_35 : decode cX6_canExchange 35 = .ok (.iload_n 1, 1) := by decide +kernel
theorem dX6_canExchange_36 : decode cX6_canExchange 36 = .ok (.iload_n 2, 1) := by decide +kernel
theorem dX6_canExchange_37 : decode cX6_canExchange 37 = .ok (.iload_n 3, 1) := by decide +kernel
theorem dX6_canExchange_38 : decode cX6_canExchange 38 = .ok (.invokevirtual 147, 3) := by decide +kernel
theorem dX6_canExchange_41 : decode cX6_canExchange 41 = .ok (.aload_n 0, 1) := by decide +kernel
theorem dX6_canExchange_42 : decode cX6_canExchange 42 = .ok (.iload_n 1, 1) := by decide +kernel
theorem dX6_canExchange_43 : decode cX6_canExchange 43 = .ok (.invokevirtual 71, 3) := by decide +kernel
theorem dX6_canExchange_46 : decode cX6_canExchange 46 = .ok (.istore 4, 2) := by decide +kernel
theorem dX6_canExchange_48 : decode cX6_canExchange 48 = .ok (.aload_n 0, 1) := by decide +kernel
theorem dX6_canExchange_49 : decode cX6_canExchange 49 = .ok (.dup, 1) := by decide +kernel
theorem dX6_canExchange_50 : decode cX6_canExchange 50 = .ok (.getfield 144, 3) := by decide +kernel
theorem dX6_canExchange_53 : decode cX6_canExchange 53 = .ok (.aload_n 0, 1) := by decide +kernel
theorem dX6_canExchange_54 : decode cX6_canExchange 54 = .ok (.getfield 97, 3) := by decide +kernel
theorem dX6_canExchange_57 : decode cX6_canExchange 57 = .ok (.iadd, 1) := by decide +kernel
theorem dX6_canExchange_58 : decode cX6_canExchange 58 = .ok (.putfield 144, 3) := by decide +kernel
theorem dX6_canExchange_61 : decode cX6_canExchange 61 = .ok (.aload_n 0, 1) := by decide +kernel
theorem dX6_canExchange_62 : decode cX6_canExchange 62 = .ok (.iload_n 2, 1) := by decide +kernel
theorem dX6_canExchange_63 : decode cX6_canExchange 63 = .ok (.invokevirtual 71, 3) := by decide +kernel
theorem dX6_canExchange_66 : decode cX6_canExchange 66 = .ok (.ifCond .eq 12, 3) := by decide +kernel
theorem dX6_canExchange_69 : decode cX6_canExchange 69 = .ok (.iload 4, 2) := by decide +kernel
theorem dX6_canExchange_71 : decode cX6_canExchange 71 = .ok (.ifCond .eq 7, 3) := by decide +kernel
theorem dX6_canExchange_74 : decode cX6_canExchange 74 = .ok (.iconst 1, 1) := by decide +kernel
theorem dX6_canExchange_75 : decode cX6_canExchange 75 = .ok (.goto 4, 3) := by decide +kernel
theorem dX6_canExchange_78 : decode cX6_canExchange 78 = .ok (.iconst 0, 1) := by decide +kernel
theorem dX6_canExchange_79 : decode cX6_canExchange 79 = .ok (.istore 4, 2) := by decide +kernel
theorem dX6_canExchange_81 : decode cX6_canExchange 81 = .ok (.aload_n 0, 1) := by decide +kernel
theorem dX6_canExchange_82 : decode cX6_canExchange 82 = .ok (.dup, 1) := by decide +kernel
theorem dX6_canExchange_83 : decode cX6_canExchange 83 = .ok (.getfield 144, 3) := by decide +kernel
theorem dX6_canExchange_86 : decode cX6_canExchange 86 = .ok (.aload_n 0, 1) := by decide +kernel
theorem dX6_canExchange_87 : decode cX6_canExchange 87 = .ok (.getfield 97, 3) := by decide +kernel
theorem dX6_canExchange_90 : decode cX6_canExchange 90 = .ok (.iadd, 1) := by decide +kernel
theorem dX6_canExchange_91 : decode cX6_canExchange 91 = .ok (.putfield 144, 3) := by decide +kernel
theorem dX6_canExchange_94 : decode cX6_canExchange 94 = .ok (.aload_n 0, 1) := by decide +kernel
theorem dX6_canExchange_95 : decode cX6_canExchange 95 = .ok (.iload_n 1, 1) := by decide +kernel
theorem dX6_canExchange_96 : decode cX6_canExchange 96 = .ok (.iload_n 2, 1) := by decide +kernel
theorem dX6_canExchange_97 : decode cX6_canExchange 97 = .ok (.iload_n 3, 1) := by decide +kernel
theorem dX6_canExchange_98 : decode cX6_canExchange 98 = .ok (.invokevirtual 147, 3) := by decide +kernel
theorem dX6_canExchange_101 : decode cX6_canExchange 101 = .ok (.iload 4, 2) := by decide +kernel
theorem dX6_canExchange_103 : decode cX6_canExchange 103 = .ok (.ireturn, 1) := by decide +kernel
theorem dX6_swap_0 : decode cX6_swap 0 = .ok (.aload_n 0, 1) := by decide +kernel
theorem dX6_swap_1 : decode cX6_swap 1 = .ok (.iconst 0, 1) := by decide +kernel
theorem dX6_swap_2 : decode cX6_swap 2 = .ok (.putfield 47, 3) := by decide +kernel
theorem dX6_swap_5 : decode cX6_swap 5 = .ok (.aload_n 0, 1) := by decide +kernel
theorem dX6_swap_6 : decode cX6_swap 6 = .ok (.iload_n 1, 1) := by decide +kernel
theorem dX6_swap_7 : decode cX6_swap 7 = .ok (.invokevirtual 126, 3) := by decide +kernel
theorem dX6_swap_10 : decode cX6_swap 10 = .ok (.ifCond .eq 11, 3) := by decide +kernel
theorem dX6_swap_13 : decode cX6_swap 13 = .ok (.aload_n 0, 1) := by decide +kernel
theorem dX6_swap_14 : decode cX6_swap 14 = .ok (.iload_n 2, 1) := by decide +kernel
theorem dX6_swap_15 : decode cX6_swap 15 = .ok (.invokevirtual 126, 3) := by decide +kernel
theorem dX6_swap_18 : decode cX6_swap 18 = .ok (.ifCond .ne 9, 3) := by decide +kernel
theorem dX6_swap_21 : decode cX6_swap 21 = .ok (.aload_n 0, 1) := by decide +kernel
theorem dX6_swap_22 : decode cX6_swap 22 = .ok (.iconst 1, 1) := by decide +kernel
theorem dX6_swap_23 : decode cX6_swap 23 = .ok (.invokevirtual 64, 3) := by decide +kernel
theorem dX6_swap_26 : decode cX6_swap 26 = .ok (.ireturn, 1) := by decide +kernel
theorem dX6_swap_27 : decode cX6_swap 27 = .ok (.iload_n 1, 1) := by decide +kernel
theorem dX6_swap_28 : decode cX6_swap 28 = .ok (.iload_n 2, 1) := by decide +kernel
theorem dX6_swap_29 : decode cX6_swap 29 = .ok (.if_icmp .ne 9, 3) := by decide +kernel
theorem dX6_swap_32 : decode cX6_swap 32 = .ok (.aload_n 0, 1) := by decide +kernel
theorem dX6_swap_33 : decode cX6_swap 33 = .ok (.iconst 2, 1) := by decide +kernel
theorem dX6_swap_34 : decode cX6_swap 34 = .ok (.invokevirtual 64, 3) := by decide +kernel
theorem dX6_swap_37 : decode cX6_swap 37 = .ok (.ireturn, 1) := by decide +kernel
theorem dX6_swap_38 : decode cX6_swap 38 = .ok (.aload_n 0, 1) := by decide +kernel
theorem dX6_swap_39 : decode cX6_swap 39 = .ok (.iload_n 1, 1) := by decide +kernel
theorem dX6_swap_40 : decode cX6_swap 40 = .ok (.iload_n 2, 1) := by decide +kernel
theorem dX6_swap_41 : decode cX6_swap 41 = .ok (.iload_n 3, 1) := by decide +kernel
theorem dX6_swap_42 : decode cX6_swap 42 = .ok (.invokevirtual 151, 3) := by decide +kernel
theorem dX6_swap_45 : decode cX6_swap 45 = .ok (.ifCond .ne 9, 3) := by decide +kernel
theorem dX6_swap_48 : decode cX6_swap 48 = .ok (.aload_n 0, 1) := by decide +kernel
theorem dX6_swap_49 : decode cX6_swap 49 = .ok (.iconst 3, 1) := by decide +kernel
theorem dX6_swap_50 : decode cX6_swap 50 = .ok (.invokevirtual 64, 3) := by decide +kernel
theorem dX6_swap_53 : decode cX6_swap 53 = .ok (.ireturn, 1) := by decide +kernel
theorem dX6_swap_54 : decode cX6_swap 54 = .ok (.aload_n 0, 1) := by decide +kernel
theorem dX6_swap_55 : decode cX6_swap 55 = .ok (.iload_n 1, 1) := by decide +kernel
theorem dX6_swap_56 : decode cX6_swap 56 = .ok (.iload_n 2, 1) := by decide +kernel
theorem dX6_swap_57 : decode cX6_swap 57 = .ok (.iload_n 3, 1) := by decide +kernel
theorem dX6_swap_58 : decode cX6_swap 58 = .ok (.invokevirtual 147, 3) := by decide +kernel
theorem dX6_swap_61 : decode cX6_swap 61 = .ok (.aload_n 0, 1) := by decide +kernel
theorem dX6_swap_62 : decode cX6_swap 62 = .ok (.getfield 144, 3) := by decide +kernel
theorem dX6_swap_65 : decode cX6_swap 65 = .ok (.ireturn, 1) := by decide +kernel
theorem dX6_improve_0 : decode cX6_improve 0 = .ok (.aload_n 0, 1) := by decide +kernel
theorem dX6_improve_1 : decode cX6_improve 1 = .ok (.iconst 0, 1) := by decide +kernel
theorem dX6_improve_2 : decode cX6_improve 2 = .ok (.putfield 47, 3) := by decide +kernel
theorem dX6_improve_5 : decode cX6_improve 5 = .ok (.iconst 0, 1) := by decide +kernel
theorem dX6_improve_6 : decode cX6_improve 6 = .ok (.istore_n 1, 1) := by decide +kernel
theorem dX6_improve_7 : decode cX6_improve 7 = .ok (.iconst (-1), 1) := by decide +kernel
theorem dX6_improve_8 : decode cX6_improve 8 = .ok (.istore_n 2, 1) := by decide +kernel
theorem dX6_improve_9 : decode cX6_improve 9 = .ok (.iconst (-1), 1) := by decide +kernel
theorem dX6_improve_10 : decode cX6_improve 10 = .ok (.istore_n 3, 1) := by decide +kernel
theorem dX6_improve_11 : decode cX6_improve 11 = .ok (.iconst 0, 1) := by decide +kernel
theorem dX6_improve_12 : decode cX6_improve 12 = .ok (.istore 4, 2) := by decide +kernel
theorem dX6_improve_14 : decode cX6_improve 14 = .ok (.iconst 0, 1) := by decide +kernel
theorem dX6_improve_15 : decode cX6_improve 15 = .ok (.istore 5, 2) := by decide +kernel
theorem dX6_improve_17 : decode cX6_improve 17 = .ok (.iload 5, 2) := by decide +kernel
theorem dX6_improve_19 : decode cX6_improve 19 = .ok (.aload_n 0, 1) := by decide +kernel
theorem dX6_improve_20 : decode cX6_improve 20 = .ok (.getfield 57, 3) := by decide +kernel
theorem dX6_improve_23 : decode cX6_improve 23 = .ok (.if_icmp .ge 168, 3) := by decide +kernel
theorem dX6_improve_26 : decode cX6_improve 26 = .ok (.iload 5, 2) := by decide +kernel
theorem dX6_improve_28 : decode cX6_improve 28 = .ok (.iconst 1, 1) := by decide +kernel
theorem dX6_improve_29 : decode cX6_improve 29 = .ok (.iadd, 1) := by decide +kernel
theorem dX6_improve_30 : decode cX6_improve 30 = .ok (.istore 6, 2) := by decide +kernel
theorem dX6_improve_32 : decode cX6_improve 32 = .ok (.iload 6, 2) := by decide +kernel
theorem dX6_improve_34 : decode cX6_improve 34 = .ok (.aload_n 0, 1) := by decide +kernel
theorem dX6_improve_35 : decode cX6_improve 35 = .ok (.getfield 57, 3) := by decide +kernel
theorem dX6_improve_38 : decode cX6_improve 38 = .ok (.if_icmp .ge 147, 3) := by decide +kernel
theorem dX6_improve_41 : decode cX6_improve 41 = .ok (.iconst 0, 1) := by decide +kernel
theorem dX6_improve_42 : decode cX6_improve 42 = .ok (.istore 7, 2) := by decide +kernel
theorem dX6_improve_44 : decode cX6_improve 44 = .ok (.iload 7, 2) := by decide +kernel
theorem dX6_improve_46 : decode cX6_improve 46 = .ok (.aload_n 0, 1) := by decide +kernel
theorem dX6_improve_47 : decode cX6_improve 47 = .ok (.getfield 50, 3) := by decide +kernel
theorem dX6_improve_50 : decode cX6_improve 50 = .ok (.if_icmp .ge 129, 3) := by decide +kernel
theorem dX6_improve_53 : decode cX6_improve 53 = .ok (.aload_n 0, 1) := by decide +kernel
theorem dX6_improve_54 : decode cX6_improve 54 = .ok (.getfield 25, 3) := by decide +kernel
theorem dX6_improve_57 : decode cX6_improve 57 = .ok (.iload 7, 2) := by decide +kernel
theorem dX6_improve_59 : decode cX6_improve 59 = .ok (.iaload, 1) := by decide +kernel
theorem dX6_improve_60 : decode cX6_improve 60 = .ok (.iload 5, 2) := by decide +kernel
theorem dX6_improve_62 : decode cX6_improve 62 = .ok (.if_icmp .eq 15, 3) := by decide +kernel
theorem dX6_improve_65 : decode cX6_improve 65 = .ok (.aload_n 0, 1) := by decide +kernel
theorem dX6_improve_66 : decode cX6_improve 66 = .ok (.getfield 25, 3) := by decide +kernel
theorem dX6_improve_69 : decode cX6_improve 69 = .ok (.iload 7, 2) := by decide +kernel
theorem dX6_improve_71 : decode cX6_improve 71 = .ok (.iaload, 1) := by decide +kernel
theorem dX6_improve_72 : decode cX6_improve 72 = .ok (.iload 6, 2) := by decide +kernel
theorem dX6_improve_74 : decode cX6_improve 74 = .ok (.if_icmp .ne 99, 3) := by decide +kernel
theorem dX6_improve_77 : decode cX6_improve 77 = .ok (.aload_n 0, 1) := by decide +kernel
theorem dX6_improve_78 : decode cX6_improve 78 = .ok (.iload 5, 2) := by decide +kernel
theorem dX6_improve_80 : decode cX6_improve 80 = .ok (.iload 6, 2) := by decide +kernel
theorem dX6_improve_82 : decode cX6_improve 82 = .ok (.aload_n 0, 1) := by decide +kernel
theorem dX6_improve_83 : decode cX6_improve 83 = .ok (.getfield 19, 3) := by decide +kernel
theorem dX6_improve_86 : decode cX6_improve 86 = .ok (.iload 7, 2) := by decide +kernel
theorem dX6_improve_88 : decode cX6_improve 88 = .ok (.iaload, 1) := by decide +kernel
theorem dX6_improve_89 : decode cX6_improve 89 = .ok (.invokevirtual 151, 3) := by decide +kernel
theorem dX6_improve_92 : decode cX6_improve 92 = .ok (.ifCond .ne 6, 3) := by decide +kernel
theorem dX6_improve_95 : decode cX6_improve 95 = .ok (.goto 78, 3) := by decide +kernel
theorem dX6_improve_98 : decode cX6_improve 98 = .ok (.aload_n 0, 1) := by decide +kernel
theorem dX6_improve_99 : decode cX6_improve 99 = .ok (.getfield 144, 3) := by decide +kernel
theorem dX6_improve_102 : decode cX6_improve 102 = .ok (.iload_n 1, 1) := by decide +kernel
theorem dX6_improve_103 : decode cX6_improve 103 = .ok (.if_icmp .lt 35, 3) := by decide +kernel
theorem dX6_improve_106 : decode cX6_improve 106 = .ok (.aload_n 0, 1) := by decide +kernel
theorem dX6_improve_107 : decode cX6_improve 107 = .ok (.getfield 144, 3) := by decide +kernel
theorem dX6_improve_110 : decode cX6_improve 110 = .ok (.iload_n 1, 1) := by decide +kernel
theorem dX6_improve_111 : decode cX6_improve 111 = .ok (.if_icmp .ne 31, 3) := by decide +kernel
theorem dX6_improve_114 : decode cX6_improve 114 = .ok (.iload_n 2, 1) := by decide +kernel
theorem dX6_improve_115 : decode cX6_improve 115 = .ok (.iload 5, 2) := by decide +kernel
theorem dX6_improve_117 : decode cX6_improve 117 = .ok (.if_icmp .ne 25, 3) := by decide +kernel
theorem dX6_improve_120 : decode cX6_improve 120 = .ok (.iload_n 3, 1) := by decide +kernel
theorem dX6_improve_121 : decode cX6_improve 121 = .ok (.iload 6, 2) := by decide +kernel
theorem dX6_improve_123 : decode cX6_improve 123 = .ok (.if_icmp .ne 19, 3) := by decide +kernel
theorem dX6_improve_126 : decode cX6_improve 126 = .ok (.aload_n 0, 1) := by decide +kernel
theorem dX6_improve_127 : decode cX6_improve 127 = .ok (.getfield 19, 3) := by decide +kernel
theorem dX6_improve_130 : decode cX6_improve 130 = .ok (.iload 7, 2) := by decide +kernel
theorem dX6_improve_132 : decode cX6_improve 132 = .ok (.iaload, 1) := by decide +kernel
theorem dX6_improve_133 : decode cX6_improve 133 = .ok (.iload 4, 2) := by decide +kernel
theorem dX6_improve_135 : decode cX6_improve 135 = .ok (.if_icmp .ge 7, 3) := by decide +kernel
theorem dX6_improve_138 : decode cX6_improve 138 = .ok (.iconst 1, 1) := by decide +kernel
theorem dX6_improve_139 : decode cX6_improve 139 = .ok (.goto 4, 3) := by decide +kernel
theorem dX6_improve_142 : decode cX6_improve 142 = .ok (.iconst 0, 1) := by decide +kernel
theorem dX6_improve_143 : decode cX6_improve 143 = .ok (.istore 8, 2) := by decide +kernel
theorem dX6_improve_145 : decode cX6_improve 145 = .ok (.iload 8, 2) := by decide +kernel
theorem dX6_improve_147 : decode cX6_improve 147 = .ok (.ifCond .ne 6, 3) := by decide +kernel
theorem dX6_improve_150 : decode cX6_improve 150 = .ok (.goto 23, 3) := by decide +kernel
theorem dX6_improve_153 : decode cX6_improve 153 = .ok (.aload_n 0, 1) := by decide +kernel
theorem dX6_improve_154 : decode cX6_improve 154 = .ok (.getfield 144, 3) := by decide +kernel
theorem dX6_improve_157 : decode cX6_improve 157 = .ok (.istore_n 1, 1) := by decide +kernel
theorem dX6_improve_158 : decode cX6_improve 158 = .ok (.iload 5, 2) := by decide +kernel
theorem dX6_improve_160 : decode cX6_improve 160 = .ok (.istore_n 2, 1) := by decide +kernel
theorem dX6_improve_161 : decode cX6_improve 161 = .ok (.iload 6, 2) := by decide +kernel
theorem dX6_improve_163 : decode cX6_improve 163 = .ok (.istore_n 3, 1) := by decide +kernel
theorem dX6_improve_164 : decode cX6_improve 164 = .ok (.aload_n 0, 1) := by decide +kernel
theorem dX6_improve_165 : decode cX6_improve 165 = .ok (.getfield 19, 3) := by decide +kernel
theorem dX6_improve_168 : decode cX6_improve 168 = .ok (.iload 7, 2) := by decide +kernel
theorem dX6_improve_170 : decode cX6_improve 170 = .ok (.iaload, 1) := by decide +kernel
theorem dX6_improve_171 : decode cX6_improve 171 = .ok (.istore 4, 2) := by decide +kernel
theorem dX6_improve_173 : decode cX6_improve 173 = .ok (.iinc 7 1, 3) := by decide +kernel
theorem dX6_improve_176 : decode cX6_improve 176 = .ok (.goto (-132), 3) := by decide +kernel
theorem dX6_improve_179 : decode cX6_improve 179 = .ok (.iinc 6 1, 3) := by decide +kernel
theorem dX6_improve_182 : decode cX6_improve 182 = .ok (.goto (-150), 3) := by decide +kernel
theorem dX6_improve_185 : decode cX6_improve 185 = .ok (.iinc 5 1, 3) := by decide +kernel
theorem dX6_improve_188 : decode cX6_improve 188 = .ok (.goto (-171), 3) := by decide +kernel
theorem dX6_improve_191 : decode cX6_improve 191 = .ok (.iload_n 2, 1) := by decide +kernel
theorem dX6_improve_192 : decode cX6_improve 192 = .ok (.iconst (-1), 1) := by decide +kernel
theorem dX6_improve_193 : decode cX6_improve 193 = .ok (.if_icmp .eq 11, 3) := by decide +kernel
theorem dX6_improve_196 : decode cX6_improve 196 = .ok (.aload_n 0, 1) := by decide +kernel
theorem dX6_improve_197 : decode cX6_improve 197 = .ok (.iload_n 2, 1) := by decide +kernel
theorem dX6_improve_198 : decode cX6_improve 198 = .ok (.iload_n 3, 1) := by decide +kernel
theorem dX6_improve_199 : decode cX6_improve 199 = .ok (.iload 4, 2) := by decide +kernel
theorem dX6_improve_201 : decode cX6_improve 201 = .ok (.invokevirtual 147, 3) := by decide +kernel
theorem dX6_improve_204 : decode cX6_improve 204 = .ok (.iload_n 1, 1) := by decide +kernel
theorem dX6_improve_205 : decode cX6_improve 205 = .ok (.ireturn, 1) := by decide +kernel
theorem dX6_allPay_0 : decode cX6_allPay 0 = .ok (.iconst 0, 1) := by decide +kernel
theorem dX6_allPay_1 : decode cX6_allPay 1 = .ok (.istore_n 1, 1) := by decide +kernel
theorem dX6_allPay_2 : decode cX6_allPay 2 = .ok (.iconst 0, 1) := by decide +kernel
theorem dX6_allPay_3 : decode cX6_allPay 3 = .ok (.istore_n 2, 1) := by decide +kernel
theorem dX6_allPay_4 : decode cX6_allPay 4 = .ok (.iload_n 2, 1) := by decide +kernel
theorem dX6_allPay_5 : decode cX6_allPay 5 = .ok (.aload_n 0, 1) := by decide +kernel
theorem dX6_allPay_6 : decode cX6_allPay 6 = .ok (.getfield 57, 3) := by decide +kernel
theorem dX6_allPay_9 : decode cX6_allPay 9 = .ok (.if_icmp .ge 17, 3) := by decide +kernel
theorem dX6_allPay_12 : decode cX6_allPay 12 = .ok (.iload_n 1, 1) := by decide +kernel
theorem dX6_allPay_13 : decode cX6_allPay 13 = .ok (.aload_n 0, 1) := by decide +kernel
theorem dX6_allPay_14 : decode cX6_allPay 14 = .ok (.iload_n 2, 1) := by decide +kernel
theorem dX6_allPay_15 : decode cX6_allPay 15 = .ok (.invokevirtual 135, 3) := by decide +kernel
theorem dX6_allPay_18 : decode cX6_allPay 18 = .ok (.iadd, 1) := by decide +kernel
theorem dX6_allPay_19 : decode cX6_allPay 19 = .ok (.istore_n 1, 1) := by decide +kernel
theorem dX6_allPay_20 : decode cX6_allPay 20 = .ok (.iinc 2 1, 3) := by decide +kernel
theorem dX6_allPay_23 : decode cX6_allPay 23 = .ok (.goto (-19), 3) := by decide +kernel
theorem dX6_allPay_26 : decode cX6_allPay 26 = .ok (.iload_n 1, 1) := by decide +kernel
theorem dX6_allPay_27 : decode cX6_allPay 27 = .ok (.ireturn, 1) := by decide +kernel
theorem dX6_pay_0 : decode cX6_pay 0 = .ok (.aload_n 0, 1) := by decide +kernel
theorem dX6_pay_1 : decode cX6_pay 1 = .ok (.iconst 0, 1) := by decide +kernel
theorem dX6_pay_2 : decode cX6_pay 2 = .ok (.putfield 47, 3) := by decide +kernel
theorem dX6_pay_5 : decode cX6_pay 5 = .ok (.aload_n 0, 1) := by decide +kernel
theorem dX6_pay_6 : decode cX6_pay 6 = .ok (.invokevirtual 154, 3) := by decide +kernel
theorem dX6_pay_9 : decode cX6_pay 9 = .ok (.ireturn, 1) := by decide +kernel
theorem dX6_use_0 : decode cX6_use 0 = .ok (.aload_n 0, 1) := by decide +kernel
theorem dX6_use_1 : decode cX6_use 1 = .ok (.iconst 0, 1) := by decide +kernel
theorem dX6_use_2 : decode cX6_use 2 = .ok (.putfield 47, 3) := by decide +kernel
theorem dX6_use_5 : decode cX6_use 5 = .ok (.iconst 0, 1) := by decide +kernel
theorem dX6_use_6 : decode cX6_use 6 = .ok (.istore_n 1, 1) := by decide +kernel
theorem dX6_use_7 : decode cX6_use 7 = .ok (.iconst 0, 1) := by decide +kernel
theorem dX6_use_8 : decode cX6_use 8 = .ok (.istore_n 2, 1) := by decide +kernel
theorem dX6_use_9 : decode cX6_use 9 = .ok (.iconst 0, 1) := by decide +kernel
theorem dX6_use_10 : decode cX6_use 10 = .ok (.istore_n 3, 1) := by decide +kernel
theorem dX6_use_11 : decode cX6_use 11 = .ok (.iload_n 3, 1) := by decide +kernel
theorem dX6_use_12 : decode cX6_use 12 = .ok (.aload_n 0, 1) := by decide +kernel
theorem dX6_use_13 : decode cX6_use 13 = .ok (.getfield 57, 3) := by decide +kernel
theorem dX6_use_16 : decode cX6_use 16 = .ok (.if_icmp .ge 68, 3) := by decide +kernel
theorem dX6_use_19 : decode cX6_use 19 = .ok (.aload_n 0, 1) := by decide +kernel
theorem dX6_use_20 : decode cX6_use 20 = .ok (.iload_n 3, 1) := by decide +kernel
theorem dX6_use_21 : decode cX6_use 21 = .ok (.invokevirtual 71, 3) := by decide +kernel
theorem dX6_use_24 : decode cX6_use 24 = .ok (.pop, 1) := by decide +kernel
theorem dX6_use_25 : decode cX6_use 25 = .ok (.iload_n 2, 1) := by decide +kernel
theorem dX6_use_26 : decode cX6_use 26 = .ok (.aload_n 0, 1) := by decide +kernel
theorem dX6_use_27 : decode cX6_use 27 = .ok (.getfield 94, 3) := by decide +kernel
theorem dX6_use_30 : decode cX6_use 30 = .ok (.iadd, 1) := by decide +kernel
theorem dX6_use_31 : decode cX6_use 31 = .ok (.istore_n 2, 1) := by decide +kernel
theorem dX6_use_32 : decode cX6_use 32 = .ok (.iconst 0, 1) := by decide +kernel
theorem dX6_use_33 : decode cX6_use 33 = .ok (.istore 4, 2) := by decide +kernel
theorem dX6_use_35 : decode cX6_use 35 = .ok (.iload 4, 2) := by decide +kernel
theorem dX6_use_37 : decode cX6_use 37 = .ok (.aload_n 0, 1) := by decide +kernel
theorem dX6_use_38 : decode cX6_use 38 = .ok (.getfield 81, 3) := by decide +kernel
theorem dX6_use_41 : decode cX6_use 41 = .ok (.if_icmp .ge 37, 3) := by decide +kernel
theorem dX6_use_44 : decode cX6_use 44 = .ok (.iload_n 1, 1) := by decide +kernel
theorem dX6_use_45 : decode cX6_use 45 = .ok (.aload_n 0, 1) := by decide +kernel
theorem dX6_use_46 : decode cX6_use 46 = .ok (.getfield 22, 3) := by decide +kernel
theorem dX6_use_49 : decode cX6_use 49 = .ok (.aload_n 0, 1) := by decide +kernel
theorem dX6_use_50 : decode cX6_use 50 = .ok (.getfield 44, 3) := by decide +kernel
theorem dX6_use_53 : decode cX6_use 53 = .ok (.iload 4, 2) := by decide +kernel
theorem dX6_use_55 : decode cX6_use 55 = .ok (.iaload, 1) := by decide +kernel
theorem dX6_use_56 : decode cX6_use 56 = .ok (.iaload, 1) := by decide +kernel
theorem dX6_use_57 : decode cX6_use 57 = .ok (.aload_n 0, 1) := by decide +kernel
theorem dX6_use_58 : decode cX6_use 58 = .ok (.getfield 19, 3) := by decide +kernel
theorem dX6_use_61 : decode cX6_use 61 = .ok (.aload_n 0, 1) := by decide +kernel
theorem dX6_use_62 : decode cX6_use 62 = .ok (.getfield 44, 3) := by decide +kernel
theorem dX6_use_65 : decode cX6_use 65 = .ok (.iload 4, 2) := by decide +kernel
theorem dX6_use_67 : decode cX6_use 67 = .ok (.iaload, 1) := by decide +kernel
theorem dX6_use_68 : decode cX6_use 68 = .ok (.iaload, 1) := by decide +kernel
theorem dX6_use_69 : decode cX6_use 69 = .ok (.isub, 1) := by decide +kernel
theorem dX6_use_70 : decode cX6_use 70 = .ok (.iadd, 1) := by decide +kernel
theorem dX6_use_71 : decode cX6_use 71 = .ok (.istore_n 1, 1) := by decide +kernel
theorem dX6_use_72 : decode cX6_use 72 = .ok (.iinc 4 1, 3) := by decide +kernel
theorem dX6_use_75 : decode cX6_use 75 = .ok (.goto (-40), 3) := by decide +kernel
theorem dX6_use_78 : decode cX6_use 78 = .ok (.iinc 3 1, 3) := by decide +kernel
theorem dX6_use_81 : decode cX6_use 81 = .ok (.goto (-70), 3) := by decide +kernel
theorem dX6_use_84 : decode cX6_use 84 = .ok (.iload_n 1, 1) := by decide +kernel
theorem dX6_use_85 : decode cX6_use 85 = .ok (.ifCond .ne 7, 3) := by decide +kernel
theorem dX6_use_88 : decode cX6_use 88 = .ok (.dconst 0, 1) := by decide +kernel
theorem dX6_use_89 : decode cX6_use 89 = .ok (.goto 8, 3) := by decide +kernel
theorem dX6_use_92 : decode cX6_use 92 = .ok (.iload_n 1, 1) := by decide +kernel
theorem dX6_use_93 : decode cX6_use 93 = .ok (.i2d, 1) := by decide +kernel
theorem dX6_use_94 : decode cX6_use 94 = .ok (.iload_n 2, 1) := by decide +kernel
theorem dX6_use_95 : decode cX6_use 95 = .ok (.i2d, 1) := by decide +kernel
theorem dX6_use_96 : decode cX6_use 96 = .ok (.ddiv, 1) := by decide +kernel
theorem dX6_use_97 : decode cX6_use 97 = .ok (.dreturn, 1) := by decide +kernel
theorem dX6_addDriver_0 : decode cX6_addDriver 0 = .ok (.aload_n 0, 1) := by decide +kernel
theorem dX6_addDriver_1 : decode cX6_addDriver 1 = .ok (.iconst 0, 1) := by decide +kernel
theorem dX6_addDriver_2 : decode cX6_addDriver 2 = .ok (.putfield 47, 3) := by decide +kernel
theorem dX6_addDriver_5 : decode cX6_addDriver 5 = .ok (.aload_n 0, 1) := by decide +kernel
theorem dX6_addDriver_6 : decode cX6_addDriver 6 = .ok (.getfield 74, 3) := by decide +kernel
theorem dX6_addDriver_9 : decode cX6_addDriver 9 = .ok (.bipush 8, 2) := by decide +kernel
theorem dX6_addDriver_11 : decode cX6_addDriver 11 = .ok (.if_icmp .ne 9, 3) := by decide +kernel
theorem dX6_addDriver_14 : decode cX6_addDriver 14 = .ok (.aload_n 0, 1) := by decide +kernel
theorem dX6_addDriver_15 : decode cX6_addDriver 15 = .ok (.iconst 1, 1) := by decide +kernel
theorem dX6_addDriver_16 : decode cX6_addDriver 16 = .ok (.invokevirtual 64, 3) := by decide +kernel
theorem dX6_addDriver_19 : decode cX6_addDriver 19 = .ok (.ireturn, 1) := by decide +kernel
theorem dX6_addDriver_20 : decode cX6_addDriver 20 = .ok (.aload_n 0, 1) := by decide +kernel
theorem dX6_addDriver_21 : decode cX6_addDriver 21 = .ok (.dup, 1) := by decide +kernel
theorem dX6_addDriver_22 : decode cX6_addDriver 22 = .ok (.getfield 74, 3) := by decide +kernel
theorem dX6_addDriver_25 : decode cX6_addDriver 25 = .ok (.iconst 1, 1) := by decide +kernel
theorem dX6_addDriver_26 : decode cX6_addDriver 26 = .ok (.iadd, 1) := by decide +kernel
theorem dX6_addDriver_27 : decode cX6_addDriver 27 = .ok (.putfield 74, 3) := by decide +kernel
theorem dX6_addDriver_30 : decode cX6_addDriver 30 = .ok (.aload_n 0, 1) := by decide +kernel
theorem dX6_addDriver_31 : decode cX6_addDriver 31 = .ok (.getfield 74, 3) := by decide +kernel
theorem dX6_addDriver_34 : decode cX6_addDriver 34 = .ok (.iconst 1, 1) := by decide +kernel
theorem dX6_addDriver_35 : decode cX6_addDriver 35 = .ok (.isub, 1) := by decide +kernel
theorem dX6_addDriver_36 : decode cX6_addDriver 36 = .ok (.ireturn, 1) := by decide +kernel
theorem dX6_isDriver_0 : decode cX6_isDriver 0 = .ok (.iload_n 1, 1) := by decide +kernel
theorem dX6_isDriver_1 : decode cX6_isDriver 1 = .ok (.iconst 0, 1) := by decide +kernel
theorem dX6_isDriver_2 : decode cX6_isDriver 2 = .ok (.aload_n 0, 1) := by decide +kernel
theorem dX6_isDriver_3 : decode cX6_isDriver 3 = .ok (.getfield 74, 3) := by decide +kernel
theorem dX6_isDriver_6 : decode cX6_isDriver 6 = .ok (.iconst 1, 1) := by decide +kernel
theorem dX6_isDriver_7 : decode cX6_isDriver 7 = .ok (.isub, 1) := by decide +kernel
theorem dX6_isDriver_8 : decode cX6_isDriver 8 = .ok (.invokestatic 53, 3) := by decide +kernel
theorem dX6_isDriver_11 : decode cX6_isDriver 11 = .ok (.ireturn, 1) := by decide +kernel
theorem dX6_isDay_0 : decode cX6_isDay 0 = .ok (.iload_n 0, 1) := by decide +kernel
theorem dX6_isDay_1 : decode cX6_isDay 1 = .ok (.iconst 0, 1) := by decide +kernel
theorem dX6_isDay_2 : decode cX6_isDay 2 = .ok (.bipush 6, 2) := by decide +kernel
theorem dX6_isDay_4 : decode cX6_isDay 4 = .ok (.invokestatic 53, 3) := by decide +kernel
theorem dX6_isDay_7 : decode cX6_isDay 7 = .ok (.ireturn, 1) := by decide +kernel
theorem dX6_at_0 : decode cX6_at 0 = .ok (.iload_n 2, 1) := by decide +kernel
theorem dX6_at_1 : decode cX6_at 1 = .ok (.invokestatic 157, 3) := by decide +kernel
theorem dX6_at_4 : decode cX6_at 4 = .ok (.ifCond .eq 17, 3) := by decide +kernel
theorem dX6_at_7 : decode cX6_at 7 = .ok (.aload_n 0, 1) := by decide +kernel
theorem dX6_at_8 : decode cX6_at 8 = .ok (.getfield 28, 3) := by decide +kernel
theorem dX6_at_11 : decode cX6_at 11 = .ok (.bipush 7, 2) := by decide +kernel
theorem dX6_at_13 : decode cX6_at 13 = .ok (.iload_n 1, 1) := by decide +kernel
theorem dX6_at_14 : decode cX6_at 14 = .ok (.imul, 1) := by decide +kernel
theorem dX6_at_15 : decode cX6_at 15 = .ok (.iload_n 2, 1) := by decide +kernel
theorem dX6_at_16 : decode cX6_at 16 = .ok (.iadd, 1) := by decide +kernel
theorem dX6_at_17 : decode cX6_at 17 = .ok (.iaload, 1) := by decide +kernel
theorem dX6_at_18 : decode cX6_at 18 = .ok (.goto 4, 3) := by decide +kernel
theorem dX6_at_21 : decode cX6_at 21 = .ok (.iconst (-1), 1) := by decide +kernel
theorem dX6_at_22 : decode cX6_at 22 = .ok (.ireturn, 1) := by decide +kernel
theorem dX6_weekOf_0 : decode cX6_weekOf 0 = .ok (.iconst 0, 1) := by decide +kernel
theorem dX6_weekOf_1 : decode cX6_weekOf 1 = .ok (.istore_n 2, 1) := by decide +kernel
theorem dX6_weekOf_2 : decode cX6_weekOf 2 = .ok (.iconst 0, 1) := by decide +kernel
theorem dX6_weekOf_3 : decode cX6_weekOf 3 = .ok (.istore_n 3, 1) := by decide +kernel
theorem dX6_weekOf_4 : decode cX6_weekOf 4 = .ok (.iload_n 3, 1) := by decide +kernel
theorem dX6_weekOf_5 : decode cX6_weekOf 5 = .ok (.bipush 7, 2) := by decide +kernel
theorem dX6_weekOf_7 : decode cX6_weekOf 7 = .ok (.if_icmp .ge 36, 3) := by decide +kernel
theorem dX6_weekOf_10 : decode cX6_weekOf 10 = .ok (.iload_n 2, 1) := by decide +kernel
theorem dX6_weekOf_11 : decode cX6_weekOf 11 = .ok (.aload_n 0, 1) := by decide +kernel
theorem dX6_weekOf_12 : decode cX6_weekOf 12 = .ok (.iload_n 1, 1) := by decide +kernel
theorem dX6_weekOf_13 : decode cX6_weekOf 13 = .ok (.iload_n 3, 1) := by decide +kernel
theorem dX6_weekOf_14 : decode cX6_weekOf 14 = .ok (.invokevirtual 160, 3) := by decide +kernel
theorem dX6_weekOf_17 : decode cX6_weekOf 17 = .ok (.iconst (-1), 1) := by decide +kernel
theorem dX6_weekOf_18 : decode cX6_weekOf 18 = .ok (.if_icmp .ne 7, 3) := by decide +kernel
theorem dX6_weekOf_21 : decode cX6_weekOf 21 = .ok (.iconst 0, 1) := by decide +kernel
theorem dX6_weekOf_22 : decode cX6_weekOf 22 = .ok (.goto 13, 3) := by decide +kernel
theorem dX6_weekOf_25 : decode cX6_weekOf 25 = .ok (.aload_n 0, 1) := by decide +kernel
theorem dX6_weekOf_26 : decode cX6_weekOf 26 = .ok (.aload_n 0, 1) := by decide +kernel
theorem dX6_weekOf_27 : decode cX6_weekOf 27 = .ok (.iload_n 1, 1) := by decide +kernel
theorem dX6_weekOf_28 : decode cX6_weekOf 28 = .ok (.iload_n 3, 1) := by decide +kernel
theorem dX6_weekOf_29 : decode cX6_weekOf 29 = .ok (.invokevirtual 160, 3) := by decide +kernel
theorem dX6_weekOf_32 : decode cX6_weekOf 32 = .ok (.invokevirtual 135, 3) := by decide +kernel
theorem dX6_weekOf_35 : decode cX6_weekOf 35 = .ok (.iadd, 1) := by decide +kernel
theorem dX6_weekOf_36 : decode cX6_weekOf 36 = .ok (.istore_n 2, 1) := by decide +kernel
theorem dX6_weekOf_37 : decode cX6_weekOf 37 = .ok (.iinc 3 1, 3) := by decide +kernel
theorem dX6_weekOf_40 : decode cX6_weekOf 40 = .ok (.goto (-36), 3) := by decide +kernel
theorem dX6_weekOf_43 : decode cX6_weekOf 43 = .ok (.iload_n 2, 1) := by decide +kernel
theorem dX6_weekOf_44 : decode cX6_weekOf 44 = .ok (.ireturn, 1) := by decide +kernel
theorem dX6_isTaken_0 : decode cX6_isTaken 0 = .ok (.iconst 0, 1) := by decide +kernel
theorem dX6_isTaken_1 : decode cX6_isTaken 1 = .ok (.istore_n 3, 1) := by decide +kernel
theorem dX6_isTaken_2 : decode cX6_isTaken 2 = .ok (.iconst 0, 1) := by decide +kernel
theorem dX6_isTaken_3 : decode cX6_isTaken 3 = .ok (.istore 4, 2) := by decide +kernel
theorem dX6_isTaken_5 : decode cX6_isTaken 5 = .ok (.iload 4, 2) := by decide +kernel
theorem dX6_isTaken_7 : decode cX6_isTaken 7 = .ok (.aload_n 0, 1) := by decide +kernel
theorem dX6_isTaken_8 : decode cX6_isTaken 8 = .ok (.getfield 74, 3) := by decide +kernel
theorem dX6_isTaken_11 : decode cX6_isTaken 11 = .ok (.if_icmp .ge 30, 3) := by decide +kernel
theorem dX6_isTaken_14 : decode cX6_isTaken 14 = .ok (.iload_n 3, 1) := by decide +kernel
theorem dX6_isTaken_15 : decode cX6_isTaken 15 = .ok (.ifCond .ne 14, 3) := by decide +kernel
theorem dX6_isTaken_18 : decode cX6_isTaken 18 = .ok (.aload_n 0, 1) := by decide +kernel
theorem dX6_isTaken_19 : decode cX6_isTaken 19 = .ok (.iload 4, 2) := by decide +kernel
theorem dX6_isTaken_21 : decode cX6_isTaken 21 = .ok (.iload_n 1, 1) := by decide +kernel
theorem dX6_isTaken_22 : decode cX6_isTaken 22 = .ok (.invokevirtual 160, 3) := by decide +kernel
theorem dX6_isTaken_25 : decode cX6_isTaken 25 = .ok (.iload_n 2, 1) := by decide +kernel
theorem dX6_isTaken_26 : decode cX6_isTaken 26 = .ok (.if_icmp .ne 7, 3) := by decide +kernel
theorem dX6_isTaken_29 : decode cX6_isTaken 29 = .ok (.iconst 1, 1) := by decide +kernel
theorem dX6_isTaken_30 : decode cX6_isTaken 30 = .ok (.goto 4, 3) := by decide +kernel
theorem dX6_isTaken_33 : decode cX6_isTaken 33 = .ok (.iconst 0, 1) := by decide +kernel
theorem dX6_isTaken_34 : decode cX6_isTaken 34 = .ok (.istore_n 3, 1) := by decide +kernel
theorem dX6_isTaken_35 : decode cX6_isTaken 35 = .ok (.iinc 4 1, 3) := by decide +kernel
theorem dX6_isTaken_38 : decode cX6_isTaken 38 = .ok (.goto (-33), 3) := by decide +kernel
theorem dX6_isTaken_41 : decode cX6_isTaken 41 = .ok (.iload_n 3, 1) := by decide +kernel
theorem dX6_isTaken_42 : decode cX6_isTaken 42 = .ok (.ireturn, 1) := by decide +kernel
theorem dX6_longest_0 : decode cX6_longest 0 = .ok (.iconst 0, 1) := by decide +kernel
theorem dX6_longest_1 : decode cX6_longest 1 = .ok (.istore_n 3, 1) := by decide +kernel
theorem dX6_longest_2 : decode cX6_longest 2 = .ok (.iconst 0, 1) := by decide +kernel
theorem dX6_longest_3 : decode cX6_longest 3 = .ok (.istore 4, 2) := by decide +kernel
theorem dX6_longest_5 : decode cX6_longest 5 = .ok (.iconst 0, 1) := by decide +kernel
theorem dX6_longest_6 : decode cX6_longest 6 = .ok (.istore 5, 2) := by decide +kernel
theorem dX6_longest_8 : decode cX6_longest 8 = .ok (.iload 5, 2) := by decide +kernel
theorem dX6_longest_10 : decode cX6_longest 10 = .ok (.bipush 7, 2) := by decide +kernel
theorem dX6_longest_12 : decode cX6_longest 12 = .ok (.if_icmp .ge 43, 3) := by decide +kernel
theorem dX6_longest_15 : decode cX6_longest 15 = .ok (.iload 5, 2) := by decide +kernel
theorem dX6_longest_17 : decode cX6_longest 17 = .ok (.iload_n 2, 1) := by decide +kernel
theorem dX6_longest_18 : decode cX6_longest 18 = .ok (.if_icmp .eq 14, 3) := by decide +kernel
theorem dX6_longest_21 : decode cX6_longest 21 = .ok (.aload_n 0, 1) := by decide +kernel
theorem dX6_longest_22 : decode cX6_longest 22 = .ok (.iload_n 1, 1) := by decide +kernel
theorem dX6_longest_23 : decode cX6_longest 23 = .ok (.iload 5, 2) := by decide +kernel
theorem dX6_longest_25 : decode cX6_longest 25 = .ok (.invokevirtual 160, 3) := by decide +kernel
theorem dX6_longest_28 : decode cX6_longest 28 = .ok (.iconst (-1), 1) := by decide +kernel
theorem dX6_longest_29 : decode cX6_longest 29 = .ok (.if_icmp .eq 10, 3) := by decide +kernel
theorem dX6_longest_32 : decode cX6_longest 32 = .ok (.iload 4, 2) := by decide +kernel
theorem dX6_longest_34 : decode cX6_longest 34 = .ok (.iconst 1, 1) := by decide +kernel
theorem dX6_longest_35 : decode cX6_longest 35 = .ok (.iadd, 1) := by decide +kernel
theorem dX6_longest_36 : decode cX6_longest 36 = .ok (.goto 4, 3) := by decide +kernel
theorem dX6_longest_39 : decode cX6_longest 39 = .ok (.iconst 0, 1) := by decide +kernel
theorem dX6_longest_40 : decode cX6_longest 40 = .ok (.istore 4, 2) := by decide +kernel
theorem dX6_longest_42 : decode cX6_longest 42 = .ok (.iload_n 3, 1) := by decide +kernel
theorem dX6_longest_43 : decode cX6_longest 43 = .ok (.iload 4, 2) := by decide +kernel
theorem dX6_longest_45 : decode cX6_longest 45 = .ok (.invokestatic 114, 3) := by decide +kernel
theorem dX6_longest_48 : decode cX6_longest 48 = .ok (.istore_n 3, 1) := by decide +kernel
theorem dX6_longest_49 : decode cX6_longest 49 = .ok (.iinc 5 1, 3) := by decide +kernel
theorem dX6_longest_52 : decode cX6_longest 52 = .ok (.goto (-44), 3) := by decide +kernel
theorem dX6_longest_55 : decode cX6_longest 55 = .ok (.iload_n 3, 1) := by decide +kernel
theorem dX6_longest_56 : decode cX6_longest 56 = .ok (.ireturn, 1) := by decide +kernel
theorem dX6_between_0 : decode cX6_between 0 = .ok (.aload_n 0, 1) := by decide +kernel
theorem dX6_between_1 : decode cX6_between 1 = .ok (.iload_n 1, 1) := by decide +kernel
theorem dX6_between_2 : decode cX6_between 2 = .ok (.invokevirtual 71, 3) := by decide +kernel
theorem dX6_between_5 : decode cX6_between 5 = .ok (.pop, 1) := by decide +kernel
theorem dX6_between_6 : decode cX6_between 6 = .ok (.aload_n 0, 1) := by decide +kernel
theorem dX6_between_7 : decode cX6_between 7 = .ok (.getfield 91, 3) := by decide +kernel
theorem dX6_between_10 : decode cX6_between 10 = .ok (.istore_n 3, 1) := by decide +kernel
theorem dX6_between_11 : decode cX6_between 11 = .ok (.aload_n 0, 1) := by decide +kernel
theorem dX6_between_12 : decode cX6_between 12 = .ok (.iload_n 2, 1) := by decide +kernel
theorem dX6_between_13 : decode cX6_between 13 = .ok (.invokevirtual 71, 3) := by decide +kernel
theorem dX6_between_16 : decode cX6_between 16 = .ok (.pop, 1) := by decide +kernel
theorem dX6_between_17 : decode cX6_between 17 = .ok (.aload_n 0, 1) := by decide +kernel
theorem dX6_between_18 : decode cX6_between 18 = .ok (.getfield 88, 3) := by decide +kernel
theorem dX6_between_21 : decode cX6_between 21 = .ok (.sipush 1440, 3) := by decide +kernel
theorem dX6_between_24 : decode cX6_between 24 = .ok (.iadd, 1) := by decide +kernel
theorem dX6_between_25 : decode cX6_between 25 = .ok (.iload_n 3, 1) := by decide +kernel
theorem dX6_between_26 : decode cX6_between 26 = .ok (.isub, 1) := by decide +kernel
theorem dX6_between_27 : decode cX6_between 27 = .ok (.ireturn, 1) := by decide +kernel
theorem dX6_hasRest_0 : decode cX6_hasRest 0 = .ok (.aload_n 0, 1) := by decide +kernel
theorem dX6_hasRest_1 : decode cX6_hasRest 1 = .ok (.iload_n 1, 1) := by decide +kernel
theorem dX6_hasRest_2 : decode cX6_hasRest 2 = .ok (.iload_n 2, 1) := by decide +kernel
theorem dX6_hasRest_3 : decode cX6_hasRest 3 = .ok (.iconst 1, 1) := by decide +kernel
theorem dX6_hasRest_4 : decode cX6_hasRest 4 = .ok (.isub, 1) := by decide +kernel
theorem dX6_hasRest_5 : decode cX6_hasRest 5 = .ok (.invokevirtual 160, 3) := by decide +kernel
theorem dX6_hasRest_8 : decode cX6_hasRest 8 = .ok (.istore 4, 2) := by decide +kernel
theorem dX6_hasRest_10 : decode cX6_hasRest 10 = .ok (.aload_n 0, 1) := by decide +kernel
theorem dX6_hasRest_11 : decode cX6_hasRest 11 = .ok (.iload_n 1, 1) := by decide +kernel
theorem dX6_hasRest_12 : decode cX6_hasRest 12 = .ok (.iload_n 2, 1) := by decide +kernel
theorem dX6_hasRest_13 : decode cX6_hasRest 13 = .ok (.iconst 1, 1) := by decide +kernel
theorem dX6_hasRest_14 : decode cX6_hasRest 14 = .ok (.iadd, 1) := by decide +kernel
theorem dX6_hasRest_15 : decode cX6_hasRest 15 = .ok (.invokevirtual 160, 3) := by decide +kernel
theorem dX6_hasRest_18 : decode cX6_hasRest 18 = .ok (.istore 5, 2) := by decide +kernel
theorem dX6_hasRest_20 : decode cX6_hasRest 20 = .ok (.iload 4, 2) := by decide +kernel
theorem dX6_hasRest_22 : decode cX6_hasRest 22 = .ok (.iconst (-1), 1) := by decide +kernel
theorem dX6_hasRest_23 : decode cX6_hasRest 23 = .ok (.if_icmp .eq 17, 3) := by decide +kernel
theorem dX6_hasRest_26 : decode cX6_hasRest 26 = .ok (.aload_n 0, 1) := by decide +kernel
theorem dX6_hasRest_27 : decode cX6_hasRest 27 = .ok (.iload 4, 2) := by decide +kernel
theorem dX6_hasRest_29 : decode cX6_hasRest 29 = .ok (.iload_n 3, 1) := by decide +kernel
theorem dX6_hasRest_30 : decode cX6_hasRest 30 = .ok (.invokevirtual 163, 3) := by decide +kernel
theorem dX6_hasRest_33 : decode cX6_hasRest 33 = .ok (.aload_n 0, 1) := by decide +kernel
theorem dX6_hasRest_34 : decode cX6_hasRest 34 = .ok (.getfield 41, 3) := by decide +kernel
theorem dX6_hasRest_37 : decode cX6_hasRest 37 = .ok (.if_icmp .lt 27, 3) := by decide +kernel
theorem dX6_hasRest_40 : decode cX6_hasRest 40 = .ok (.iload 5, 2) := by decide +kernel
theorem dX6_hasRest_42 : decode cX6_hasRest 42 = .ok (.iconst (-1), 1) := by decide +kernel
theorem dX6_hasRest_43 : decode cX6_hasRest 43 = .ok (.if_icmp .eq 17, 3) := by decide +kernel
theorem dX6_hasRest_46 : decode cX6_hasRest 46 = .ok (.aload_n 0, 1) := by decide +kernel
theorem dX6_hasRest_47 : decode cX6_hasRest 47 = .ok (.iload_n 3, 1) := by decide +kernel
theorem dX6_hasRest_48 : decode cX6_hasRest 48 = .ok (.iload 5, 2) := by decide +kernel
theorem dX6_hasRest_50 : decode cX6_hasRest 50 = .ok (.invokevirtual 163, 3) := by decide +kernel
theorem dX6_hasRest_53 : decode cX6_hasRest 53 = .ok (.aload_n 0, 1) := by decide +kernel
theorem dX6_hasRest_54 : decode cX6_hasRest 54 = .ok (.getfield 41, 3) := by decide +kernel
theorem dX6_hasRest_57 : decode cX6_hasRest 57 = .ok (.if_icmp .lt 7, 3) := by decide +kernel
theorem dX6_hasRest_60 : decode cX6_hasRest 60 = .ok (.iconst 1, 1) := by decide +kernel
theorem dX6_hasRest_61 : decode cX6_hasRest 61 = .ok (.goto 4, 3) := by decide +kernel
theorem dX6_hasRest_64 : decode cX6_hasRest 64 = .ok (.iconst 0, 1) := by decide +kernel
theorem dX6_hasRest_65 : decode cX6_hasRest 65 = .ok (.ireturn, 1) := by decide +kernel
theorem dX6_reasonFor_0 : decode cX6_reasonFor 0 = .ok (.aload_n 0, 1) := by decide +kernel
theorem dX6_reasonFor_1 : decode cX6_reasonFor 1 = .ok (.iload_n 3, 1) := by decide +kernel
theorem dX6_reasonFor_2 : decode cX6_reasonFor 2 = .ok (.invokevirtual 71, 3) := by decide +kernel
theorem dX6_reasonFor_5 : decode cX6_reasonFor 5 = .ok (.pop, 1) := by decide +kernel
theorem dX6_reasonFor_6 : decode cX6_reasonFor 6 = .ok (.aload_n 0, 1) := by decide +kernel
theorem dX6_reasonFor_7 : decode cX6_reasonFor 7 = .ok (.getfield 81, 3) := by decide +kernel
theorem dX6_reasonFor_10 : decode cX6_reasonFor 10 = .ok (.ifCond .ne 5, 3) := by decide +kernel
theorem dX6_reasonFor_13 : decode cX6_reasonFor 13 = .ok (.iconst 1, 1) := by decide +kernel
theorem dX6_reasonFor_14 : decode cX6_reasonFor 14 = .ok (.ireturn, 1) := by decide +kernel
theorem dX6_reasonFor_15 : decode cX6_reasonFor 15 = .ok (.aload_n 0, 1) := by decide +kernel
theorem dX6_reasonFor_16 : decode cX6_reasonFor 16 = .ok (.getfield 106, 3) := by decide +kernel
theorem dX6_reasonFor_19 : decode cX6_reasonFor 19 = .ok (.ifCond .ne 5, 3) := by decide +kernel
theorem dX6_reasonFor_22 : decode cX6_reasonFor 22 = .ok (.iconst 2, 1) := by decide +kernel
theorem dX6_reasonFor_23 : decode cX6_reasonFor 23 = .ok (.ireturn, 1) := by decide +kernel
theorem dX6_reasonFor_24 : decode cX6_reasonFor 24 = .ok (.aload_n 0, 1) := by decide +kernel
theorem dX6_reasonFor_25 : decode cX6_reasonFor 25 = .ok (.getfield 97, 3) := by decide +kernel
theorem dX6_reasonFor_28 : decode cX6_reasonFor 28 = .ok (.istore 4, 2) := by decide +kernel
theorem dX6_reasonFor_30 : decode cX6_reasonFor 30 = .ok (.aload_n 0, 1) := by decide +kernel
theorem dX6_reasonFor_31 : decode cX6_reasonFor 31 = .ok (.iload_n 2, 1) := by decide +kernel
theorem dX6_reasonFor_32 : decode cX6_reasonFor 32 = .ok (.iload_n 3, 1) := by decide +kernel
theorem dX6_reasonFor_33 : decode cX6_reasonFor 33 = .ok (.invokevirtual 166, 3) := by decide +kernel
theorem dX6_reasonFor_36 : decode cX6_reasonFor 36 = .ok (.ifCond .eq 5, 3) := by decide +kernel
theorem dX6_reasonFor_39 : decode cX6_reasonFor 39 = .ok (.iconst 3, 1) := by decide +kernel
theorem dX6_reasonFor_40 : decode cX6_reasonFor 40 = .ok (.ireturn, 1) := by decide +kernel
theorem dX6_reasonFor_41 : decode cX6_reasonFor 41 = .ok (.aload_n 0, 1) := by decide +kernel
theorem dX6_reasonFor_42 : decode cX6_reasonFor 42 = .ok (.iload_n 1, 1) := by decide +kernel
theorem dX6_reasonFor_43 : decode cX6_reasonFor 43 = .ok (.iload_n 2, 1) := by decide +kernel
theorem dX6_reasonFor_44 : decode cX6_reasonFor 44 = .ok (.invokevirtual 160, 3) := by decide +kernel
theorem dX6_reasonFor_47 : decode cX6_reasonFor 47 = .ok (.iconst (-1), 1) := by decide +kernel
theorem dX6_reasonFor_48 : decode cX6_reasonFor 48 = .ok (.if_icmp .eq 5, 3) := by decide +kernel
theorem dX6_reasonFor_51 : decode cX6_reasonFor 51 = .ok (.iconst 4, 1) := by decide +kernel
theorem dX6_reasonFor_52 : decode cX6_reasonFor 52 = .ok (.ireturn, 1) := by decide +kernel
theorem dX6_reasonFor_53 : decode cX6_reasonFor 53 = .ok (.aload_n 0, 1) := by decide +kernel
theorem dX6_reasonFor_54 : decode cX6_reasonFor 54 = .ok (.iload_n 1, 1) := by decide +kernel
theorem dX6_reasonFor_55 : decode cX6_reasonFor 55 = .ok (.iload_n 2, 1) := by decide +kernel
theorem dX6_reasonFor_56 : decode cX6_reasonFor 56 = .ok (.invokevirtual 169, 3) := by decide +kernel
theorem dX6_reasonFor_59 : decode cX6_reasonFor 59 = .ok (.iconst 5, 1) := by decide +kernel
theorem dX6_reasonFor_60 : decode cX6_reasonFor 60 = .ok (.if_icmp .le 5, 3) := by decide +kernel
theorem dX6_reasonFor_63 : decode cX6_reasonFor 63 = .ok (.iconst 5, 1) := by decide +kernel
theorem dX6_reasonFor_64 : decode cX6_reasonFor 64 = .ok (.ireturn, 1) := by decide +kernel
theorem dX6_reasonFor_65 : decode cX6_reasonFor 65 = .ok (.aload_n 0, 1) := by decide +kernel
theorem dX6_reasonFor_66 : decode cX6_reasonFor 66 = .ok (.iload_n 1, 1) := by decide +kernel
theorem dX6_reasonFor_67 : decode cX6_reasonFor 67 = .ok (.invokevirtual 172, 3) := by decide +kernel
theorem dX6_reasonFor_70 : decode cX6_reasonFor 70 = .ok (.iload 4, 2) := by decide +kernel
theorem dX6_reasonFor_72 : decode cX6_reasonFor 72 = .ok (.iadd, 1) := by decide +kernel
theorem dX6_reasonFor_73 : decode cX6_reasonFor 73 = .ok (.sipush 2880, 3) := by decide +kernel
theorem dX6_reasonFor_76 : decode cX6_reasonFor 76 = .ok (.if_icmp .le 6, 3) := by decide +kernel
theorem dX6_reasonFor_79 : decode cX6_reasonFor 79 = .ok (.bipush 6, 2) := by decide +kernel
theorem dX6_reasonFor_81 : decode cX6_reasonFor 81 = .ok (.ireturn, 1) := by decide +kernel
theorem dX6_reasonFor_82 : decode cX6_reasonFor 82 = .ok (.aload_n 0, 1) := by decide +kernel
theorem dX6_reasonFor_83 : decode cX6_reasonFor 83 = .ok (.iload_n 1, 1) := by decide +kernel
theorem dX6_reasonFor_84 : decode cX6_reasonFor 84 = .ok (.iload_n 2, 1) := by decide +kernel
theorem dX6_reasonFor_85 : decode cX6_reasonFor 85 = .ok (.iload_n 3, 1) := by decide +kernel
theorem dX6_reasonFor_86 : decode cX6_reasonFor 86 = .ok (.invokevirtual 175, 3) := by decide +kernel
theorem dX6_reasonFor_89 : decode cX6_reasonFor 89 = .ok (.ifCond .eq 7, 3) := by decide +kernel
theorem dX6_reasonFor_92 : decode cX6_reasonFor 92 = .ok (.iconst 0, 1) := by decide +kernel
theorem dX6_reasonFor_93 : decode cX6_reasonFor 93 = .ok (.goto 5, 3) := by decide +kernel
theorem dX6_reasonFor_96 : decode cX6_reasonFor 96 = .ok (.bipush 7, 2) := by decide +kernel
theorem dX6_reasonFor_98 : decode cX6_reasonFor 98 = .ok (.ireturn, 1) := by decide +kernel
theorem dX6_reason_0 : decode cX6_reason 0 = .ok (.aload_n 0, 1) := by decide +kernel
theorem dX6_reason_1 : decode cX6_reason 1 = .ok (.iconst 0, 1) := by decide +kernel
theorem dX6_reason_2 : decode cX6_reason 2 = .ok (.putfield 47, 3) := by decide +kernel
theorem dX6_reason_5 : decode cX6_reason 5 = .ok (.aload_n 0, 1) := by decide +kernel
theorem dX6_reason_6 : decode cX6_reason 6 = .ok (.iload_n 1, 1) := by decide +kernel
theorem dX6_reason_7 : decode cX6_reason 7 = .ok (.invokevirtual 178, 3) := by decide +kernel
theorem dX6_reason_10 : decode cX6_reason 10 = .ok (.ifCond .eq 28, 3) := by decide +kernel
theorem dX6_reason_13 : decode cX6_reason 13 = .ok (.iload_n 2, 1) := by decide +kernel
theorem dX6_reason_14 : decode cX6_reason 14 = .ok (.invokestatic 157, 3) := by decide +kernel
theorem dX6_reason_17 : decode cX6_reason 17 = .ok (.ifCond .eq 21, 3) := by decide +kernel
theorem dX6_reason_20 : decode cX6_reason 20 = .ok (.aload_n 0, 1) := by decide +kernel
theorem dX6_reason_21 : decode cX6_reason 21 = .ok (.iload_n 3, 1) := by decide +kernel
theorem dX6_reason_22 : decode cX6_reason 22 = .ok (.invokevirtual 126, 3) := by decide +kernel
theorem dX6_reason_25 : decode cX6_reason 25 = .ok (.ifCond .eq 13, 3) := by decide +kernel
theorem dX6_reason_28 : decode cX6_reason 28 = .ok (.aload_n 0, 1) := by decide +kernel
theorem dX6_reason_29 : decode cX6_reason 29 = .ok (.iload_n 1, 1) := by decide +kernel
theorem dX6_reason_30 : decode cX6_reason 30 = .ok (.iload_n 2, 1) := by decide +kernel
theorem dX6_reason_31 : decode cX6_reason 31 = .ok (.iload_n 3, 1) := by decide +kernel
theorem dX6_reason_32 : decode cX6_reason 32 = .ok (.invokevirtual 181, 3) := by decide +kernel
theorem dX6_reason_35 : decode cX6_reason 35 = .ok (.goto 8, 3) := by decide +kernel
theorem dX6_reason_38 : decode cX6_reason 38 = .ok (.aload_n 0, 1) := by decide +kernel
theorem dX6_reason_39 : decode cX6_reason 39 = .ok (.iconst 1, 1) := by decide +kernel
theorem dX6_reason_40 : decode cX6_reason 40 = .ok (.invokevirtual 64, 3) := by decide +kernel
theorem dX6_reason_43 : decode cX6_reason 43 = .ok (.ireturn, 1) := by decide +kernel
theorem dX6_give_0 : decode cX6_give 0 = .ok (.aload_n 0, 1) := by decide +kernel
theorem dX6_give_1 : decode cX6_give 1 = .ok (.iconst 0, 1) := by decide +kernel
theorem dX6_give_2 : decode cX6_give 2 = .ok (.putfield 47, 3) := by decide +kernel
theorem dX6_give_5 : decode cX6_give 5 = .ok (.aload_n 0, 1) := by decide +kernel
theorem dX6_give_6 : decode cX6_give 6 = .ok (.iload_n 1, 1) := by decide +kernel
theorem dX6_give_7 : decode cX6_give 7 = .ok (.invokevirtual 178, 3) := by decide +kernel
theorem dX6_give_10 : decode cX6_give 10 = .ok (.ifCond .eq 18, 3) := by decide +kernel
theorem dX6_give_13 : decode cX6_give 13 = .ok (.iload_n 2, 1) := by decide +kernel
theorem dX6_give_14 : decode cX6_give 14 = .ok (.invokestatic 157, 3) := by decide +kernel
theorem dX6_give_17 : decode cX6_give 17 = .ok (.ifCond .eq 11, 3) := by decide +kernel
theorem dX6_give_20 : decode cX6_give 20 = .ok (.aload_n 0, 1) := by decide +kernel
theorem dX6_give_21 : decode cX6_give 21 = .ok (.iload_n 3, 1) := by decide +kernel
theorem dX6_give_22 : decode cX6_give 22 = .ok (.invokevirtual 126, 3) := by decide +kernel
theorem dX6_give_25 : decode cX6_give 25 = .ok (.ifCond .ne 9, 3) := by decide +kernel
theorem dX6_give_28 : decode cX6_give 28 = .ok (.aload_n 0, 1) := by decide +kernel
theorem dX6_give_29 : decode cX6_give 29 = .ok (.iconst 1, 1) := by decide +kernel
theorem dX6_give_30 : decode cX6_give 30 = .ok (.invokevirtual 64, 3) := by decide +kernel
theorem dX6_give_33 : decode cX6_give 33 = .ok (.ireturn, 1) := by decide +kernel
theorem dX6_give_34 : decode cX6_give 34 = .ok (.aload_n 0, 1) := by decide +kernel
theorem dX6_give_35 : decode cX6_give 35 = .ok (.iload_n 1, 1) := by decide +kernel
theorem dX6_give_36 : decode cX6_give 36 = .ok (.iload_n 2, 1) := by decide +kernel
theorem dX6_give_37 : decode cX6_give 37 = .ok (.iload_n 3, 1) := by decide +kernel
theorem dX6_give_38 : decode cX6_give 38 = .ok (.invokevirtual 181, 3) := by decide +kernel
theorem dX6_give_41 : decode cX6_give 41 = .ok (.ifCond .eq 9, 3) := by decide +kernel
theorem dX6_give_44 : decode cX6_give 44 = .ok (.aload_n 0, 1) := by decide +kernel
theorem dX6_give_45 : decode cX6_give 45 = .ok (.iconst 2, 1) := by decide +kernel
theorem dX6_give_46 : decode cX6_give 46 = .ok (.invokevirtual 64, 3) := by decide +kernel
theorem dX6_give_49 : decode cX6_give 49 = .ok (.ireturn, 1) := by decide +kernel
theorem dX6_give_50 : decode cX6_give 50 = .ok (.aload_n 0, 1) := by decide +kernel
theorem dX6_give_51 : decode cX6_give 51 = .ok (.getfield 28, 3) := by decide +kernel
theorem dX6_give_54 : decode cX6_give 54 = .ok (.bipush 7, 2) := by decide +kernel
theorem dX6_give_56 : decode cX6_give 56 = .ok (.iload_n 1, 1) := by decide +kernel
theorem dX6_give_57 : decode cX6_give 57 = .ok (.imul, 1) := by decide +kernel
theorem dX6_give_58 : decode cX6_give 58 = .ok (.iload_n 2, 1) := by decide +kernel
theorem dX6_give_59 : decode cX6_give 59 = .ok (.iadd, 1) := by decide +kernel
theorem dX6_give_60 : decode cX6_give 60 = .ok (.iload_n 3, 1) := by decide +kernel
theorem dX6_give_61 : decode cX6_give 61 = .ok (.iastore, 1) := by decide +kernel
theorem dX6_give_62 : decode cX6_give 62 = .ok (.aload_n 0, 1) := by decide +kernel
theorem dX6_give_63 : decode cX6_give 63 = .ok (.iload_n 1, 1) := by decide +kernel
theorem dX6_give_64 : decode cX6_give 64 = .ok (.invokevirtual 172, 3) := by decide +kernel
theorem dX6_give_67 : decode cX6_give 67 = .ok (.ireturn, 1) := by decide +kernel
theorem dX6_takeBack_0 : decode cX6_takeBack 0 = .ok (.aload_n 0, 1) := by decide +kernel
theorem dX6_takeBack_1 : decode cX6_takeBack 1 = .ok (.iconst 0, 1) := by decide +kernel
theorem dX6_takeBack_2 : decode cX6_takeBack 2 = .ok (.putfield 47, 3) := by decide +kernel
theorem dX6_takeBack_5 : decode cX6_takeBack 5 = .ok (.aload_n 0, 1) := by decide +kernel
theorem dX6_takeBack_6 : decode cX6_takeBack 6 = .ok (.iload_n 1, 1) := by decide +kernel
theorem dX6_takeBack_7 : decode cX6_takeBack 7 = .ok (.invokevirtual 178, 3) := by decide +kernel
theorem dX6_takeBack_10 : decode cX6_takeBack 10 = .ok (.ifCond .eq 10, 3) := by decide +kernel
theorem dX6_takeBack_13 : decode cX6_takeBack 13 = .ok (.iload_n 2, 1) := by decide +kernel
theorem dX6_takeBack_14 : decode cX6_takeBack 14 = .ok (.invokestatic 157, 3) := by decide +kernel
theorem dX6_takeBack_17 : decode cX6_takeBack 17 = .ok (.ifCond .ne 9, 3) := by decide +kernel
theorem dX6_takeBack_20 : decode cX6_takeBack 20 = .ok (.aload_n 0, 1) := by decide +kernel
theorem dX6_takeBack_21 : decode cX6_takeBack 21 = .ok (.iconst 1, 1) := by decide +kernel
theorem dX6_takeBack_22 : decode cX6_takeBack 22 = .ok (.invokevirtual 64, 3) := by decide +kernel
theorem dX6_takeBack_25 : decode cX6_takeBack 25 = .ok (.ireturn, 1) := by decide +kernel
theorem dX6_takeBack_26 : decode cX6_takeBack 26 = .ok (.aload_n 0, 1) := by decide +kernel
theorem dX6_takeBack_27 : decode cX6_takeBack 27 = .ok (.iload_n 1, 1) := by decide +kernel
theorem dX6_takeBack_28 : decode cX6_takeBack 28 = .ok (.iload_n 2, 1) := by decide +kernel
theorem dX6_takeBack_29 : decode cX6_takeBack 29 = .ok (.invokevirtual 160, 3) := by decide +kernel
theorem dX6_takeBack_32 : decode cX6_takeBack 32 = .ok (.istore_n 3, 1) := by decide +kernel
theorem dX6_takeBack_33 : decode cX6_takeBack 33 = .ok (.iload_n 3, 1) := by decide +kernel
theorem dX6_takeBack_34 : decode cX6_takeBack 34 = .ok (.iconst (-1), 1) := by decide +kernel
theorem dX6_takeBack_35 : decode cX6_takeBack 35 = .ok (.if_icmp .ne 9, 3) := by decide +kernel
theorem dX6_takeBack_38 : decode cX6_takeBack 38 = .ok (.aload_n 0, 1) := by decide +kernel
theorem dX6_takeBack_39 : decode cX6_takeBack 39 = .ok (.iconst 2, 1) := by decide +kernel
theorem dX6_takeBack_40 : decode cX6_takeBack 40 = .ok (.invokevirtual 64, 3) := by decide +kernel
theorem dX6_takeBack_43 : decode cX6_takeBack 43 = .ok (.ireturn, 1) := by decide +kernel
theorem dX6_takeBack_44 : decode cX6_takeBack 44 = .ok (.aload_n 0, 1) := by decide +kernel
theorem dX6_takeBack_45 : decode cX6_takeBack 45 = .ok (.getfield 28, 3) := by decide +kernel
theorem dX6_takeBack_48 : decode cX6_takeBack 48 = .ok (.bipush 7, 2) := by decide +kernel
theorem dX6_takeBack_50 : decode cX6_takeBack 50 = .ok (.iload_n 1, 1) := by decide +kernel
theorem dX6_takeBack_51 : decode cX6_takeBack 51 = .ok (.imul, 1) := by decide +kernel
theorem dX6_takeBack_52 : decode cX6_takeBack 52 = .ok (.iload_n 2, 1) := by decide +kernel
theorem dX6_takeBack_53 : decode cX6_takeBack 53 = .ok (.iadd, 1) := by decide +kernel
theorem dX6_takeBack_54 : decode cX6_takeBack 54 = .ok (.iconst (-1), 1) := by decide +kernel
theorem dX6_takeBack_55 : decode cX6_takeBack 55 = .ok (.iastore, 1) := by decide +kernel
theorem dX6_takeBack_56 : decode cX6_takeBack 56 = .ok (.iload_n 3, 1) := by decide +kernel
theorem dX6_takeBack_57 : decode cX6_takeBack 57 = .ok (.ireturn, 1) := by decide +kernel
theorem dX6_given_0 : decode cX6_given 0 = .ok (.aload_n 0, 1) := by decide +kernel
theorem dX6_given_1 : decode cX6_given 1 = .ok (.iconst 0, 1) := by decide +kernel
theorem dX6_given_2 : decode cX6_given 2 = .ok (.putfield 47, 3) := by decide +kernel
theorem dX6_given_5 : decode cX6_given 5 = .ok (.aload_n 0, 1) := by decide +kernel
theorem dX6_given_6 : decode cX6_given 6 = .ok (.iload_n 1, 1) := by decide +kernel
theorem dX6_given_7 : decode cX6_given 7 = .ok (.invokevirtual 178, 3) := by decide +kernel
theorem dX6_given_10 : decode cX6_given 10 = .ok (.ifCond .eq 19, 3) := by decide +kernel
theorem dX6_given_13 : decode cX6_given 13 = .ok (.iload_n 2, 1) := by decide +kernel
theorem dX6_given_14 : decode cX6_given 14 = .ok (.invokestatic 157, 3) := by decide +kernel
theorem dX6_given_17 : decode cX6_given 17 = .ok (.ifCond .eq 12, 3) := by decide +kernel
theorem dX6_given_20 : decode cX6_given 20 = .ok (.aload_n 0, 1) := by decide +kernel
theorem dX6_given_21 : decode cX6_given 21 = .ok (.iload_n 1, 1) := by decide +kernel
theorem dX6_given_22 : decode cX6_given 22 = .ok (.iload_n 2, 1) := by decide +kernel
theorem dX6_given_23 : decode cX6_given 23 = .ok (.invokevirtual 160, 3) := by decide +kernel
theorem dX6_given_26 : decode cX6_given 26 = .ok (.goto 8, 3) := by decide +kernel
theorem dX6_given_29 : decode cX6_given 29 = .ok (.aload_n 0, 1) := by decide +kernel
theorem dX6_given_30 : decode cX6_given 30 = .ok (.iconst 1, 1) := by decide +kernel
theorem dX6_given_31 : decode cX6_given 31 = .ok (.invokevirtual 64, 3) := by decide +kernel
theorem dX6_given_34 : decode cX6_given 34 = .ok (.ireturn, 1) := by decide +kernel
theorem dX6_fill_0 : decode cX6_fill 0 = .ok (.aload_n 0, 1) := by decide +kernel
theorem dX6_fill_1 : decode cX6_fill 1 = .ok (.iconst 0, 1) := by decide +kernel
theorem dX6_fill_2 : decode cX6_fill 2 = .ok (.putfield 47, 3) := by decide +kernel
theorem dX6_fill_5 : decode cX6_fill 5 = .ok (.iload_n 1, 1) := by decide +kernel
theorem dX6_fill_6 : decode cX6_fill 6 = .ok (.invokestatic 157, 3) := by decide +kernel
theorem dX6_fill_9 : decode cX6_fill 9 = .ok (.ifCond .ne 9, 3) := by decide +kernel
theorem dX6_fill_12 : decode cX6_fill 12 = .ok (.aload_n 0, 1) := by decide +kernel
theorem dX6_fill_13 : decode cX6_fill 13 = .ok (.iconst 1, 1) := by decide +kernel
theorem dX6_fill_14 : decode cX6_fill 14 = .ok (.invokevirtual 64, 3) := by decide +kernel
theorem dX6_fill_17 : decode cX6_fill 17 = .ok (.ireturn, 1) := by decide +kernel
theorem dX6_fill_18 : decode cX6_fill 18 = .ok (.bipush 12, 2) := by decide +kernel
theorem dX6_fill_20 : decode cX6_fill 20 = .ok (.newarray .boolean, 2) := by decide +kernel
theorem dX6_fill_22 : decode cX6_fill 22 = .ok (.astore_n 2, 1) := by decide +kernel
theorem dX6_fill_23 : decode cX6_fill 23 = .ok (.iconst 0, 1) := by decide +kernel
theorem dX6_fill_24 : decode cX6_fill 24 = .ok (.istore_n 3, 1) := by decide +kernel
theorem dX6_fill_25 : decode cX6_fill 25 = .ok (.iconst 0, 1) := by decide +kernel
theorem dX6_fill_26 : decode cX6_fill 26 = .ok (.istore 4, 2) := by decide +kernel
theorem dX6_fill_28 : decode cX6_fill 28 = .ok (.iload 4, 2) := by decide +kernel
theorem dX6_fill_30 : decode cX6_fill 30 = .ok (.aload_n 0, 1) := by decide +kernel
theorem dX6_fill_31 : decode cX6_fill 31 = .ok (.getfield 57, 3) := by decide +kernel
theorem dX6_fill_34 : decode cX6_fill 34 = .ok (.if_icmp .ge 190, 3) := by decide +kernel
theorem dX6_fill_37 : decode cX6_fill 37 = .ok (.iconst (-1), 1) := by decide +kernel
theorem dX6_fill_38 : decode cX6_fill 38 = .ok (.istore 5, 2) := by decide +kernel
theorem dX6_fill_40 : decode cX6_fill 40 = .ok (.iconst 0, 1) := by decide +kernel
theorem dX6_fill_41 : decode cX6_fill 41 = .ok (.istore 6, 2) := by decide +kernel
theorem dX6_fill_43 : decode cX6_fill 43 = .ok (.iconst 0, 1) := by decide +kernel
theorem dX6_fill_44 : decode cX6_fill 44 = .ok (.istore 7, 2) := by decide +kernel
theorem dX6_fill_46 : decode cX6_fill 46 = .ok (.iload 7, 2) := by decide +kernel
theorem dX6_fill_48 : decode cX6_fill 48 = .ok (.aload_n 0, 1) := by decide +kernel
theorem dX6_fill_49 : decode cX6_fill 49 = .ok (.getfield 57, 3) := by decide +kernel
theorem dX6_fill_52 : decode cX6_fill 52 = .ok (.if_icmp .ge 68, 3) := by decide +kernel
theorem dX6_fill_55 : decode cX6_fill 55 = .ok (.aload_n 0, 1) := by decide +kernel
theorem dX6_fill_56 : decode cX6_fill 56 = .ok (.iload 7, 2) := by decide +kernel
theorem dX6_fill_58 : decode cX6_fill 58 = .ok (.invokevirtual 71, 3) := by decide +kernel
theorem dX6_fill_61 : decode cX6_fill 61 = .ok (.pop, 1) := by decide +kernel
theorem dX6_fill_62 : decode cX6_fill 62 = .ok (.aload_n 2, 1) := by decide +kernel
theorem dX6_fill_63 : decode cX6_fill 63 = .ok (.iload 7, 2) := by decide +kernel
theorem dX6_fill_65 : decode cX6_fill 65 = .ok (.baload, 1) := by decide +kernel
theorem dX6_fill_66 : decode cX6_fill 66 = .ok (.ifCond .ne 48, 3) := by decide +kernel
theorem dX6_fill_69 : decode cX6_fill 69 = .ok (.aload_n 0, 1) := by decide +kernel
theorem dX6_fill_70 : decode cX6_fill 70 = .ok (.getfield 81, 3) := by decide +kernel
theorem dX6_fill_73 : decode cX6_fill 73 = .ok (.ifCond .eq 41, 3) := by decide +kernel
theorem dX6_fill_76 : decode cX6_fill 76 = .ok (.aload_n 0, 1) := by decide +kernel
theorem dX6_fill_77 : decode cX6_fill 77 = .ok (.iload_n 1, 1) := by decide +kernel
theorem dX6_fill_78 : decode cX6_fill 78 = .ok (.iload 7, 2) := by decide +kernel
theorem dX6_fill_80 : decode cX6_fill 80 = .ok (.invokevirtual 166, 3) := by decide +kernel
theorem dX6_fill_83 : decode cX6_fill 83 = .ok (.ifCond .ne 31, 3) := by decide +kernel
theorem dX6_fill_86 : decode cX6_fill 86 = .ok (.iload 5, 2) := by decide +kernel
theorem dX6_fill_88 : decode cX6_fill 88 = .ok (.iconst (-1), 1) := by decide +kernel
theorem dX6_fill_89 : decode cX6_fill 89 = .ok (.if_icmp .eq 15, 3) := by decide +kernel
theorem dX6_fill_92 : decode cX6_fill 92 = .ok (.aload_n 0, 1) := by decide +kernel
theorem dX6_fill_93 : decode cX6_fill 93 = .ok (.getfield 88, 3) := by decide +kernel
theorem dX6_fill_96 : decode cX6_fill 96 = .ok (.iload 6, 2) := by decide +kernel
theorem dX6_fill_98 : decode cX6_fill 98 = .ok (.if_icmp .lt 6, 3) := by decide +kernel
theorem dX6_fill_101 : decode cX6_fill 101 = .ok (.goto 13, 3) := by decide +kernel
theorem dX6_fill_104 : decode cX6_fill 104 = .ok (.iload 7, 2) := by decide +kernel
theorem dX6_fill_106 : decode cX6_fill 106 = .ok (.istore 5, 2) := by decide +kernel
theorem dX6_fill_108 : decode cX6_fill 108 = .ok (.aload_n 0, 1) := by decide +kernel
theorem dX6_fill_109 : decode cX6_fill 109 = .ok (.getfield 88, 3) := by decide +kernel
theorem dX6_fill_112 : decode cX6_fill 112 = .ok (.istore 6, 2) := by decide +kernel
theorem dX6_fill_114 : decode cX6_fill 114 = .ok (.iinc 7 1, 3) := by decide +kernel
theorem dX6_fill_117 : decode cX6_fill 117 = .ok (.goto (-71), 3) := by decide +kernel
theorem dX6_fill_120 : decode cX6_fill 120 = .ok (.iload 5, 2) := by decide +kernel
theorem dX6_fill_122 : decode cX6_fill 122 = .ok (.iconst (-1), 1) := by decide +kernel
theorem dX6_fill_123 : decode cX6_fill 123 = .ok (.if_icmp .ne 6, 3) := by decide +kernel
theorem dX6_fill_126 : decode cX6_fill 126 = .ok (.goto 98, 3) := by decide +kernel
theorem dX6_fill_129 : decode cX6_fill 129 = .ok (.aload_n 2, 1) := by decide +kernel
theorem dX6_fill_130 : decode cX6_fill 130 = .ok (.iload 5, 2) := by decide +kernel
theorem dX6_fill_132 : decode cX6_fill 132 = .ok (.iconst 1, 1) := by decide +kernel
theorem dX6_fill_133 : decode cX6_fill 133 = .ok (.bastore, 1) := by decide +kernel
theorem dX6_fill_134 : decode cX6_fill 134 = .ok (.iconst (-1), 1) := by decide +kernel
theorem dX6_fill_135 : decode cX6_fill 135 = .ok (.istore 7, 2) := by decide +kernel
theorem dX6_fill_137 : decode cX6_fill 137 = .ok (.iconst 0, 1) := by decide +kernel
theorem dX6_fill_138 : decode cX6_fill 138 = .ok (.istore 8, 2) := by decide +kernel
theorem dX6_fill_140 : decode cX6_fill 140 = .ok (.iload 8, 2) := by decide +kernel
theorem dX6_fill_142 : decode cX6_fill 142 = .ok (.aload_n 0, 1) := by decide +kernel
theorem dX6_fill_143 : decode cX6_fill 143 = .ok (.getfield 74, 3) := by decide +kernel
theorem dX6_fill_146 : decode cX6_fill 146 = .ok (.if_icmp .ge 46, 3) := by decide +kernel
theorem dX6_fill_149 : decode cX6_fill 149 = .ok (.aload_n 0, 1) := by decide +kernel
theorem dX6_fill_150 : decode cX6_fill 150 = .ok (.iload 8, 2) := by decide +kernel
theorem dX6_fill_152 : decode cX6_fill 152 = .ok (.iload_n 1, 1) := by decide +kernel
theorem dX6_fill_153 : decode cX6_fill 153 = .ok (.iload 5, 2) := by decide +kernel
theorem dX6_fill_155 : decode cX6_fill 155 = .ok (.invokevirtual 181, 3) := by decide +kernel
theorem dX6_fill_158 : decode cX6_fill 158 = .ok (.ifCond .ne 28, 3) := by decide +kernel
theorem dX6_fill_161 : decode cX6_fill 161 = .ok (.iload 7, 2) := by decide +kernel
theorem dX6_fill_163 : decode cX6_fill 163 = .ok (.iconst (-1), 1) := by decide +kernel
theorem dX6_fill_164 : decode cX6_fill 164 = .ok (.if_icmp .eq 18, 3) := by decide +kernel
theorem dX6_fill_167 : decode cX6_fill 167 = .ok (.aload_n 0, 1) := by decide +kernel
theorem dX6_fill_168 : decode cX6_fill 168 = .ok (.iload 8, 2) := by decide +kernel
theorem dX6_fill_170 : decode cX6_fill 170 = .ok (.invokevirtual 172, 3) := by decide +kernel
theorem dX6_fill_173 : decode cX6_fill 173 = .ok (.aload_n 0, 1) := by decide +kernel
theorem dX6_fill_174 : decode cX6_fill 174 = .ok (.iload 7, 2) := by decide +kernel
theorem dX6_fill_176 : decode cX6_fill 176 = .ok (.invokevirtual 172, 3) := by decide +kernel
theorem dX6_fill_179 : decode cX6_fill 179 = .ok (.if_icmp .ge 7, 3) := by decide +kernel
theorem dX6_fill_182 : decode cX6_fill 182 = .ok (.iload 8, 2) := by decide +kernel
theorem dX6_fill_184 : decode cX6_fill 184 = .ok (.istore 7, 2) := by decide +kernel
theorem dX6_fill_186 : decode cX6_fill 186 = .ok (.iinc 8 1, 3) := by decide +kernel
theorem dX6_fill_189 : decode cX6_fill 189 = .ok (.goto (-49), 3) := by decide +kernel
theorem dX6_fill_192 : decode cX6_fill 192 = .ok (.iload 7, 2) := by decide +kernel
theorem dX6_fill_194 : decode cX6_fill 194 = .ok (.iconst (-1), 1) := by decide +kernel
theorem dX6_fill_195 : decode cX6_fill 195 = .ok (.if_icmp .ne 9, 3) := by decide +kernel
theorem dX6_fill_198 : decode cX6_fill 198 = .ok (.iinc 3 1, 3) := by decide +kernel
theorem dX6_fill_201 : decode cX6_fill 201 = .ok (.goto 17, 3) := by decide +kernel
theorem dX6_fill_204 : decode cX6_fill 204 = .ok (.aload_n 0, 1) := by decide +kernel
theorem dX6_fill_205 : decode cX6_fill 205 = .ok (.getfield 28, 3) := by decide +kernel
theorem dX6_fill_208 : decode cX6_fill 208 = .ok (.bipush 7, 2) := by decide +kernel
theorem dX6_fill_210 : decode cX6_fill 210 = .ok (.iload 7, 2) := by decide +kernel
theorem dX6_fill_212 : decode cX6_fill 212 = .ok (.imul, 1) := by decide +kernel
theorem dX6_fill_213 : decode cX6_fill 213 = .ok (.iload_n 1, 1) := by decide +kernel
theorem dX6_fill_214 : decode cX6_fill 214 = .ok (.iadd, 1) := by decide +kernel
theorem dX6_fill_215 : decode cX6_fill 215 = .ok (.iload 5, 2) := by decide +kernel
theorem dX6_fill_217 : decode cX6_fill 217 = .ok (.iastore, 1) := by decide +kernel
theorem dX6_fill_218 : decode cX6_fill 218 = .ok (.iinc 4 1, 3) := by decide +kernel
theorem dX6_fill_221 : decode cX6_fill 221 = .ok (.goto (-193), 3) := by decide +kernel
theorem dX6_fill_224 : decode cX6_fill 224 = .ok (.iload_n 3, 1) := by decide +kernel
theorem dX6_fill_225 : decode cX6_fill 225 = .ok (.ireturn, 1) := by decide +kernel
theorem dX6_week_0 : decode cX6_week 0 = .ok (.aload_n 0, 1) := by decide +kernel
theorem dX6_week_1 : decode cX6_week 1 = .ok (.iconst 0, 1) := by decide +kernel
theorem dX6_week_2 : decode cX6_week 2 = .ok (.putfield 47, 3) := by decide +kernel
theorem dX6_week_5 : decode cX6_week 5 = .ok (.aload_n 0, 1) := by decide +kernel
theorem dX6_week_6 : decode cX6_week 6 = .ok (.iload_n 1, 1) := by decide +kernel
theorem dX6_week_7 : decode cX6_week 7 = .ok (.invokevirtual 178, 3) := by decide +kernel
theorem dX6_week_10 : decode cX6_week 10 = .ok (.ifCond .eq 11, 3) := by decide +kernel
theorem dX6_week_13 : decode cX6_week 13 = .ok (.aload_n 0, 1) := by decide +kernel
theorem dX6_week_14 : decode cX6_week 14 = .ok (.iload_n 1, 1) := by decide +kernel
theorem dX6_week_15 : decode cX6_week 15 = .ok (.invokevirtual 172, 3) := by decide +kernel
theorem dX6_week_18 : decode cX6_week 18 = .ok (.goto 8, 3) := by decide +kernel
theorem dX6_week_21 : decode cX6_week 21 = .ok (.aload_n 0, 1) := by decide +kernel
theorem dX6_week_22 : decode cX6_week 22 = .ok (.iconst 1, 1) := by decide +kernel
theorem dX6_week_23 : decode cX6_week 23 = .ok (.invokevirtual 64, 3) := by decide +kernel
theorem dX6_week_26 : decode cX6_week 26 = .ok (.ireturn, 1) := by decide +kernel
theorem dX6_rest_0 : decode cX6_rest 0 = .ok (.aload_n 0, 1) := by decide +kernel
theorem dX6_rest_1 : decode cX6_rest 1 = .ok (.iconst 0, 1) := by decide +kernel
theorem dX6_rest_2 : decode cX6_rest 2 = .ok (.putfield 47, 3) := by decide +kernel
theorem dX6_rest_5 : decode cX6_rest 5 = .ok (.aload_n 0, 1) := by decide +kernel
theorem dX6_rest_6 : decode cX6_rest 6 = .ok (.iload_n 1, 1) := by decide +kernel
theorem dX6_rest_7 : decode cX6_rest 7 = .ok (.invokevirtual 178, 3) := by decide +kernel
theorem dX6_rest_10 : decode cX6_rest 10 = .ok (.ifCond .eq 13, 3) := by decide +kernel
theorem dX6_rest_13 : decode cX6_rest 13 = .ok (.iload_n 2, 1) := by decide +kernel
theorem dX6_rest_14 : decode cX6_rest 14 = .ok (.iconst 1, 1) := by decide +kernel
theorem dX6_rest_15 : decode cX6_rest 15 = .ok (.bipush 6, 2) := by decide +kernel
theorem dX6_rest_17 : decode cX6_rest 17 = .ok (.invokestatic 53, 3) := by decide +kernel
theorem dX6_rest_20 : decode cX6_rest 20 = .ok (.ifCond .ne 9, 3) := by decide +kernel
theorem dX6_rest_23 : decode cX6_rest 23 = .ok (.aload_n 0, 1) := by decide +kernel
theorem dX6_rest_24 : decode cX6_rest 24 = .ok (.iconst 1, 1) := by decide +kernel
theorem dX6_rest_25 : decode cX6_rest 25 = .ok (.invokevirtual 64, 3) := by decide +kernel
theorem dX6_rest_28 : decode cX6_rest 28 = .ok (.ireturn, 1) := by decide +kernel
theorem dX6_rest_29 : decode cX6_rest 29 = .ok (.aload_n 0, 1) := by decide +kernel
theorem dX6_rest_30 : decode cX6_rest 30 = .ok (.iload_n 1, 1) := by decide +kernel
theorem dX6_rest_31 : decode cX6_rest 31 = .ok (.iload_n 2, 1) := by decide +kernel
theorem dX6_rest_32 : decode cX6_rest 32 = .ok (.iconst 1, 1) := by decide +kernel
theorem dX6_rest_33 : decode cX6_rest 33 = .ok (.isub, 1) := by decide +kernel
theorem dX6_rest_34 : decode cX6_rest 34 = .ok (.invokevirtual 160, 3) := by decide +kernel
theorem dX6_rest_37 : decode cX6_rest 37 = .ok (.iconst (-1), 1) := by decide +kernel
theorem dX6_rest_38 : decode cX6_rest 38 = .ok (.if_icmp .eq 13, 3) := by decide +kernel
theorem dX6_rest_41 : decode cX6_rest 41 = .ok (.aload_n 0, 1) := by decide +kernel
theorem dX6_rest_42 : decode cX6_rest 42 = .ok (.iload_n 1, 1) := by decide +kernel
theorem dX6_rest_43 : decode cX6_rest 43 = .ok (.iload_n 2, 1) := by decide +kernel
theorem dX6_rest_44 : decode cX6_rest 44 = .ok (.invokevirtual 160, 3) := by decide +kernel
theorem dX6_rest_47 : decode cX6_rest 47 = .ok (.iconst (-1), 1) := by decide +kernel
theorem dX6_rest_48 : decode cX6_rest 48 = .ok (.if_icmp .ne 7, 3) := by decide +kernel
theorem dX6_rest_51 : decode cX6_rest 51 = .ok (.iconst (-1), 1) := by decide +kernel
theorem dX6_rest_52 : decode cX6_rest 52 = .ok (.goto 21, 3) := by decide +kernel
theorem dX6_rest_55 : decode cX6_rest 55 = .ok (.aload_n 0, 1) := by decide +kernel
theorem dX6_rest_56 : decode cX6_rest 56 = .ok (.aload_n 0, 1) := by decide +kernel
theorem dX6_rest_57 : decode cX6_rest 57 = .ok (.iload_n 1, 1) := by decide +kernel
theorem dX6_rest_58 : decode cX6_rest 58 = .ok (.iload_n 2, 1) := by decide +kernel
theorem dX6_rest_59 : decode cX6_rest 59 = .ok (.iconst 1, 1) := by decide +kernel
theorem dX6_rest_60 : decode cX6_rest 60 = .ok (.isub, 1) := by decide +kernel
theorem dX6_rest_61 : decode cX6_rest 61 = .ok (.invokevirtual 160, 3) := by decide +kernel
theorem dX6_rest_64 : decode cX6_rest 64 = .ok (.aload_n 0, 1) := by decide +kernel
theorem dX6_rest_65 : decode cX6_rest 65 = .ok (.iload_n 1, 1) := by decide +kernel
theorem dX6_rest_66 : decode cX6_rest 66 = .ok (.iload_n 2, 1) := by decide +kernel
theorem dX6_rest_67 : decode cX6_rest 67 = .ok (.invokevirtual 160, 3) := by decide +kernel
theorem dX6_rest_70 : decode cX6_rest 70 = .ok (.invokevirtual 163, 3) := by decide +kernel
theorem dX6_rest_73 : decode cX6_rest 73 = .ok (.ireturn, 1) := by decide +kernel
theorem dX6_digest_0 : decode cX6_digest 0 = .ok (.aload_n 0, 1) := by decide +kernel
theorem dX6_digest_1 : decode cX6_digest 1 = .ok (.iconst 0, 1) := by decide +kernel
theorem dX6_digest_2 : decode cX6_digest 2 = .ok (.putfield 47, 3) := by decide +kernel
theorem dX6_digest_5 : decode cX6_digest 5 = .ok (.ldc2_w 185, 3) := by decide +kernel
theorem dX6_digest_8 : decode cX6_digest 8 = .ok (.aload_n 0, 1) := by decide +kernel
theorem dX6_digest_9 : decode cX6_digest 9 = .ok (.getfield 50, 3) := by decide +kernel
theorem dX6_digest_12 : decode cX6_digest 12 = .ok (.i2l, 1) := by decide +kernel
theorem dX6_digest_13 : decode cX6_digest 13 = .ok (.ladd, 1) := by decide +kernel
theorem dX6_digest_14 : decode cX6_digest 14 = .ok (.lstore_n 1, 1) := by decide +kernel
theorem dX6_digest_15 : decode cX6_digest 15 = .ok (.iconst 0, 1) := by decide +kernel
theorem dX6_digest_16 : decode cX6_digest 16 = .ok (.istore_n 3, 1) := by decide +kernel
theorem dX6_digest_17 : decode cX6_digest 17 = .ok (.iload_n 3, 1) := by decide +kernel
theorem dX6_digest_18 : decode cX6_digest 18 = .ok (.aload_n 0, 1) := by decide +kernel
theorem dX6_digest_19 : decode cX6_digest 19 = .ok (.getfield 50, 3) := by decide +kernel
theorem dX6_digest_22 : decode cX6_digest 22 = .ok (.if_icmp .ge 71, 3) := by decide +kernel
theorem dX6_digest_25 : decode cX6_digest 25 = .ok (.lload_n 1, 1) := by decide +kernel
theorem dX6_digest_26 : decode cX6_digest 26 = .ok (.ldc2_w 187, 3) := by decide +kernel
theorem dX6_digest_29 : decode cX6_digest 29 = .ok (.lmul, 1) := by decide +kernel
theorem dX6_digest_30 : decode cX6_digest 30 = .ok (.aload_n 0, 1) := by decide +kernel
theorem dX6_digest_31 : decode cX6_digest 31 = .ok (.getfield 13, 3) := by decide +kernel
theorem dX6_digest_34 : decode cX6_digest 34 = .ok (.iload_n 3, 1) := by decide +kernel
theorem dX6_digest_35 : decode cX6_digest 35 = .ok (.iaload, 1) := by decide +kernel
theorem dX6_digest_36 : decode cX6_digest 36 = .ok (.i2l, 1) := by decide +kernel
theorem dX6_digest_37 : decode cX6_digest 37 = .ok (.ladd, 1) := by decide +kernel
theorem dX6_digest_38 : decode cX6_digest 38 = .ok (.ldc2_w 187, 3) := by decide +kernel
theorem dX6_digest_41 : decode cX6_digest 41 = .ok (.lmul, 1) := by decide +kernel
theorem dX6_digest_42 : decode cX6_digest 42 = .ok (.aload_n 0, 1) := by decide +kernel
theorem dX6_digest_43 : decode cX6_digest 43 = .ok (.getfield 16, 3) := by decide +kernel
theorem dX6_digest_46 : decode cX6_digest 46 = .ok (.iload_n 3, 1) := by decide +kernel
theorem dX6_digest_47 : decode cX6_digest 47 = .ok (.iaload, 1) := by decide +kernel
theorem dX6_digest_48 : decode cX6_digest 48 = .ok (.i2l, 1) := by decide +kernel
theorem dX6_digest_49 : decode cX6_digest 49 = .ok (.ladd, 1) := by decide +kernel
theorem dX6_digest_50 : decode cX6_digest 50 = .ok (.ldc2_w 187, 3) := by decide +kernel
theorem dX6_digest_53 : decode cX6_digest 53 = .ok (.lmul, 1) := by decide +kernel
theorem dX6_digest_54 : decode cX6_digest 54 = .ok (.aload_n 0, 1) := by decide +kernel
theorem dX6_digest_55 : decode cX6_digest 55 = .ok (.getfield 19, 3) := by decide +kernel
theorem dX6_digest_58 : decode cX6_digest 58 = .ok (.iload_n 3, 1) := by decide +kernel
theorem dX6_digest_59 : decode cX6_digest 59 = .ok (.iaload, 1) := by decide +kernel
theorem dX6_digest_60 : decode cX6_digest 60 = .ok (.i2l, 1) := by decide +kernel
theorem dX6_digest_61 : decode cX6_digest 61 = .ok (.ladd, 1) := by decide +kernel
theorem dX6_digest_62 : decode cX6_digest 62 = .ok (.ldc2_w 187, 3) := by decide +kernel
theorem dX6_digest_65 : decode cX6_digest 65 = .ok (.lmul, 1) := by decide +kernel
theorem dX6_digest_66 : decode cX6_digest 66 = .ok (.aload_n 0, 1) := by decide +kernel
theorem dX6_digest_67 : decode cX6_digest 67 = .ok (.getfield 22, 3) := by decide +kernel
theorem dX6_digest_70 : decode cX6_digest 70 = .ok (.iload_n 3, 1) := by decide +kernel
theorem dX6_digest_71 : decode cX6_digest 71 = .ok (.iaload, 1) := by decide +kernel
theorem dX6_digest_72 : decode cX6_digest 72 = .ok (.i2l, 1) := by decide +kernel
theorem dX6_digest_73 : decode cX6_digest 73 = .ok (.ladd, 1) := by decide +kernel
theorem dX6_digest_74 : decode cX6_digest 74 = .ok (.ldc2_w 187, 3) := by decide +kernel
theorem dX6_digest_77 : decode cX6_digest 77 = .ok (.lmul, 1) := by decide +kernel
theorem dX6_digest_78 : decode cX6_digest 78 = .ok (.aload_n 0, 1) := by decide +kernel
theorem dX6_digest_79 : decode cX6_digest 79 = .ok (.getfield 25, 3) := by decide +kernel
theorem dX6_digest_82 : decode cX6_digest 82 = .ok (.iload_n 3, 1) := by decide +kernel
theorem dX6_digest_83 : decode cX6_digest 83 = .ok (.iaload, 1) := by decide +kernel
theorem dX6_digest_84 : decode cX6_digest 84 = .ok (.i2l, 1) := by decide +kernel
theorem dX6_digest_85 : decode cX6_digest 85 = .ok (.ladd, 1) := by decide +kernel
theorem dX6_digest_86 : decode cX6_digest 86 = .ok (.lstore_n 1, 1) := by decide +kernel
theorem dX6_digest_87 : decode cX6_digest 87 = .ok (.iinc 3 1, 3) := by decide +kernel
theorem dX6_digest_90 : decode cX6_digest 90 = .ok (.goto (-73), 3) := by decide +kernel
theorem dX6_digest_93 : decode cX6_digest 93 = .ok (.lload_n 1, 1) := by decide +kernel
theorem dX6_digest_94 : decode cX6_digest 94 = .ok (.ldc2_w 187, 3) := by decide +kernel
theorem dX6_digest_97 : decode cX6_digest 97 = .ok (.lmul, 1) := by decide +kernel
theorem dX6_digest_98 : decode cX6_digest 98 = .ok (.aload_n 0, 1) := by decide +kernel
theorem dX6_digest_99 : decode cX6_digest 99 = .ok (.getfield 57, 3) := by decide +kernel
theorem dX6_digest_102 : decode cX6_digest 102 = .ok (.i2l, 1) := by decide +kernel
theorem dX6_digest_103 : decode cX6_digest 103 = .ok (.ladd, 1) := by decide +kernel
theorem dX6_digest_104 : decode cX6_digest 104 = .ok (.lstore_n 1, 1) := by decide +kernel
theorem dX6_digest_105 : decode cX6_digest 105 = .ok (.iconst 0, 1) := by decide +kernel
theorem dX6_digest_106 : decode cX6_digest 106 = .ok (.istore_n 3, 1) := by decide +kernel
theorem dX6_digest_107 : decode cX6_digest 107 = .ok (.iload_n 3, 1) := by decide +kernel
theorem dX6_digest_108 : decode cX6_digest 108 = .ok (.aload_n 0, 1) := by decide +kernel
theorem dX6_digest_109 : decode cX6_digest 109 = .ok (.getfield 57, 3) := by decide +kernel
theorem dX6_digest_112 : decode cX6_digest 112 = .ok (.if_icmp .ge 40, 3) := by decide +kernel
theorem dX6_digest_115 : decode cX6_digest 115 = .ok (.iconst 0, 1) := by decide +kernel
theorem dX6_digest_116 : decode cX6_digest 116 = .ok (.istore 4, 2) := by decide +kernel
theorem dX6_digest_118 : decode cX6_digest 118 = .ok (.iload 4, 2) := by decide +kernel
theorem dX6_digest_120 : decode cX6_digest 120 = .ok (.bipush 9, 2) := by decide +kernel
theorem dX6_digest_122 : decode cX6_digest 122 = .ok (.if_icmp .ge 24, 3) := by decide +kernel
theorem dX6_digest_125 : decode cX6_digest 125 = .ok (.lload_n 1, 1) := by decide +kernel
theorem dX6_digest_126 : decode cX6_digest 126 = .ok (.ldc2_w 187, 3) := by decide +kernel
theorem dX6_digest_129 : decode cX6_digest 129 = .ok (.lmul, 1) := by decide +kernel
theorem dX6_digest_130 : decode cX6_digest 130 = .ok (.aload_n 0, 1) := by decide +kernel
theorem dX6_digest_131 : decode cX6_digest 131 = .ok (.iload_n 3, 1) := by decide +kernel
theorem dX6_digest_132 : decode cX6_digest 132 = .ok (.iload 4, 2) := by decide +kernel
theorem dX6_digest_134 : decode cX6_digest 134 = .ok (.invokevirtual 132, 3) := by decide +kernel
theorem dX6_digest_137 : decode cX6_digest 137 = .ok (.i2l, 1) := by decide +kernel
theorem dX6_digest_138 : decode cX6_digest 138 = .ok (.ladd, 1) := by decide +kernel
theorem dX6_digest_139 : decode cX6_digest 139 = .ok (.lstore_n 1, 1) := by decide +kernel
theorem dX6_digest_140 : decode cX6_digest 140 = .ok (.iinc 4 1, 3) := by decide +kernel
theorem dX6_digest_143 : decode cX6_digest 143 = .ok (.goto (-25), 3) := by decide +kernel
theorem dX6_digest_146 : decode cX6_digest 146 = .ok (.iinc 3 1, 3) := by decide +kernel
theorem dX6_digest_149 : decode cX6_digest 149 = .ok (.goto (-42), 3) := by decide +kernel
theorem dX6_digest_152 : decode cX6_digest 152 = .ok (.lload_n 1, 1) := by decide +kernel
theorem dX6_digest_153 : decode cX6_digest 153 = .ok (.ldc2_w 187, 3) := by decide +kernel
theorem dX6_digest_156 : decode cX6_digest 156 = .ok (.lmul, 1) := by decide +kernel
theorem dX6_digest_157 : decode cX6_digest 157 = .ok (.aload_n 0, 1) := by decide +kernel
theorem dX6_digest_158 : decode cX6_digest 158 = .ok (.getfield 74, 3) := by decide +kernel
theorem dX6_digest_161 : decode cX6_digest 161 = .ok (.i2l, 1) := by decide +kernel
theorem dX6_digest_162 : decode cX6_digest 162 = .ok (.ladd, 1) := by decide +kernel
theorem dX6_digest_163 : decode cX6_digest 163 = .ok (.lstore_n 1, 1) := by decide +kernel
theorem dX6_digest_164 : decode cX6_digest 164 = .ok (.iconst 0, 1) := by decide +kernel
theorem dX6_digest_165 : decode cX6_digest 165 = .ok (.istore_n 3, 1) := by decide +kernel
theorem dX6_digest_166 : decode cX6_digest 166 = .ok (.iload_n 3, 1) := by decide +kernel
theorem dX6_digest_167 : decode cX6_digest 167 = .ok (.bipush 7, 2) := by decide +kernel
theorem dX6_digest_169 : decode cX6_digest 169 = .ok (.aload_n 0, 1) := by decide +kernel
theorem dX6_digest_170 : decode cX6_digest 170 = .ok (.getfield 74, 3) := by decide +kernel
theorem dX6_digest_173 : decode cX6_digest 173 = .ok (.imul, 1) := by decide +kernel
theorem dX6_digest_174 : decode cX6_digest 174 = .ok (.if_icmp .ge 23, 3) := by decide +kernel
theorem dX6_digest_177 : decode cX6_digest 177 = .ok (.lload_n 1, 1) := by decide +kernel
theorem dX6_digest_178 : decode cX6_digest 178 = .ok (.ldc2_w 187, 3) := by decide +kernel
theorem dX6_digest_181 : decode cX6_digest 181 = .ok (.lmul, 1) := by decide +kernel
theorem dX6_digest_182 : decode cX6_digest 182 = .ok (.aload_n 0, 1) := by decide +kernel
theorem dX6_digest_183 : decode cX6_digest 183 = .ok (.getfield 28, 3) := by decide +kernel
theorem dX6_digest_186 : decode cX6_digest 186 = .ok (.iload_n 3, 1) := by decide +kernel
theorem dX6_digest_187 : decode cX6_digest 187 = .ok (.iaload, 1) := by decide +kernel
theorem dX6_digest_188 : decode cX6_digest 188 = .ok (.i2l, 1) := by decide +kernel
theorem dX6_digest_189 : decode cX6_digest 189 = .ok (.ladd, 1) := by decide +kernel
theorem dX6_digest_190 : decode cX6_digest 190 = .ok (.lstore_n 1, 1) := by decide +kernel
theorem dX6_digest_191 : decode cX6_digest 191 = .ok (.iinc 3 1, 3) := by decide +kernel
theorem dX6_digest_194 : decode cX6_digest 194 = .ok (.goto (-28), 3) := by decide +kernel
theorem dX6_digest_197 : decode cX6_digest 197 = .ok (.lload_n 1, 1) := by decide +kernel
theorem dX6_digest_198 : decode cX6_digest 198 = .ok (.lreturn, 1) := by decide +kernel
