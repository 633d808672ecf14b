theorem dX5_init_0 : decode cX5_init 0 = .ok (.aload_n 0, 1) := by decide +kernel
theorem dX5_init_1 : decode cX5_init 1 = .ok (.invokespecial 1, 3) := by decide +kernel
theorem dX5_init_4 : decode cX5_init 4 = .ok (.aload_n 0, 1) := by decide +kernel
theorem dX5_init_5 : decode cX5_init 5 = .ok (.new 7, 3) := by decide +kernel
theorem dX5_init_8 : decode cX5_init 8 = .ok (.dup, 1) := by decide +kernel
theorem dX5_init_9 : decode cX5_init 9 = .ok (.invokespecial 9, 3) := by decide +kernel
theorem dX5_init_12 : decode cX5_init 12 = .ok (.putfield 10, 3) := by decide +kernel
theorem dX5_init_15 : decode cX5_init 15 = .ok (.aload_n 0, 1) := by decide +kernel
theorem dX5_init_16 : decode cX5_init 16 = .ok (.new 16, 3) := by decide +kernel
theorem dX5_init_19 : decode cX5_init 19 = .ok (.dup, 1) := by decide +kernel
theorem dX5_init_20 : decode cX5_init 20 = .ok (.invokespecial 18, 3) := by decide +kernel
theorem dX5_init_23 : decode cX5_init 23 = .ok (.putfield 19, 3) := by decide +kernel
theorem dX5_init_26 : decode cX5_init 26 = .ok (.aload_n 0, 1) := by decide +kernel
theorem dX5_init_27 : decode cX5_init 27 = .ok (.bipush 12, 2) := by decide +kernel
theorem dX5_init_29 : decode cX5_init 29 = .ok (.anewarray 23, 3) := by decide +kernel
theorem dX5_init_32 : decode cX5_init 32 = .ok (.putfield 25, 3) := by decide +kernel
theorem dX5_init_35 : decode cX5_init 35 = .ok (.aload_n 0, 1) := by decide +kernel
theorem dX5_init_36 : decode cX5_init 36 = .ok (.bipush 40, 2) := by decide +kernel
theorem dX5_init_38 : decode cX5_init 38 = .ok (.newarray .int, 2) := by decide +kernel
theorem dX5_init_40 : decode cX5_init 40 = .ok (.putfield 29, 3) := by decide +kernel
theorem dX5_init_43 : decode cX5_init 43 = .ok (.aload_n 0, 1) := by decide +kernel
theorem dX5_init_44 : decode cX5_init 44 = .ok (.bipush 8, 2) := by decide +kernel
theorem dX5_init_46 : decode cX5_init 46 = .ok (.bipush 7, 2) := by decide +kernel
theorem dX5_init_48 : decode cX5_init 48 = .ok (.multianewarray 33 2, 4) := by decide +kernel
theorem dX5_init_52 : decode cX5_init 52 = .ok (.putfield 35, 3) := by decide +kernel
theorem dX5_init_55 : decode cX5_init 55 = .ok (.aload_n 0, 1) := by decide +kernel
theorem dX5_init_56 : decode cX5_init 56 = .ok (.new 23, 3) := by decide +kernel
theorem dX5_init_59 : decode cX5_init 59 = .ok (.dup, 1) := by decide +kernel
theorem dX5_init_60 : decode cX5_init 60 = .ok (.invokespecial 38, 3) := by decide +kernel
theorem dX5_init_63 : decode cX5_init 63 = .ok (.putfield 39, 3) := by decide +kernel
theorem dX5_init_66 : decode cX5_init 66 = .ok (.aload_n 0, 1) := by decide +kernel
theorem dX5_init_67 : decode cX5_init 67 = .ok (.new 23, 3) := by decide +kernel
theorem dX5_init_70 : decode cX5_init 70 = .ok (.dup, 1) := by decide +kernel
theorem dX5_init_71 : decode cX5_init 71 = .ok (.invokespecial 38, 3) := by decide +kernel
theorem dX5_init_74 : decode cX5_init 74 = .ok (.putfield 43, 3) := by decide +kernel
theorem dX5_init_77 : decode cX5_init 77 = .ok (.aload_n 0, 1) := by decide +kernel
theorem dX5_init_78 : decode cX5_init 78 = .ok (.new 46, 3) := by decide +kernel
theorem dX5_init_81 : decode cX5_init 81 = .ok (.dup, 1) := by decide +kernel
theorem dX5_init_82 : decode cX5_init 82 = .ok (.invokespecial 48, 3) := by decide +kernel
theorem dX5_init_85 : decode cX5_init 85 = .ok (.putfield 49, 3) := by decide +kernel
theorem dX5_init_88 : decode cX5_init 88 = .ok (.aload_n 0, 1) := by decide +kernel
theorem dX5_init_89 : decode cX5_init 89 = .ok (.new 53, 3) := by decide +kernel
theorem dX5_init_92 : decode cX5_init 92 = .ok (.dup, 1) := by decide +kernel
theorem dX5_init_93 : decode cX5_init 93 = .ok (.invokespecial 55, 3) := by decide +kernel
theorem dX5_init_96 : decode cX5_init 96 = .ok (.putfield 56, 3) := by decide +kernel
theorem dX5_init_99 : decode cX5_init 99 = .ok (.aload_n 0, 1) := by decide +kernel
theorem dX5_init_100 : decode cX5_init 100 = .ok (.new 23, 3) := by decide +kernel
theorem dX5_init_103 : decode cX5_init 103 = .ok (.dup, 1) := by decide +kernel
theorem dX5_init_104 : decode cX5_init 104 = .ok (.invokespecial 38, 3) := by decide +kernel
theorem dX5_init_107 : decode cX5_init 107 = .ok (.putfield 60, 3) := by decide +kernel
theorem dX5_init_110 : decode cX5_init 110 = .ok (.iconst 0, 1) := by decide +kernel
theorem dX5_init_111 : decode cX5_init 111 = .ok (.istore_n 1, 1) := by decide +kernel
theorem dX5_init_112 : decode cX5_init 112 = .ok (.iload_n 1, 1) := by decide +kernel
theorem dX5_init_113 : decode cX5_init 113 = .ok (.aload_n 0, 1) := by decide +kernel
theorem dX5_init_114 : decode cX5_init 114 = .ok (.getfield 25, 3) := by decide +kernel
theorem dX5_init_117 : decode cX5_init 117 = .ok (.arraylength, 1) := by decide +kernel
theorem dX5_init_118 : decode cX5_init 118 = .ok (.if_icmp .ge 22, 3) := by decide +kernel
theorem dX5_init_121 : decode cX5_init 121 = .ok (.aload_n 0, 1) := by decide +kernel
theorem dX5_init_122 : decode cX5_init 122 = .ok (.getfield 25, 3) := by decide +kernel
theorem dX5_init_125 : decode cX5_init 125 = .ok (.iload_n 1, 1) := by decide +kernel
theorem dX5_init_126 : decode cX5_init 126 = .ok (.new 23, 3) := by decide +kernel
theorem dX5_init_129 : decode cX5_init 129 = .ok (.dup, 1) := by decide +kernel
theorem dX5_init_130 : decode cX5_init 130 = .ok (.invokespecial 38, 3) := by decide +kernel
theorem dX5_init_133 : decode cX5_init 133 = .ok (.aastore, 1) := by decide +kernel
theorem dX5_init_134 : decode cX5_init 134 = .ok (.iinc 1 1, 3) := by decide +kernel
theorem dX5_init_137 : decode cX5_init 137 = .ok (.goto (-25), 3) := by decide +kernel
theorem dX5_init_140 : decode cX5_init 140 = .ok (.iconst 0, 1) := by decide +kernel
theorem dX5_init_141 : decode cX5_init 141 = .ok (.istore_n 1, 1) := by decide +kernel
theorem dX5_init_142 : decode cX5_init 142 = .ok (.iload_n 1, 1) := by decide +kernel
theorem dX5_init_143 : decode cX5_init 143 = .ok (.aload_n 0, 1) := by decide +kernel
theorem dX5_init_144 : decode cX5_init 144 = .ok (.getfield 29, 3) := by decide +kernel
theorem dX5_init_147 : decode cX5_init 147 = .ok (.arraylength, 1) := by decide +kernel
theorem dX5_init_148 : decode cX5_init 148 = .ok (.if_icmp .ge 16, 3) := by decide +kernel
theorem dX5_init_151 : decode cX5_init 151 = .ok (.aload_n 0, 1) := by decide +kernel
theorem dX5_init_152 : decode cX5_init 152 = .ok (.getfield 29, 3) := by decide +kernel
theorem dX5_init_155 : decode cX5_init 155 = .ok (.iload_n 1, 1) := by decide +kernel
theorem dX5_init_156 : decode cX5_init 156 = .ok (.iconst (-1), 1) := by decide +kernel
theorem dX5_init_157 : decode cX5_init 157 = .ok (.iastore, 1) := by decide +kernel
theorem dX5_init_158 : decode cX5_init 158 = .ok (.iinc 1 1, 3) := by decide +kernel
theorem dX5_init_161 : decode cX5_init 161 = .ok (.goto (-19), 3) := by decide +kernel
theorem dX5_init_164 : decode cX5_init 164 = .ok (.iconst 0, 1) := by decide +kernel
theorem dX5_init_165 : decode cX5_init 165 = .ok (.istore_n 1, 1) := by decide +kernel
theorem dX5_init_166 : decode cX5_init 166 = .ok (.iload_n 1, 1) := by decide +kernel
theorem dX5_init_167 : decode cX5_init 167 = .ok (.bipush 8, 2) := by decide +kernel
theorem dX5_init_169 : decode cX5_init 169 = .ok (.if_icmp .ge 32, 3) := by decide +kernel
theorem dX5_init_172 : decode cX5_init 172 = .ok (.iconst 0, 1) := by decide +kernel
theorem dX5_init_173 : decode cX5_init 173 = .ok (.istore_n 2, 1) := by decide +kernel
theorem dX5_init_174 : decode cX5_init 174 = .ok (.iload_n 2, 1) := by decide +kernel
theorem dX5_init_175 : decode cX5_init 175 = .ok (.bipush 7, 2) := by decide +kernel
theorem dX5_init_177 : decode cX5_init 177 = .ok (.if_icmp .ge 18, 3) := by decide +kernel
theorem dX5_init_180 : decode cX5_init 180 = .ok (.aload_n 0, 1) := by decide +kernel
theorem dX5_init_181 : decode cX5_init 181 = .ok (.getfield 35, 3) := by decide +kernel
theorem dX5_init_184 : decode cX5_init 184 = .ok (.iload_n 1, 1) := by decide +kernel
theorem dX5_init_185 : decode cX5_init 185 = .ok (.aaload, 1) := by decide +kernel
theorem dX5_init_186 : decode cX5_init 186 = .ok (.iload_n 2, 1) := by decide +kernel
theorem dX5_init_187 : decode cX5_init 187 = .ok (.iconst (-1), 1) := by decide +kernel
theorem dX5_init_188 : decode cX5_init 188 = .ok (.iastore, 1) := by decide +kernel
theorem dX5_init_189 : decode cX5_init 189 = .ok (.iinc 2 1, 3) := by decide +kernel
theorem dX5_init_192 : decode cX5_init 192 = .ok (.goto (-18), 3) := by decide +kernel
theorem dX5_init_195 : decode cX5_init 195 = .ok (.iinc 1 1, 3) := by decide +kernel
theorem dX5_init_198 : decode cX5_init 198 = .ok (.goto (-32), 3) := by decide +kernel
theorem dX5_init_201 : decode cX5_init 201 = .ok (.return_, 1) := by decide +kernel
theorem dX5_addTrip_0 : decode cX5_addTrip 0 = .ok (.iload_n 1, 1) := by decide +kernel
theorem dX5_addTrip_1 : decode cX5_addTrip 1 = .ok (.invokestatic 63, 3) := by decide +kernel
theorem dX5_addTrip_4 : decode cX5_addTrip 4 = .ok (.ifCond .eq 10, 3) := by decide +kernel
theorem dX5_addTrip_7 : decode cX5_addTrip 7 = .ok (.iload_n 2, 1) := by decide +kernel
theorem dX5_addTrip_8 : decode cX5_addTrip 8 = .ok (.invokestatic 63, 3) := by decide +kernel
theorem dX5_addTrip_11 : decode cX5_addTrip 11 = .ok (.ifCond .ne 13, 3) := by decide +kernel
theorem dX5_addTrip_14 : decode cX5_addTrip 14 = .ok (.new 67, 3) := by decide +kernel
theorem dX5_addTrip_17 : decode cX5_addTrip 17 = .ok (.dup, 1) := by decide +kernel
theorem dX5_addTrip_18 : decode cX5_addTrip 18 = .ok (.ldc 69, 2) := by decide +kernel
theorem dX5_addTrip_20 : decode cX5_addTrip 20 = .ok (.invokespecial 71, 3) := by decide +kernel
theorem dX5_addTrip_23 : decode cX5_addTrip 23 = .ok (.athrow, 1) := by decide +kernel
theorem dX5_addTrip_24 : decode cX5_addTrip 24 = .ok (.iload_n 3, 1) := by decide +kernel
theorem dX5_addTrip_25 : decode cX5_addTrip 25 = .ok (.iload 4, 2) := by decide +kernel
theorem dX5_addTrip_27 : decode cX5_addTrip 27 = .ok (.invokestatic 90, 3) := by decide +kernel
theorem dX5_addTrip_30 : decode cX5_addTrip 30 = .ok (.ifCond .ne 13, 3) := by decide +kernel
theorem dX5_addTrip_33 : decode cX5_addTrip 33 = .ok (.new 74, 3) := by decide +kernel
theorem dX5_addTrip_36 : decode cX5_addTrip 36 = .ok (.dup, 1) := by decide +kernel
theorem dX5_addTrip_37 : decode cX5_addTrip 37 = .ok (.ldc 94, 2) := by decide +kernel
theorem dX5_addTrip_39 : decode cX5_addTrip 39 = .ok (.invokespecial 78, 3) := by decide +kernel
theorem dX5_addTrip_42 : decode cX5_addTrip 42 = .ok (.athrow, 1) := by decide +kernel
theorem dX5_addTrip_43 : decode cX5_addTrip 43 = .ok (.aload_n 0, 1) := by decide +kernel
theorem dX5_addTrip_44 : decode cX5_addTrip 44 = .ok (.getfield 10, 3) := by decide +kernel
theorem dX5_addTrip_47 : decode cX5_addTrip 47 = .ok (.getfield 96, 3) := by decide +kernel
theorem dX5_addTrip_50 : decode cX5_addTrip 50 = .ok (.bipush 40, 2) := by decide +kernel
theorem dX5_addTrip_52 : decode cX5_addTrip 52 = .ok (.if_icmp .lt 13, 3) := by decide +kernel
theorem dX5_addTrip_55 : decode cX5_addTrip 55 = .ok (.new 100, 3) := by decide +kernel
theorem dX5_addTrip_58 : decode cX5_addTrip 58 = .ok (.dup, 1) := by decide +kernel
theorem dX5_addTrip_59 : decode cX5_addTrip 59 = .ok (.ldc 102, 2) := by decide +kernel
theorem dX5_addTrip_61 : decode cX5_addTrip 61 = .ok (.invokespecial 104, 3) := by decide +kernel
theorem dX5_addTrip_64 : decode cX5_addTrip 64 = .ok (.athrow, 1) := by decide +kernel
theorem dX5_addTrip_65 : decode cX5_addTrip 65 = .ok (.aload_n 0, 1) := by decide +kernel
theorem dX5_addTrip_66 : decode cX5_addTrip 66 = .ok (.getfield 10, 3) := by decide +kernel
theorem dX5_addTrip_69 : decode cX5_addTrip 69 = .ok (.iload_n 1, 1) := by decide +kernel
theorem dX5_addTrip_70 : decode cX5_addTrip 70 = .ok (.iload_n 2, 1) := by decide +kernel
theorem dX5_addTrip_71 : decode cX5_addTrip 71 = .ok (.iload_n 3, 1) := by decide +kernel
theorem dX5_addTrip_72 : decode cX5_addTrip 72 = .ok (.iload 4, 2) := by decide +kernel
theorem dX5_addTrip_74 : decode cX5_addTrip 74 = .ok (.invokevirtual 105, 3) := by decide +kernel
theorem dX5_addTrip_77 : decode cX5_addTrip 77 = .ok (.ireturn, 1) := by decide +kernel
theorem dX5_trip_0 : decode cX5_trip 0 = .ok (.aload_n 0, 1) := by decide +kernel
theorem dX5_trip_1 : decode cX5_trip 1 = .ok (.iload_n 1, 1) := by decide +kernel
theorem dX5_trip_2 : decode cX5_trip 2 = .ok (.invokevirtual 109, 3) := by decide +kernel
theorem dX5_trip_5 : decode cX5_trip 5 = .ok (.ifCond .eq 12, 3) := by decide +kernel
theorem dX5_trip_8 : decode cX5_trip 8 = .ok (.iload_n 2, 1) := by decide +kernel
theorem dX5_trip_9 : decode cX5_trip 9 = .ok (.ifCond .lt 8, 3) := by decide +kernel
theorem dX5_trip_12 : decode cX5_trip 12 = .ok (.iload_n 2, 1) := by decide +kernel
theorem dX5_trip_13 : decode cX5_trip 13 = .ok (.iconst 5, 1) := by decide +kernel
theorem dX5_trip_14 : decode cX5_trip 14 = .ok (.if_icmp .lt 13, 3) := by decide +kernel
theorem dX5_trip_17 : decode cX5_trip 17 = .ok (.new 67, 3) := by decide +kernel
theorem dX5_trip_20 : decode cX5_trip 20 = .ok (.dup, 1) := by decide +kernel
theorem dX5_trip_21 : decode cX5_trip 21 = .ok (.ldc 112, 2) := by decide +kernel
theorem dX5_trip_23 : decode cX5_trip 23 = .ok (.invokespecial 71, 3) := by decide +kernel
theorem dX5_trip_26 : decode cX5_trip 26 = .ok (.athrow, 1) := by decide +kernel
theorem dX5_trip_27 : decode cX5_trip 27 = .ok (.aload_n 0, 1) := by decide +kernel
theorem dX5_trip_28 : decode cX5_trip 28 = .ok (.iload_n 1, 1) := by decide +kernel
theorem dX5_trip_29 : decode cX5_trip 29 = .ok (.iload_n 2, 1) := by decide +kernel
theorem dX5_trip_30 : decode cX5_trip 30 = .ok (.invokevirtual 114, 3) := by decide +kernel
theorem dX5_trip_33 : decode cX5_trip 33 = .ok (.ireturn, 1) := by decide +kernel
theorem dX5_count_0 : decode cX5_count 0 = .ok (.iload_n 1, 1) := by decide +kernel
theorem dX5_count_1 : decode cX5_count 1 = .ok (.tableswitch 54 0 3 #[31, 39, 44, 49], 31) := by decide +kernel
theorem dX5_count_32 : decode cX5_count 32 = .ok (.aload_n 0, 1) := by decide +kernel
theorem dX5_count_33 : decode cX5_count 33 = .ok (.getfield 10, 3) := by decide +kernel
theorem dX5_count_36 : decode cX5_count 36 = .ok (.getfield 96, 3) := by decide +kernel
theorem dX5_count_39 : decode cX5_count 39 = .ok (.ireturn, 1) := by decide +kernel
theorem dX5_count_40 : decode cX5_count 40 = .ok (.aload_n 0, 1) := by decide +kernel
theorem dX5_count_41 : decode cX5_count 41 = .ok (.getfield 137, 3) := by decide +kernel
theorem dX5_count_44 : decode cX5_count 44 = .ok (.ireturn, 1) := by decide +kernel
theorem dX5_count_45 : decode cX5_count 45 = .ok (.aload_n 0, 1) := by decide +kernel
theorem dX5_count_46 : decode cX5_count 46 = .ok (.getfield 140, 3) := by decide +kernel
theorem dX5_count_49 : decode cX5_count 49 = .ok (.ireturn, 1) := by decide +kernel
theorem dX5_count_50 : decode cX5_count 50 = .ok (.aload_n 0, 1) := by decide +kernel
theorem dX5_count_51 : decode cX5_count 51 = .ok (.invokevirtual 143, 3) := by decide +kernel
theorem dX5_count_54 : decode cX5_count 54 = .ok (.ireturn, 1) := by decide +kernel
theorem dX5_count_55 : decode cX5_count 55 = .ok (.new 67, 3) := by decide +kernel
theorem dX5_count_58 : decode cX5_count 58 = .ok (.dup, 1) := by decide +kernel
theorem dX5_count_59 : decode cX5_count 59 = .ok (.ldc 146, 2) := by decide +kernel
theorem dX5_count_61 : decode cX5_count 61 = .ok (.invokespecial 71, 3) := by decide +kernel
theorem dX5_count_64 : decode cX5_count 64 = .ok (.athrow, 1) := by decide +kernel
theorem dX5_duty_0 : decode cX5_duty 0 = .ok (.aload_n 0, 1) := by decide +kernel
theorem dX5_duty_1 : decode cX5_duty 1 = .ok (.iload_n 1, 1) := by decide +kernel
theorem dX5_duty_2 : decode cX5_duty 2 = .ok (.invokevirtual 150, 3) := by decide +kernel
theorem dX5_duty_5 : decode cX5_duty 5 = .ok (.ifCond .eq 13, 3) := by decide +kernel
theorem dX5_duty_8 : decode cX5_duty 8 = .ok (.iload_n 2, 1) := by decide +kernel
theorem dX5_duty_9 : decode cX5_duty 9 = .ok (.ifCond .lt 9, 3) := by decide +kernel
theorem dX5_duty_12 : decode cX5_duty 12 = .ok (.iload_n 2, 1) := by decide +kernel
theorem dX5_duty_13 : decode cX5_duty 13 = .ok (.bipush 9, 2) := by decide +kernel
theorem dX5_duty_15 : decode cX5_duty 15 = .ok (.if_icmp .lt 13, 3) := by decide +kernel
theorem dX5_duty_18 : decode cX5_duty 18 = .ok (.new 67, 3) := by decide +kernel
theorem dX5_duty_21 : decode cX5_duty 21 = .ok (.dup, 1) := by decide +kernel
theorem dX5_duty_22 : decode cX5_duty 22 = .ok (.ldc 192, 2) := by decide +kernel
theorem dX5_duty_24 : decode cX5_duty 24 = .ok (.invokespecial 71, 3) := by decide +kernel
theorem dX5_duty_27 : decode cX5_duty 27 = .ok (.athrow, 1) := by decide +kernel
theorem dX5_duty_28 : decode cX5_duty 28 = .ok (.aload_n 0, 1) := by decide +kernel
theorem dX5_duty_29 : decode cX5_duty 29 = .ok (.iload_n 1, 1) := by decide +kernel
theorem dX5_duty_30 : decode cX5_duty 30 = .ok (.iload_n 2, 1) := by decide +kernel
theorem dX5_duty_31 : decode cX5_duty 31 = .ok (.invokevirtual 194, 3) := by decide +kernel
theorem dX5_duty_34 : decode cX5_duty 34 = .ok (.ireturn, 1) := by decide +kernel
theorem dX5_tripAt_0 : decode cX5_tripAt 0 = .ok (.aload_n 0, 1) := by decide +kernel
theorem dX5_tripAt_1 : decode cX5_tripAt 1 = .ok (.iload_n 1, 1) := by decide +kernel
theorem dX5_tripAt_2 : decode cX5_tripAt 2 = .ok (.invokevirtual 150, 3) := by decide +kernel
theorem dX5_tripAt_5 : decode cX5_tripAt 5 = .ok (.ifCond .eq 19, 3) := by decide +kernel
theorem dX5_tripAt_8 : decode cX5_tripAt 8 = .ok (.iload_n 2, 1) := by decide +kernel
theorem dX5_tripAt_9 : decode cX5_tripAt 9 = .ok (.ifCond .lt 15, 3) := by decide +kernel
theorem dX5_tripAt_12 : decode cX5_tripAt 12 = .ok (.iload_n 2, 1) := by decide +kernel
theorem dX5_tripAt_13 : decode cX5_tripAt 13 = .ok (.aload_n 0, 1) := by decide +kernel
theorem dX5_tripAt_14 : decode cX5_tripAt 14 = .ok (.iload_n 1, 1) := by decide +kernel
theorem dX5_tripAt_15 : decode cX5_tripAt 15 = .ok (.invokevirtual 164, 3) := by decide +kernel
theorem dX5_tripAt_18 : decode cX5_tripAt 18 = .ok (.getfield 197, 3) := by decide +kernel
theorem dX5_tripAt_21 : decode cX5_tripAt 21 = .ok (.if_icmp .lt 13, 3) := by decide +kernel
theorem dX5_tripAt_24 : decode cX5_tripAt 24 = .ok (.new 67, 3) := by decide +kernel
theorem dX5_tripAt_27 : decode cX5_tripAt 27 = .ok (.dup, 1) := by decide +kernel
theorem dX5_tripAt_28 : decode cX5_tripAt 28 = .ok (.ldc 198, 2) := by decide +kernel
theorem dX5_tripAt_30 : decode cX5_tripAt 30 = .ok (.invokespecial 71, 3) := by decide +kernel
theorem dX5_tripAt_33 : decode cX5_tripAt 33 = .ok (.athrow, 1) := by decide +kernel
theorem dX5_tripAt_34 : decode cX5_tripAt 34 = .ok (.aload_n 0, 1) := by decide +kernel
theorem dX5_tripAt_35 : decode cX5_tripAt 35 = .ok (.iload_n 1, 1) := by decide +kernel
theorem dX5_tripAt_36 : decode cX5_tripAt 36 = .ok (.invokevirtual 164, 3) := by decide +kernel
theorem dX5_tripAt_39 : decode cX5_tripAt 39 = .ok (.iload_n 2, 1) := by decide +kernel
theorem dX5_tripAt_40 : decode cX5_tripAt 40 = .ok (.invokevirtual 200, 3) := by decide +kernel
theorem dX5_tripAt_43 : decode cX5_tripAt 43 = .ok (.ireturn, 1) := by decide +kernel
theorem dX5_plan_0 : decode cX5_plan 0 = .ok (.aload_n 0, 1) := by decide +kernel
theorem dX5_plan_1 : decode cX5_plan 1 = .ok (.getfield 49, 3) := by decide +kernel
theorem dX5_plan_4 : decode cX5_plan 4 = .ok (.invokevirtual 206, 3) := by decide +kernel
theorem dX5_plan_7 : decode cX5_plan 7 = .ok (.iconst 0, 1) := by decide +kernel
theorem dX5_plan_8 : decode cX5_plan 8 = .ok (.istore_n 1, 1) := by decide +kernel
theorem dX5_plan_9 : decode cX5_plan 9 = .ok (.iload_n 1, 1) := by decide +kernel
theorem dX5_plan_10 : decode cX5_plan 10 = .ok (.aload_n 0, 1) := by decide +kernel
theorem dX5_plan_11 : decode cX5_plan 11 = .ok (.getfield 10, 3) := by decide +kernel
theorem dX5_plan_14 : decode cX5_plan 14 = .ok (.getfield 96, 3) := by decide +kernel
theorem dX5_plan_17 : decode cX5_plan 17 = .ok (.if_icmp .ge 34, 3) := by decide +kernel
theorem dX5_plan_20 : decode cX5_plan 20 = .ok (.aload_n 0, 1) := by decide +kernel
theorem dX5_plan_21 : decode cX5_plan 21 = .ok (.iload_n 1, 1) := by decide +kernel
theorem dX5_plan_22 : decode cX5_plan 22 = .ok (.invokevirtual 174, 3) := by decide +kernel
theorem dX5_plan_25 : decode cX5_plan 25 = .ok (.iconst (-1), 1) := by decide +kernel
theorem dX5_plan_26 : decode cX5_plan 26 = .ok (.if_icmp .ne 19, 3) := by decide +kernel
theorem dX5_plan_29 : decode cX5_plan 29 = .ok (.aload_n 0, 1) := by decide +kernel
theorem dX5_plan_30 : decode cX5_plan 30 = .ok (.getfield 49, 3) := by decide +kernel
theorem dX5_plan_33 : decode cX5_plan 33 = .ok (.aload_n 0, 1) := by decide +kernel
theorem dX5_plan_34 : decode cX5_plan 34 = .ok (.getfield 10, 3) := by decide +kernel
theorem dX5_plan_37 : decode cX5_plan 37 = .ok (.iload_n 1, 1) := by decide +kernel
theorem dX5_plan_38 : decode cX5_plan 38 = .ok (.invokevirtual 209, 3) := by decide +kernel
theorem dX5_plan_41 : decode cX5_plan 41 = .ok (.iload_n 1, 1) := by decide +kernel
theorem dX5_plan_42 : decode cX5_plan 42 = .ok (.invokevirtual 212, 3) := by decide +kernel
theorem dX5_plan_45 : decode cX5_plan 45 = .ok (.iinc 1 1, 3) := by decide +kernel
theorem dX5_plan_48 : decode cX5_plan 48 = .ok (.goto (-39), 3) := by decide +kernel
theorem dX5_plan_51 : decode cX5_plan 51 = .ok (.iconst 0, 1) := by decide +kernel
theorem dX5_plan_52 : decode cX5_plan 52 = .ok (.istore_n 1, 1) := by decide +kernel
theorem dX5_plan_53 : decode cX5_plan 53 = .ok (.iload_n 1, 1) := by decide +kernel
theorem dX5_plan_54 : decode cX5_plan 54 = .ok (.aload_n 0, 1) := by decide +kernel
theorem dX5_plan_55 : decode cX5_plan 55 = .ok (.getfield 49, 3) := by decide +kernel
theorem dX5_plan_58 : decode cX5_plan 58 = .ok (.getfield 215, 3) := by decide +kernel
theorem dX5_plan_61 : decode cX5_plan 61 = .ok (.if_icmp .ge 21, 3) := by decide +kernel
theorem dX5_plan_64 : decode cX5_plan 64 = .ok (.aload_n 0, 1) := by decide +kernel
theorem dX5_plan_65 : decode cX5_plan 65 = .ok (.aload_n 0, 1) := by decide +kernel
theorem dX5_plan_66 : decode cX5_plan 66 = .ok (.getfield 49, 3) := by decide +kernel
theorem dX5_plan_69 : decode cX5_plan 69 = .ok (.iload_n 1, 1) := by decide +kernel
theorem dX5_plan_70 : decode cX5_plan 70 = .ok (.invokevirtual 216, 3) := by decide +kernel
theorem dX5_plan_73 : decode cX5_plan 73 = .ok (.invokevirtual 219, 3) := by decide +kernel
theorem dX5_plan_76 : decode cX5_plan 76 = .ok (.iinc 1 1, 3) := by decide +kernel
theorem dX5_plan_79 : decode cX5_plan 79 = .ok (.goto (-26), 3) := by decide +kernel
theorem dX5_plan_82 : decode cX5_plan 82 = .ok (.aload_n 0, 1) := by decide +kernel
theorem dX5_plan_83 : decode cX5_plan 83 = .ok (.invokevirtual 143, 3) := by decide +kernel
theorem dX5_plan_86 : decode cX5_plan 86 = .ok (.ireturn, 1) := by decide +kernel
theorem dX5_improve_0 : decode cX5_improve 0 = .ok (.aload_n 0, 1) := by decide +kernel
theorem dX5_improve_1 : decode cX5_improve 1 = .ok (.getfield 56, 3) := by decide +kernel
theorem dX5_improve_4 : decode cX5_improve 4 = .ok (.invokevirtual 239, 3) := by decide +kernel
theorem dX5_improve_7 : decode cX5_improve 7 = .ok (.iconst 0, 1) := by decide +kernel
theorem dX5_improve_8 : decode cX5_improve 8 = .ok (.istore_n 1, 1) := by decide +kernel
theorem dX5_improve_9 : decode cX5_improve 9 = .ok (.iload_n 1, 1) := by decide +kernel
theorem dX5_improve_10 : decode cX5_improve 10 = .ok (.aload_n 0, 1) := by decide +kernel
theorem dX5_improve_11 : decode cX5_improve 11 = .ok (.getfield 137, 3) := by decide +kernel
theorem dX5_improve_14 : decode cX5_improve 14 = .ok (.if_icmp .ge 22, 3) := by decide +kernel
theorem dX5_improve_17 : decode cX5_improve 17 = .ok (.aload_n 0, 1) := by decide +kernel
theorem dX5_improve_18 : decode cX5_improve 18 = .ok (.iload_n 1, 1) := by decide +kernel
theorem dX5_improve_19 : decode cX5_improve 19 = .ok (.invokevirtual 177, 3) := by decide +kernel
theorem dX5_improve_22 : decode cX5_improve 22 = .ok (.ifCond .ne 8, 3) := by decide +kernel
theorem dX5_improve_25 : decode cX5_improve 25 = .ok (.aload_n 0, 1) := by decide +kernel
theorem dX5_improve_26 : decode cX5_improve 26 = .ok (.iload_n 1, 1) := by decide +kernel
theorem dX5_improve_27 : decode cX5_improve 27 = .ok (.invokevirtual 240, 3) := by decide +kernel
theorem dX5_improve_30 : decode cX5_improve 30 = .ok (.iinc 1 1, 3) := by decide +kernel
theorem dX5_improve_33 : decode cX5_improve 33 = .ok (.goto (-24), 3) := by decide +kernel
theorem dX5_improve_36 : decode cX5_improve 36 = .ok (.aload_n 0, 1) := by decide +kernel
theorem dX5_improve_37 : decode cX5_improve 37 = .ok (.getfield 56, 3) := by decide +kernel
theorem dX5_improve_40 : decode cX5_improve 40 = .ok (.getfield 243, 3) := by decide +kernel
theorem dX5_improve_43 : decode cX5_improve 43 = .ok (.ifCond .ge 49, 3) := by decide +kernel
theorem dX5_improve_46 : decode cX5_improve 46 = .ok (.aload_n 0, 1) := by decide +kernel
theorem dX5_improve_47 : decode cX5_improve 47 = .ok (.aload_n 0, 1) := by decide +kernel
theorem dX5_improve_48 : decode cX5_improve 48 = .ok (.getfield 56, 3) := by decide +kernel
theorem dX5_improve_51 : decode cX5_improve 51 = .ok (.getfield 246, 3) := by decide +kernel
theorem dX5_improve_54 : decode cX5_improve 54 = .ok (.aload_n 0, 1) := by decide +kernel
theorem dX5_improve_55 : decode cX5_improve 55 = .ok (.getfield 56, 3) := by decide +kernel
theorem dX5_improve_58 : decode cX5_improve 58 = .ok (.getfield 249, 3) := by decide +kernel
theorem dX5_improve_61 : decode cX5_improve 61 = .ok (.aload_n 0, 1) := by decide +kernel
theorem dX5_improve_62 : decode cX5_improve 62 = .ok (.getfield 56, 3) := by decide +kernel
theorem dX5_improve_65 : decode cX5_improve 65 = .ok (.getfield 252, 3) := by decide +kernel
theorem dX5_improve_68 : decode cX5_improve 68 = .ok (.invokevirtual 227, 3) := by decide +kernel
theorem dX5_improve_71 : decode cX5_improve 71 = .ok (.ifCond .eq 21, 3) := by decide +kernel
theorem dX5_improve_74 : decode cX5_improve 74 = .ok (.aload_n 0, 1) := by decide +kernel
theorem dX5_improve_75 : decode cX5_improve 75 = .ok (.aload_n 0, 1) := by decide +kernel
theorem dX5_improve_76 : decode cX5_improve 76 = .ok (.getfield 56, 3) := by decide +kernel
theorem dX5_improve_79 : decode cX5_improve 79 = .ok (.getfield 246, 3) := by decide +kernel
theorem dX5_improve_82 : decode cX5_improve 82 = .ok (.aload_n 0, 1) := by decide +kernel
theorem dX5_improve_83 : decode cX5_improve 83 = .ok (.getfield 56, 3) := by decide +kernel
theorem dX5_improve_86 : decode cX5_improve 86 = .ok (.getfield 249, 3) := by decide +kernel
theorem dX5_improve_89 : decode cX5_improve 89 = .ok (.invokevirtual 236, 3) := by decide +kernel
theorem dX5_improve_92 : decode cX5_improve 92 = .ok (.aload_n 0, 1) := by decide +kernel
theorem dX5_improve_93 : decode cX5_improve 93 = .ok (.getfield 56, 3) := by decide +kernel
theorem dX5_improve_96 : decode cX5_improve 96 = .ok (.getfield 243, 3) := by decide +kernel
theorem dX5_improve_99 : decode cX5_improve 99 = .ok (.ireturn, 1) := by decide +kernel
theorem dX5_pay_0 : decode cX5_pay 0 = .ok (.iconst 0, 1) := by decide +kernel
theorem dX5_pay_1 : decode cX5_pay 1 = .ok (.istore_n 1, 1) := by decide +kernel
theorem dX5_pay_2 : decode cX5_pay 2 = .ok (.iconst 0, 1) := by decide +kernel
theorem dX5_pay_3 : decode cX5_pay 3 = .ok (.istore_n 2, 1) := by decide +kernel
theorem dX5_pay_4 : decode cX5_pay 4 = .ok (.iload_n 2, 1) := by decide +kernel
theorem dX5_pay_5 : decode cX5_pay 5 = .ok (.aload_n 0, 1) := by decide +kernel
theorem dX5_pay_6 : decode cX5_pay 6 = .ok (.getfield 137, 3) := by decide +kernel
theorem dX5_pay_9 : decode cX5_pay 9 = .ok (.if_icmp .ge 20, 3) := by decide +kernel
theorem dX5_pay_12 : decode cX5_pay 12 = .ok (.iload_n 1, 1) := by decide +kernel
theorem dX5_pay_13 : decode cX5_pay 13 = .ok (.aload_n 0, 1) := by decide +kernel
theorem dX5_pay_14 : decode cX5_pay 14 = .ok (.iload_n 2, 1) := by decide +kernel
theorem dX5_pay_15 : decode cX5_pay 15 = .ok (.invokevirtual 164, 3) := by decide +kernel
theorem dX5_pay_18 : decode cX5_pay 18 = .ok (.getfield 255, 3) := by decide +kernel
theorem dX5_pay_21 : decode cX5_pay 21 = .ok (.iadd, 1) := by decide +kernel
theorem dX5_pay_22 : decode cX5_pay 22 = .ok (.istore_n 1, 1) := by decide +kernel
theorem dX5_pay_23 : decode cX5_pay 23 = .ok (.iinc 2 1, 3) := by decide +kernel
theorem dX5_pay_26 : decode cX5_pay 26 = .ok (.goto (-22), 3) := by decide +kernel
theorem dX5_pay_29 : decode cX5_pay 29 = .ok (.iload_n 1, 1) := by decide +kernel
theorem dX5_pay_30 : decode cX5_pay 30 = .ok (.ireturn, 1) := by decide +kernel
theorem dX5_use_0 : decode cX5_use 0 = .ok (.iconst 0, 1) := by decide +kernel
theorem dX5_use_1 : decode cX5_use 1 = .ok (.istore_n 1, 1) := by decide +kernel
theorem dX5_use_2 : decode cX5_use 2 = .ok (.iconst 0, 1) := by decide +kernel
theorem dX5_use_3 : decode cX5_use 3 = .ok (.istore_n 2, 1) := by decide +kernel
theorem dX5_use_4 : decode cX5_use 4 = .ok (.iload_n 2, 1) := by decide +kernel
theorem dX5_use_5 : decode cX5_use 5 = .ok (.aload_n 0, 1) := by decide +kernel
theorem dX5_use_6 : decode cX5_use 6 = .ok (.getfield 10, 3) := by decide +kernel
theorem dX5_use_9 : decode cX5_use 9 = .ok (.getfield 96, 3) := by decide +kernel
theorem dX5_use_12 : decode cX5_use 12 = .ok (.if_icmp .ge 29, 3) := by decide +kernel
theorem dX5_use_15 : decode cX5_use 15 = .ok (.aload_n 0, 1) := by decide +kernel
theorem dX5_use_16 : decode cX5_use 16 = .ok (.iload_n 2, 1) := by decide +kernel
theorem dX5_use_17 : decode cX5_use 17 = .ok (.invokevirtual 174, 3) := by decide +kernel
theorem dX5_use_20 : decode cX5_use 20 = .ok (.iconst (-1), 1) := by decide +kernel
theorem dX5_use_21 : decode cX5_use 21 = .ok (.if_icmp .eq 14, 3) := by decide +kernel
theorem dX5_use_24 : decode cX5_use 24 = .ok (.iload_n 1, 1) := by decide +kernel
theorem dX5_use_25 : decode cX5_use 25 = .ok (.aload_n 0, 1) := by decide +kernel
theorem dX5_use_26 : decode cX5_use 26 = .ok (.getfield 10, 3) := by decide +kernel
theorem dX5_use_29 : decode cX5_use 29 = .ok (.iload_n 2, 1) := by decide +kernel
theorem dX5_use_30 : decode cX5_use 30 = .ok (.invokevirtual 258, 3) := by decide +kernel
theorem dX5_use_33 : decode cX5_use 33 = .ok (.iadd, 1) := by decide +kernel
theorem dX5_use_34 : decode cX5_use 34 = .ok (.istore_n 1, 1) := by decide +kernel
theorem dX5_use_35 : decode cX5_use 35 = .ok (.iinc 2 1, 3) := by decide +kernel
theorem dX5_use_38 : decode cX5_use 38 = .ok (.goto (-34), 3) := by decide +kernel
theorem dX5_use_41 : decode cX5_use 41 = .ok (.iconst 0, 1) := by decide +kernel
theorem dX5_use_42 : decode cX5_use 42 = .ok (.istore_n 2, 1) := by decide +kernel
theorem dX5_use_43 : decode cX5_use 43 = .ok (.iconst 0, 1) := by decide +kernel
theorem dX5_use_44 : decode cX5_use 44 = .ok (.istore_n 3, 1) := by decide +kernel
theorem dX5_use_45 : decode cX5_use 45 = .ok (.iload_n 3, 1) := by decide +kernel
theorem dX5_use_46 : decode cX5_use 46 = .ok (.aload_n 0, 1) := by decide +kernel
theorem dX5_use_47 : decode cX5_use 47 = .ok (.getfield 137, 3) := by decide +kernel
theorem dX5_use_50 : decode cX5_use 50 = .ok (.if_icmp .ge 20, 3) := by decide +kernel
theorem dX5_use_53 : decode cX5_use 53 = .ok (.iload_n 2, 1) := by decide +kernel
theorem dX5_use_54 : decode cX5_use 54 = .ok (.aload_n 0, 1) := by decide +kernel
theorem dX5_use_55 : decode cX5_use 55 = .ok (.iload_n 3, 1) := by decide +kernel
theorem dX5_use_56 : decode cX5_use 56 = .ok (.invokevirtual 164, 3) := by decide +kernel
theorem dX5_use_59 : decode cX5_use 59 = .ok (.getfield 261, 3) := by decide +kernel
theorem dX5_use_62 : decode cX5_use 62 = .ok (.iadd, 1) := by decide +kernel
theorem dX5_use_63 : decode cX5_use 63 = .ok (.istore_n 2, 1) := by decide +kernel
theorem dX5_use_64 : decode cX5_use 64 = .ok (.iinc 3 1, 3) := by decide +kernel
theorem dX5_use_67 : decode cX5_use 67 = .ok (.goto (-22), 3) := by decide +kernel
theorem dX5_use_70 : decode cX5_use 70 = .ok (.iload_n 2, 1) := by decide +kernel
theorem dX5_use_71 : decode cX5_use 71 = .ok (.ifCond .ne 7, 3) := by decide +kernel
theorem dX5_use_74 : decode cX5_use 74 = .ok (.dconst 0, 1) := by decide +kernel
theorem dX5_use_75 : decode cX5_use 75 = .ok (.goto 8, 3) := by decide +kernel
theorem dX5_use_78 : decode cX5_use 78 = .ok (.iload_n 1, 1) := by decide +kernel
theorem dX5_use_79 : decode cX5_use 79 = .ok (.i2d, 1) := by decide +kernel
theorem dX5_use_80 : decode cX5_use 80 = .ok (.iload_n 2, 1) := by decide +kernel
theorem dX5_use_81 : decode cX5_use 81 = .ok (.i2d, 1) := by decide +kernel
theorem dX5_use_82 : decode cX5_use 82 = .ok (.ddiv, 1) := by decide +kernel
theorem dX5_use_83 : decode cX5_use 83 = .ok (.dreturn, 1) := by decide +kernel
theorem dX5_addDriver_0 : decode cX5_addDriver 0 = .ok (.aload_n 0, 1) := by decide +kernel
theorem dX5_addDriver_1 : decode cX5_addDriver 1 = .ok (.getfield 140, 3) := by decide +kernel
theorem dX5_addDriver_4 : decode cX5_addDriver 4 = .ok (.bipush 8, 2) := by decide +kernel
theorem dX5_addDriver_6 : decode cX5_addDriver 6 = .ok (.if_icmp .lt 14, 3) := by decide +kernel
theorem dX5_addDriver_9 : decode cX5_addDriver 9 = .ok (.new 100, 3) := by decide +kernel
theorem dX5_addDriver_12 : decode cX5_addDriver 12 = .ok (.dup, 1) := by decide +kernel
theorem dX5_addDriver_13 : decode cX5_addDriver 13 = .ok (.ldc_w 264, 3) := by decide +kernel
theorem dX5_addDriver_16 : decode cX5_addDriver 16 = .ok (.invokespecial 104, 3) := by decide +kernel
theorem dX5_addDriver_19 : decode cX5_addDriver 19 = .ok (.athrow, 1) := by decide +kernel
theorem dX5_addDriver_20 : decode cX5_addDriver 20 = .ok (.aload_n 0, 1) := by decide +kernel
theorem dX5_addDriver_21 : decode cX5_addDriver 21 = .ok (.dup, 1) := by decide +kernel
theorem dX5_addDriver_22 : decode cX5_addDriver 22 = .ok (.getfield 140, 3) := by decide +kernel
theorem dX5_addDriver_25 : decode cX5_addDriver 25 = .ok (.dup_x1, 1) := by decide +kernel
theorem dX5_addDriver_26 : decode cX5_addDriver 26 = .ok (.iconst 1, 1) := by decide +kernel
theorem dX5_addDriver_27 : decode cX5_addDriver 27 = .ok (.iadd, 1) := by decide +kernel
theorem dX5_addDriver_28 : decode cX5_addDriver 28 = .ok (.putfield 140, 3) := by decide +kernel
theorem dX5_addDriver_31 : decode cX5_addDriver 31 = .ok (.ireturn, 1) := by decide +kernel
theorem dX5_given_0 : decode cX5_given 0 = .ok (.aload_n 0, 1) := by decide +kernel
theorem dX5_given_1 : decode cX5_given 1 = .ok (.iload_n 1, 1) := by decide +kernel
theorem dX5_given_2 : decode cX5_given 2 = .ok (.invokevirtual 266, 3) := by decide +kernel
theorem dX5_given_5 : decode cX5_given 5 = .ok (.ifCond .eq 10, 3) := by decide +kernel
theorem dX5_given_8 : decode cX5_given 8 = .ok (.iload_n 2, 1) := by decide +kernel
theorem dX5_given_9 : decode cX5_given 9 = .ok (.invokestatic 269, 3) := by decide +kernel
theorem dX5_given_12 : decode cX5_given 12 = .ok (.ifCond .ne 14, 3) := by decide +kernel
theorem dX5_given_15 : decode cX5_given 15 = .ok (.new 67, 3) := by decide +kernel
theorem dX5_given_18 : decode cX5_given 18 = .ok (.dup, 1) := by decide +kernel
theorem dX5_given_19 : decode cX5_given 19 = .ok (.ldc_w 286, 3) := by decide +kernel
theorem dX5_given_22 : decode cX5_given 22 = .ok (.invokespecial 71, 3) := by decide +kernel
theorem dX5_given_25 : decode cX5_given 25 = .ok (.athrow, 1) := by decide +kernel
theorem dX5_given_26 : decode cX5_given 26 = .ok (.aload_n 0, 1) := by decide +kernel
theorem dX5_given_27 : decode cX5_given 27 = .ok (.iload_n 1, 1) := by decide +kernel
theorem dX5_given_28 : decode cX5_given 28 = .ok (.iload_n 2, 1) := by decide +kernel
theorem dX5_given_29 : decode cX5_given 29 = .ok (.invokevirtual 288, 3) := by decide +kernel
theorem dX5_given_32 : decode cX5_given 32 = .ok (.ireturn, 1) := by decide +kernel
theorem dX5_fill_0 : decode cX5_fill 0 = .ok (.iload_n 1, 1) := by decide +kernel
theorem dX5_fill_1 : decode cX5_fill 1 = .ok (.invokestatic 269, 3) := by decide +kernel
theorem dX5_fill_4 : decode cX5_fill 4 = .ok (.ifCond .ne 14, 3) := by decide +kernel
theorem dX5_fill_7 : decode cX5_fill 7 = .ok (.new 67, 3) := by decide +kernel
theorem dX5_fill_10 : decode cX5_fill 10 = .ok (.dup, 1) := by decide +kernel
theorem dX5_fill_11 : decode cX5_fill 11 = .ok (.ldc_w 293, 3) := by decide +kernel
theorem dX5_fill_14 : decode cX5_fill 14 = .ok (.invokespecial 71, 3) := by decide +kernel
theorem dX5_fill_17 : decode cX5_fill 17 = .ok (.athrow, 1) := by decide +kernel
theorem dX5_fill_18 : decode cX5_fill 18 = .ok (.aload_n 0, 1) := by decide +kernel
theorem dX5_fill_19 : decode cX5_fill 19 = .ok (.getfield 49, 3) := by decide +kernel
theorem dX5_fill_22 : decode cX5_fill 22 = .ok (.invokevirtual 206, 3) := by decide +kernel
theorem dX5_fill_25 : decode cX5_fill 25 = .ok (.iconst 0, 1) := by decide +kernel
theorem dX5_fill_26 : decode cX5_fill 26 = .ok (.istore_n 2, 1) := by decide +kernel
theorem dX5_fill_27 : decode cX5_fill 27 = .ok (.iload_n 2, 1) := by decide +kernel
theorem dX5_fill_28 : decode cX5_fill 28 = .ok (.aload_n 0, 1) := by decide +kernel
theorem dX5_fill_29 : decode cX5_fill 29 = .ok (.getfield 137, 3) := by decide +kernel
theorem dX5_fill_32 : decode cX5_fill 32 = .ok (.if_icmp .ge 34, 3) := by decide +kernel
theorem dX5_fill_35 : decode cX5_fill 35 = .ok (.aload_n 0, 1) := by decide +kernel
theorem dX5_fill_36 : decode cX5_fill 36 = .ok (.iload_n 2, 1) := by decide +kernel
theorem dX5_fill_37 : decode cX5_fill 37 = .ok (.iload_n 1, 1) := by decide +kernel
theorem dX5_fill_38 : decode cX5_fill 38 = .ok (.invokevirtual 295, 3) := by decide +kernel
theorem dX5_fill_41 : decode cX5_fill 41 = .ok (.ifCond .eq 19, 3) := by decide +kernel
theorem dX5_fill_44 : decode cX5_fill 44 = .ok (.aload_n 0, 1) := by decide +kernel
theorem dX5_fill_45 : decode cX5_fill 45 = .ok (.getfield 49, 3) := by decide +kernel
theorem dX5_fill_48 : decode cX5_fill 48 = .ok (.aload_n 0, 1) := by decide +kernel
theorem dX5_fill_49 : decode cX5_fill 49 = .ok (.iload_n 2, 1) := by decide +kernel
theorem dX5_fill_50 : decode cX5_fill 50 = .ok (.invokevirtual 164, 3) := by decide +kernel
theorem dX5_fill_53 : decode cX5_fill 53 = .ok (.getfield 298, 3) := by decide +kernel
theorem dX5_fill_56 : decode cX5_fill 56 = .ok (.iload_n 2, 1) := by decide +kernel
theorem dX5_fill_57 : decode cX5_fill 57 = .ok (.invokevirtual 212, 3) := by decide +kernel
theorem dX5_fill_60 : decode cX5_fill 60 = .ok (.iinc 2 1, 3) := by decide +kernel
theorem dX5_fill_63 : decode cX5_fill 63 = .ok (.goto (-36), 3) := by decide +kernel
theorem dX5_fill_66 : decode cX5_fill 66 = .ok (.iconst 0, 1) := by decide +kernel
theorem dX5_fill_67 : decode cX5_fill 67 = .ok (.istore_n 2, 1) := by decide +kernel
theorem dX5_fill_68 : decode cX5_fill 68 = .ok (.iload_n 2, 1) := by decide +kernel
theorem dX5_fill_69 : decode cX5_fill 69 = .ok (.aload_n 0, 1) := by decide +kernel
theorem dX5_fill_70 : decode cX5_fill 70 = .ok (.getfield 49, 3) := by decide +kernel
theorem dX5_fill_73 : decode cX5_fill 73 = .ok (.getfield 215, 3) := by decide +kernel
theorem dX5_fill_76 : decode cX5_fill 76 = .ok (.if_icmp .ge 22, 3) := by decide +kernel
theorem dX5_fill_79 : decode cX5_fill 79 = .ok (.aload_n 0, 1) := by decide +kernel
theorem dX5_fill_80 : decode cX5_fill 80 = .ok (.aload_n 0, 1) := by decide +kernel
theorem dX5_fill_81 : decode cX5_fill 81 = .ok (.getfield 49, 3) := by decide +kernel
theorem dX5_fill_84 : decode cX5_fill 84 = .ok (.iload_n 2, 1) := by decide +kernel
theorem dX5_fill_85 : decode cX5_fill 85 = .ok (.invokevirtual 216, 3) := by decide +kernel
theorem dX5_fill_88 : decode cX5_fill 88 = .ok (.iload_n 1, 1) := by decide +kernel
theorem dX5_fill_89 : decode cX5_fill 89 = .ok (.invokevirtual 301, 3) := by decide +kernel
theorem dX5_fill_92 : decode cX5_fill 92 = .ok (.iinc 2 1, 3) := by decide +kernel
theorem dX5_fill_95 : decode cX5_fill 95 = .ok (.goto (-27), 3) := by decide +kernel
theorem dX5_fill_98 : decode cX5_fill 98 = .ok (.aload_n 0, 1) := by decide +kernel
theorem dX5_fill_99 : decode cX5_fill 99 = .ok (.iload_n 1, 1) := by decide +kernel
theorem dX5_fill_100 : decode cX5_fill 100 = .ok (.invokevirtual 304, 3) := by decide +kernel
theorem dX5_fill_103 : decode cX5_fill 103 = .ok (.ireturn, 1) := by decide +kernel
theorem dX5_week_0 : decode cX5_week 0 = .ok (.aload_n 0, 1) := by decide +kernel
theorem dX5_week_1 : decode cX5_week 1 = .ok (.iload_n 1, 1) := by decide +kernel
theorem dX5_week_2 : decode cX5_week 2 = .ok (.invokevirtual 266, 3) := by decide +kernel
theorem dX5_week_5 : decode cX5_week 5 = .ok (.ifCond .ne 14, 3) := by decide +kernel
theorem dX5_week_8 : decode cX5_week 8 = .ok (.new 67, 3) := by decide +kernel
theorem dX5_week_11 : decode cX5_week 11 = .ok (.dup, 1) := by decide +kernel
theorem dX5_week_12 : decode cX5_week 12 = .ok (.ldc_w 307, 3) := by decide +kernel
theorem dX5_week_15 : decode cX5_week 15 = .ok (.invokespecial 71, 3) := by decide +kernel
theorem dX5_week_18 : decode cX5_week 18 = .ok (.athrow, 1) := by decide +kernel
theorem dX5_week_19 : decode cX5_week 19 = .ok (.aload_n 0, 1) := by decide +kernel
theorem dX5_week_20 : decode cX5_week 20 = .ok (.iload_n 1, 1) := by decide +kernel
theorem dX5_week_21 : decode cX5_week 21 = .ok (.invokevirtual 283, 3) := by decide +kernel
theorem dX5_week_24 : decode cX5_week 24 = .ok (.ireturn, 1) := by decide +kernel
theorem dX5_rest_0 : decode cX5_rest 0 = .ok (.aload_n 0, 1) := by decide +kernel
theorem dX5_rest_1 : decode cX5_rest 1 = .ok (.iload_n 1, 1) := by decide +kernel
theorem dX5_rest_2 : decode cX5_rest 2 = .ok (.invokevirtual 266, 3) := by decide +kernel
theorem dX5_rest_5 : decode cX5_rest 5 = .ok (.ifCond .eq 14, 3) := by decide +kernel
theorem dX5_rest_8 : decode cX5_rest 8 = .ok (.iload_n 2, 1) := by decide +kernel
theorem dX5_rest_9 : decode cX5_rest 9 = .ok (.invokestatic 269, 3) := by decide +kernel
theorem dX5_rest_12 : decode cX5_rest 12 = .ok (.ifCond .eq 7, 3) := by decide +kernel
theorem dX5_rest_15 : decode cX5_rest 15 = .ok (.iload_n 2, 1) := by decide +kernel
theorem dX5_rest_16 : decode cX5_rest 16 = .ok (.ifCond .ne 14, 3) := by decide +kernel
theorem dX5_rest_19 : decode cX5_rest 19 = .ok (.new 67, 3) := by decide +kernel
theorem dX5_rest_22 : decode cX5_rest 22 = .ok (.dup, 1) := by decide +kernel
theorem dX5_rest_23 : decode cX5_rest 23 = .ok (.ldc_w 309, 3) := by decide +kernel
theorem dX5_rest_26 : decode cX5_rest 26 = .ok (.invokespecial 71, 3) := by decide +kernel
theorem dX5_rest_29 : decode cX5_rest 29 = .ok (.athrow, 1) := by decide +kernel
theorem dX5_rest_30 : decode cX5_rest 30 = .ok (.aload_n 0, 1) := by decide +kernel
theorem dX5_rest_31 : decode cX5_rest 31 = .ok (.iload_n 1, 1) := by decide +kernel
theorem dX5_rest_32 : decode cX5_rest 32 = .ok (.iload_n 2, 1) := by decide +kernel
theorem dX5_rest_33 : decode cX5_rest 33 = .ok (.iconst 1, 1) := by decide +kernel
theorem dX5_rest_34 : decode cX5_rest 34 = .ok (.isub, 1) := by decide +kernel
theorem dX5_rest_35 : decode cX5_rest 35 = .ok (.invokevirtual 288, 3) := by decide +kernel
theorem dX5_rest_38 : decode cX5_rest 38 = .ok (.istore_n 3, 1) := by decide +kernel
theorem dX5_rest_39 : decode cX5_rest 39 = .ok (.aload_n 0, 1) := by decide +kernel
theorem dX5_rest_40 : decode cX5_rest 40 = .ok (.iload_n 1, 1) := by decide +kernel
theorem dX5_rest_41 : decode cX5_rest 41 = .ok (.iload_n 2, 1) := by decide +kernel
theorem dX5_rest_42 : decode cX5_rest 42 = .ok (.invokevirtual 288, 3) := by decide +kernel
theorem dX5_rest_45 : decode cX5_rest 45 = .ok (.istore 4, 2) := by decide +kernel
theorem dX5_rest_47 : decode cX5_rest 47 = .ok (.iload_n 3, 1) := by decide +kernel
theorem dX5_rest_48 : decode cX5_rest 48 = .ok (.iconst (-1), 1) := by decide +kernel
theorem dX5_rest_49 : decode cX5_rest 49 = .ok (.if_icmp .eq 9, 3) := by decide +kernel
theorem dX5_rest_52 : decode cX5_rest 52 = .ok (.iload 4, 2) := by decide +kernel
theorem dX5_rest_54 : decode cX5_rest 54 = .ok (.iconst (-1), 1) := by decide +kernel
theorem dX5_rest_55 : decode cX5_rest 55 = .ok (.if_icmp .ne 7, 3) := by decide +kernel
theorem dX5_rest_58 : decode cX5_rest 58 = .ok (.iconst (-1), 1) := by decide +kernel
theorem dX5_rest_59 : decode cX5_rest 59 = .ok (.goto 10, 3) := by decide +kernel
theorem dX5_rest_62 : decode cX5_rest 62 = .ok (.aload_n 0, 1) := by decide +kernel
theorem dX5_rest_63 : decode cX5_rest 63 = .ok (.iload_n 3, 1) := by decide +kernel
theorem dX5_rest_64 : decode cX5_rest 64 = .ok (.iload 4, 2) := by decide +kernel
theorem dX5_rest_66 : decode cX5_rest 66 = .ok (.invokevirtual 311, 3) := by decide +kernel
theorem dX5_rest_69 : decode cX5_rest 69 = .ok (.ireturn, 1) := by decide +kernel
theorem dX5_isPoint_0 : decode cX5_isPoint 0 = .ok (.iload_n 0, 1) := by decide +kernel
theorem dX5_isPoint_1 : decode cX5_isPoint 1 = .ok (.ifCond .lt 13, 3) := by decide +kernel
theorem dX5_isPoint_4 : decode cX5_isPoint 4 = .ok (.iload_n 0, 1) := by decide +kernel
theorem dX5_isPoint_5 : decode cX5_isPoint 5 = .ok (.bipush 6, 2) := by decide +kernel
theorem dX5_isPoint_7 : decode cX5_isPoint 7 = .ok (.if_icmp .ge 7, 3) := by decide +kernel
theorem dX5_isPoint_10 : decode cX5_isPoint 10 = .ok (.iconst 1, 1) := by decide +kernel
theorem dX5_isPoint_11 : decode cX5_isPoint 11 = .ok (.goto 4, 3) := by decide +kernel
theorem dX5_isPoint_14 : decode cX5_isPoint 14 = .ok (.iconst 0, 1) := by decide +kernel
theorem dX5_isPoint_15 : decode cX5_isPoint 15 = .ok (.ireturn, 1) := by decide +kernel
theorem dX5_isDay_0 : decode cX5_isDay 0 = .ok (.iload_n 0, 1) := by decide +kernel
theorem dX5_isDay_1 : decode cX5_isDay 1 = .ok (.ifCond .lt 13, 3) := by decide +kernel
theorem dX5_isDay_4 : decode cX5_isDay 4 = .ok (.iload_n 0, 1) := by decide +kernel
theorem dX5_isDay_5 : decode cX5_isDay 5 = .ok (.bipush 7, 2) := by decide +kernel
theorem dX5_isDay_7 : decode cX5_isDay 7 = .ok (.if_icmp .ge 7, 3) := by decide +kernel
theorem dX5_isDay_10 : decode cX5_isDay 10 = .ok (.iconst 1, 1) := by decide +kernel
theorem dX5_isDay_11 : decode cX5_isDay 11 = .ok (.goto 4, 3) := by decide +kernel
theorem dX5_isDay_14 : decode cX5_isDay 14 = .ok (.iconst 0, 1) := by decide +kernel
theorem dX5_isDay_15 : decode cX5_isDay 15 = .ok (.ireturn, 1) := by decide +kernel
theorem dX5_areTimesOfTrip_0 : decode cX5_areTimesOfTrip 0 = .ok (.iload_n 0, 1) := by decide +kernel
theorem dX5_areTimesOfTrip_1 : decode cX5_areTimesOfTrip 1 = .ok (.ifCond .lt 28, 3) := by decide +kernel
theorem dX5_areTimesOfTrip_4 : decode cX5_areTimesOfTrip 4 = .ok (.iload_n 1, 1) := by decide +kernel
theorem dX5_areTimesOfTrip_5 : decode cX5_areTimesOfTrip 5 = .ok (.iload_n 0, 1) := by decide +kernel
theorem dX5_areTimesOfTrip_6 : decode cX5_areTimesOfTrip 6 = .ok (.if_icmp .le 23, 3) := by decide +kernel
theorem dX5_areTimesOfTrip_9 : decode cX5_areTimesOfTrip 9 = .ok (.iload_n 1, 1) := by decide +kernel
theorem dX5_areTimesOfTrip_10 : decode cX5_areTimesOfTrip 10 = .ok (.sipush 1799, 3) := by decide +kernel
theorem dX5_areTimesOfTrip_13 : decode cX5_areTimesOfTrip 13 = .ok (.if_icmp .gt 16, 3) := by decide +kernel
theorem dX5_areTimesOfTrip_16 : decode cX5_areTimesOfTrip 16 = .ok (.iload_n 1, 1) := by decide +kernel
theorem dX5_areTimesOfTrip_17 : decode cX5_areTimesOfTrip 17 = .ok (.iload_n 0, 1) := by decide +kernel
theorem dX5_areTimesOfTrip_18 : decode cX5_areTimesOfTrip 18 = .ok (.isub, 1) := by decide +kernel
theorem dX5_areTimesOfTrip_19 : decode cX5_areTimesOfTrip 19 = .ok (.sipush 240, 3) := by decide +kernel
theorem dX5_areTimesOfTrip_22 : decode cX5_areTimesOfTrip 22 = .ok (.if_icmp .gt 7, 3) := by decide +kernel
theorem dX5_areTimesOfTrip_25 : decode cX5_areTimesOfTrip 25 = .ok (.iconst 1, 1) := by decide +kernel
theorem dX5_areTimesOfTrip_26 : decode cX5_areTimesOfTrip 26 = .ok (.goto 4, 3) := by decide +kernel
theorem dX5_areTimesOfTrip_29 : decode cX5_areTimesOfTrip 29 = .ok (.iconst 0, 1) := by decide +kernel
theorem dX5_areTimesOfTrip_30 : decode cX5_areTimesOfTrip 30 = .ok (.ireturn, 1) := by decide +kernel
theorem dX5_isTrip_0 : decode cX5_isTrip 0 = .ok (.iload_n 1, 1) := by decide +kernel
theorem dX5_isTrip_1 : decode cX5_isTrip 1 = .ok (.ifCond .lt 18, 3) := by decide +kernel
theorem dX5_isTrip_4 : decode cX5_isTrip 4 = .ok (.iload_n 1, 1) := by decide +kernel
theorem dX5_isTrip_5 : decode cX5_isTrip 5 = .ok (.aload_n 0, 1) := by decide +kernel
theorem dX5_isTrip_6 : decode cX5_isTrip 6 = .ok (.getfield 10, 3) := by decide +kernel
theorem dX5_isTrip_9 : decode cX5_isTrip 9 = .ok (.getfield 96, 3) := by decide +kernel
theorem dX5_isTrip_12 : decode cX5_isTrip 12 = .ok (.if_icmp .ge 7, 3) := by decide +kernel
theorem dX5_isTrip_15 : decode cX5_isTrip 15 = .ok (.iconst 1, 1) := by decide +kernel
theorem dX5_isTrip_16 : decode cX5_isTrip 16 = .ok (.goto 4, 3) := by decide +kernel
theorem dX5_isTrip_19 : decode cX5_isTrip 19 = .ok (.iconst 0, 1) := by decide +kernel
theorem dX5_isTrip_20 : decode cX5_isTrip 20 = .ok (.ireturn, 1) := by decide +kernel
theorem dX5_isDuty_0 : decode cX5_isDuty 0 = .ok (.iload_n 1, 1) := by decide +kernel
theorem dX5_isDuty_1 : decode cX5_isDuty 1 = .ok (.ifCond .lt 15, 3) := by decide +kernel
theorem dX5_isDuty_4 : decode cX5_isDuty 4 = .ok (.iload_n 1, 1) := by decide +kernel
theorem dX5_isDuty_5 : decode cX5_isDuty 5 = .ok (.aload_n 0, 1) := by decide +kernel
theorem dX5_isDuty_6 : decode cX5_isDuty 6 = .ok (.getfield 137, 3) := by decide +kernel
theorem dX5_isDuty_9 : decode cX5_isDuty 9 = .ok (.if_icmp .ge 7, 3) := by decide +kernel
theorem dX5_isDuty_12 : decode cX5_isDuty 12 = .ok (.iconst 1, 1) := by decide +kernel
theorem dX5_isDuty_13 : decode cX5_isDuty 13 = .ok (.goto 4, 3) := by decide +kernel
theorem dX5_isDuty_16 : decode cX5_isDuty 16 = .ok (.iconst 0, 1) := by decide +kernel
theorem dX5_isDuty_17 : decode cX5_isDuty 17 = .ok (.ireturn, 1) := by decide +kernel
theorem dX5_isDriver_0 : decode cX5_isDriver 0 = .ok (.iload_n 1, 1) := by decide +kernel
theorem dX5_isDriver_1 : decode cX5_isDriver 1 = .ok (.ifCond .lt 15, 3) := by decide +kernel
theorem dX5_isDriver_4 : decode cX5_isDriver 4 = .ok (.iload_n 1, 1) := by decide +kernel
theorem dX5_isDriver_5 : decode cX5_isDriver 5 = .ok (.aload_n 0, 1) := by decide +kernel
theorem dX5_isDriver_6 : decode cX5_isDriver 6 = .ok (.getfield 140, 3) := by decide +kernel
theorem dX5_isDriver_9 : decode cX5_isDriver 9 = .ok (.if_icmp .ge 7, 3) := by decide +kernel
theorem dX5_isDriver_12 : decode cX5_isDriver 12 = .ok (.iconst 1, 1) := by decide +kernel
theorem dX5_isDriver_13 : decode cX5_isDriver 13 = .ok (.goto 4, 3) := by decide +kernel
theorem dX5_isDriver_16 : decode cX5_isDriver 16 = .ok (.iconst 0, 1) := by decide +kernel
theorem dX5_isDriver_17 : decode cX5_isDriver 17 = .ok (.ireturn, 1) := by decide +kernel
theorem dX5_dutyAt_0 : decode cX5_dutyAt 0 = .ok (.iload_n 1, 1) := by decide +kernel
theorem dX5_dutyAt_1 : decode cX5_dutyAt 1 = .ok (.ifCond .lt 21, 3) := by decide +kernel
theorem dX5_dutyAt_4 : decode cX5_dutyAt 4 = .ok (.iload_n 1, 1) := by decide +kernel
theorem dX5_dutyAt_5 : decode cX5_dutyAt 5 = .ok (.aload_n 0, 1) := by decide +kernel
theorem dX5_dutyAt_6 : decode cX5_dutyAt 6 = .ok (.getfield 25, 3) := by decide +kernel
theorem dX5_dutyAt_9 : decode cX5_dutyAt 9 = .ok (.arraylength, 1) := by decide +kernel
theorem dX5_dutyAt_10 : decode cX5_dutyAt 10 = .ok (.if_icmp .ge 12, 3) := by decide +kernel
theorem dX5_dutyAt_13 : decode cX5_dutyAt 13 = .ok (.aload_n 0, 1) := by decide +kernel
theorem dX5_dutyAt_14 : decode cX5_dutyAt 14 = .ok (.getfield 25, 3) := by decide +kernel
theorem dX5_dutyAt_17 : decode cX5_dutyAt 17 = .ok (.iload_n 1, 1) := by decide +kernel
theorem dX5_dutyAt_18 : decode cX5_dutyAt 18 = .ok (.aaload, 1) := by decide +kernel
theorem dX5_dutyAt_19 : decode cX5_dutyAt 19 = .ok (.goto 7, 3) := by decide +kernel
theorem dX5_dutyAt_22 : decode cX5_dutyAt 22 = .ok (.aload_n 0, 1) := by decide +kernel
theorem dX5_dutyAt_23 : decode cX5_dutyAt 23 = .ok (.getfield 60, 3) := by decide +kernel
theorem dX5_dutyAt_26 : decode cX5_dutyAt 26 = .ok (.astore_n 2, 1) := by decide +kernel
theorem dX5_dutyAt_27 : decode cX5_dutyAt 27 = .ok (.aload_n 2, 1) := by decide +kernel
theorem dX5_dutyAt_28 : decode cX5_dutyAt 28 = .ok (.ifnonnull 10, 3) := by decide +kernel
theorem dX5_dutyAt_31 : decode cX5_dutyAt 31 = .ok (.aload_n 0, 1) := by decide +kernel
theorem dX5_dutyAt_32 : decode cX5_dutyAt 32 = .ok (.getfield 60, 3) := by decide +kernel
theorem dX5_dutyAt_35 : decode cX5_dutyAt 35 = .ok (.goto 4, 3) := by decide +kernel
theorem dX5_dutyAt_38 : decode cX5_dutyAt 38 = .ok (.aload_n 2, 1) := by decide +kernel
theorem dX5_dutyAt_39 : decode cX5_dutyAt 39 = .ok (.areturn, 1) := by decide +kernel
theorem dX5_dutyOf_0 : decode cX5_dutyOf 0 = .ok (.iload_n 1, 1) := by decide +kernel
theorem dX5_dutyOf_1 : decode cX5_dutyOf 1 = .ok (.ifCond .lt 21, 3) := by decide +kernel
theorem dX5_dutyOf_4 : decode cX5_dutyOf 4 = .ok (.iload_n 1, 1) := by decide +kernel
theorem dX5_dutyOf_5 : decode cX5_dutyOf 5 = .ok (.aload_n 0, 1) := by decide +kernel
theorem dX5_dutyOf_6 : decode cX5_dutyOf 6 = .ok (.getfield 29, 3) := by decide +kernel
theorem dX5_dutyOf_9 : decode cX5_dutyOf 9 = .ok (.arraylength, 1) := by decide +kernel
theorem dX5_dutyOf_10 : decode cX5_dutyOf 10 = .ok (.if_icmp .ge 12, 3) := by decide +kernel
theorem dX5_dutyOf_13 : decode cX5_dutyOf 13 = .ok (.aload_n 0, 1) := by decide +kernel
theorem dX5_dutyOf_14 : decode cX5_dutyOf 14 = .ok (.getfield 29, 3) := by decide +kernel
theorem dX5_dutyOf_17 : decode cX5_dutyOf 17 = .ok (.iload_n 1, 1) := by decide +kernel
theorem dX5_dutyOf_18 : decode cX5_dutyOf 18 = .ok (.iaload, 1) := by decide +kernel
theorem dX5_dutyOf_19 : decode cX5_dutyOf 19 = .ok (.goto 4, 3) := by decide +kernel
theorem dX5_dutyOf_22 : decode cX5_dutyOf 22 = .ok (.iconst (-1), 1) := by decide +kernel
theorem dX5_dutyOf_23 : decode cX5_dutyOf 23 = .ok (.ireturn, 1) := by decide +kernel
theorem dX5_assign_0 : decode cX5_assign 0 = .ok (.iload_n 1, 1) := by decide +kernel
theorem dX5_assign_1 : decode cX5_assign 1 = .ok (.ifCond .lt 19, 3) := by decide +kernel
theorem dX5_assign_4 : decode cX5_assign 4 = .ok (.iload_n 1, 1) := by decide +kernel
theorem dX5_assign_5 : decode cX5_assign 5 = .ok (.aload_n 0, 1) := by decide +kernel
theorem dX5_assign_6 : decode cX5_assign 6 = .ok (.getfield 29, 3) := by decide +kernel
theorem dX5_assign_9 : decode cX5_assign 9 = .ok (.arraylength, 1) := by decide +kernel
theorem dX5_assign_10 : decode cX5_assign 10 = .ok (.if_icmp .ge 10, 3) := by decide +kernel
theorem dX5_assign_13 : decode cX5_assign 13 = .ok (.aload_n 0, 1) := by decide +kernel
theorem dX5_assign_14 : decode cX5_assign 14 = .ok (.getfield 29, 3) := by decide +kernel
theorem dX5_assign_17 : decode cX5_assign 17 = .ok (.iload_n 1, 1) := by decide +kernel
theorem dX5_assign_18 : decode cX5_assign 18 = .ok (.iload_n 2, 1) := by decide +kernel
theorem dX5_assign_19 : decode cX5_assign 19 = .ok (.iastore, 1) := by decide +kernel
theorem dX5_assign_20 : decode cX5_assign 20 = .ok (.return_, 1) := by decide +kernel
theorem dX5_tripFact_0 : decode cX5_tripFact 0 = .ok (.iload_n 2, 1) := by decide +kernel
theorem dX5_tripFact_1 : decode cX5_tripFact 1 = .ok (.tableswitch 67 0 3 #[31, 40, 49, 58], 31) := by decide +kernel
theorem dX5_tripFact_32 : decode cX5_tripFact 32 = .ok (.aload_n 0, 1) := by decide +kernel
theorem dX5_tripFact_33 : decode cX5_tripFact 33 = .ok (.getfield 10, 3) := by decide +kernel
theorem dX5_tripFact_36 : decode cX5_tripFact 36 = .ok (.iload_n 1, 1) := by decide +kernel
theorem dX5_tripFact_37 : decode cX5_tripFact 37 = .ok (.invokevirtual 318, 3) := by decide +kernel
theorem dX5_tripFact_40 : decode cX5_tripFact 40 = .ok (.ireturn, 1) := by decide +kernel
theorem dX5_tripFact_41 : decode cX5_tripFact 41 = .ok (.aload_n 0, 1) := by decide +kernel
theorem dX5_tripFact_42 : decode cX5_tripFact 42 = .ok (.getfield 10, 3) := by decide +kernel
theorem dX5_tripFact_45 : decode cX5_tripFact 45 = .ok (.iload_n 1, 1) := by decide +kernel
theorem dX5_tripFact_46 : decode cX5_tripFact 46 = .ok (.invokevirtual 321, 3) := by decide +kernel
theorem dX5_tripFact_49 : decode cX5_tripFact 49 = .ok (.ireturn, 1) := by decide +kernel
theorem dX5_tripFact_50 : decode cX5_tripFact 50 = .ok (.aload_n 0, 1) := by decide +kernel
theorem dX5_tripFact_51 : decode cX5_tripFact 51 = .ok (.getfield 10, 3) := by decide +kernel
theorem dX5_tripFact_54 : decode cX5_tripFact 54 = .ok (.iload_n 1, 1) := by decide +kernel
theorem dX5_tripFact_55 : decode cX5_tripFact 55 = .ok (.invokevirtual 209, 3) := by decide +kernel
theorem dX5_tripFact_58 : decode cX5_tripFact 58 = .ok (.ireturn, 1) := by decide +kernel
theorem dX5_tripFact_59 : decode cX5_tripFact 59 = .ok (.aload_n 0, 1) := by decide +kernel
theorem dX5_tripFact_60 : decode cX5_tripFact 60 = .ok (.getfield 10, 3) := by decide +kernel
theorem dX5_tripFact_63 : decode cX5_tripFact 63 = .ok (.iload_n 1, 1) := by decide +kernel
theorem dX5_tripFact_64 : decode cX5_tripFact 64 = .ok (.invokevirtual 324, 3) := by decide +kernel
theorem dX5_tripFact_67 : decode cX5_tripFact 67 = .ok (.ireturn, 1) := by decide +kernel
theorem dX5_tripFact_68 : decode cX5_tripFact 68 = .ok (.aload_n 0, 1) := by decide +kernel
theorem dX5_tripFact_69 : decode cX5_tripFact 69 = .ok (.iload_n 1, 1) := by decide +kernel
theorem dX5_tripFact_70 : decode cX5_tripFact 70 = .ok (.invokevirtual 174, 3) := by decide +kernel
theorem dX5_tripFact_73 : decode cX5_tripFact 73 = .ok (.ireturn, 1) := by decide +kernel
theorem dX5_dutyFact_0 : decode cX5_dutyFact 0 = .ok (.aload_n 0, 1) := by decide +kernel
theorem dX5_dutyFact_1 : decode cX5_dutyFact 1 = .ok (.iload_n 1, 1) := by decide +kernel
theorem dX5_dutyFact_2 : decode cX5_dutyFact 2 = .ok (.invokevirtual 164, 3) := by decide +kernel
theorem dX5_dutyFact_5 : decode cX5_dutyFact 5 = .ok (.astore_n 3, 1) := by decide +kernel
theorem dX5_dutyFact_6 : decode cX5_dutyFact 6 = .ok (.iload_n 2, 1) := by decide +kernel
theorem dX5_dutyFact_7 : decode cX5_dutyFact 7 = .ok (.tableswitch 93 0 7 #[45, 50, 55, 60, 65, 70, 75, 80], 45) := by decide +kernel
theorem dX5_dutyFact_52 : decode cX5_dutyFact 52 = .ok (.aload_n 3, 1) := by decide +kernel
theorem dX5_dutyFact_53 : decode cX5_dutyFact 53 = .ok (.getfield 197, 3) := by decide +kernel
theorem dX5_dutyFact_56 : decode cX5_dutyFact 56 = .ok (.ireturn, 1) := by decide +kernel
theorem dX5_dutyFact_57 : decode cX5_dutyFact 57 = .ok (.aload_n 3, 1) := by decide +kernel
theorem dX5_dutyFact_58 : decode cX5_dutyFact 58 = .ok (.getfield 298, 3) := by decide +kernel
theorem dX5_dutyFact_61 : decode cX5_dutyFact 61 = .ok (.ireturn, 1) := by decide +kernel
theorem dX5_dutyFact_62 : decode cX5_dutyFact 62 = .ok (.aload_n 3, 1) := by decide +kernel
theorem dX5_dutyFact_63 : decode cX5_dutyFact 63 = .ok (.getfield 327, 3) := by decide +kernel
theorem dX5_dutyFact_66 : decode cX5_dutyFact 66 = .ok (.ireturn, 1) := by decide +kernel
theorem dX5_dutyFact_67 : decode cX5_dutyFact 67 = .ok (.aload_n 3, 1) := by decide +kernel
theorem dX5_dutyFact_68 : decode cX5_dutyFact 68 = .ok (.getfield 261, 3) := by decide +kernel
theorem dX5_dutyFact_71 : decode cX5_dutyFact 71 = .ok (.ireturn, 1) := by decide +kernel
theorem dX5_dutyFact_72 : decode cX5_dutyFact 72 = .ok (.aload_n 3, 1) := by decide +kernel
theorem dX5_dutyFact_73 : decode cX5_dutyFact 73 = .ok (.getfield 255, 3) := by decide +kernel
theorem dX5_dutyFact_76 : decode cX5_dutyFact 76 = .ok (.ireturn, 1) := by decide +kernel
theorem dX5_dutyFact_77 : decode cX5_dutyFact 77 = .ok (.aload_n 3, 1) := by decide +kernel
theorem dX5_dutyFact_78 : decode cX5_dutyFact 78 = .ok (.getfield 330, 3) := by decide +kernel
theorem dX5_dutyFact_81 : decode cX5_dutyFact 81 = .ok (.ireturn, 1) := by decide +kernel
theorem dX5_dutyFact_82 : decode cX5_dutyFact 82 = .ok (.aload_n 3, 1) := by decide +kernel
theorem dX5_dutyFact_83 : decode cX5_dutyFact 83 = .ok (.getfield 333, 3) := by decide +kernel
theorem dX5_dutyFact_86 : decode cX5_dutyFact 86 = .ok (.ireturn, 1) := by decide +kernel
theorem dX5_dutyFact_87 : decode cX5_dutyFact 87 = .ok (.aload_n 3, 1) := by decide +kernel
theorem dX5_dutyFact_88 : decode cX5_dutyFact 88 = .ok (.getfield 336, 3) := by decide +kernel
theorem dX5_dutyFact_91 : decode cX5_dutyFact 91 = .ok (.ifCond .eq 7, 3) := by decide +kernel
theorem dX5_dutyFact_94 : decode cX5_dutyFact 94 = .ok (.iconst 1, 1) := by decide +kernel
theorem dX5_dutyFact_95 : decode cX5_dutyFact 95 = .ok (.goto 4, 3) := by decide +kernel
theorem dX5_dutyFact_98 : decode cX5_dutyFact 98 = .ok (.iconst 0, 1) := by decide +kernel
theorem dX5_dutyFact_99 : decode cX5_dutyFact 99 = .ok (.ireturn, 1) := by decide +kernel
theorem dX5_dutyFact_100 : decode cX5_dutyFact 100 = .ok (.aload_n 0, 1) := by decide +kernel
theorem dX5_dutyFact_101 : decode cX5_dutyFact 101 = .ok (.iload_n 1, 1) := by decide +kernel
theorem dX5_dutyFact_102 : decode cX5_dutyFact 102 = .ok (.invokevirtual 177, 3) := by decide +kernel
theorem dX5_dutyFact_105 : decode cX5_dutyFact 105 = .ok (.ifCond .eq 7, 3) := by decide +kernel
theorem dX5_dutyFact_108 : decode cX5_dutyFact 108 = .ok (.iconst 1, 1) := by decide +kernel
theorem dX5_dutyFact_109 : decode cX5_dutyFact 109 = .ok (.goto 4, 3) := by decide +kernel
theorem dX5_dutyFact_112 : decode cX5_dutyFact 112 = .ok (.iconst 0, 1) := by decide +kernel
theorem dX5_dutyFact_113 : decode cX5_dutyFact 113 = .ok (.ireturn, 1) := by decide +kernel
theorem dX5_freeTrips_0 : decode cX5_freeTrips 0 = .ok (.iconst 0, 1) := by decide +kernel
theorem dX5_freeTrips_1 : decode cX5_freeTrips 1 = .ok (.istore_n 1, 1) := by decide +kernel
theorem dX5_freeTrips_2 : decode cX5_freeTrips 2 = .ok (.iconst 0, 1) := by decide +kernel
theorem dX5_freeTrips_3 : decode cX5_freeTrips 3 = .ok (.istore_n 2, 1) := by decide +kernel
theorem dX5_freeTrips_4 : decode cX5_freeTrips 4 = .ok (.iload_n 2, 1) := by decide +kernel
theorem dX5_freeTrips_5 : decode cX5_freeTrips 5 = .ok (.aload_n 0, 1) := by decide +kernel
theorem dX5_freeTrips_6 : decode cX5_freeTrips 6 = .ok (.getfield 10, 3) := by decide +kernel
theorem dX5_freeTrips_9 : decode cX5_freeTrips 9 = .ok (.getfield 96, 3) := by decide +kernel
theorem dX5_freeTrips_12 : decode cX5_freeTrips 12 = .ok (.if_icmp .ge 21, 3) := by decide +kernel
theorem dX5_freeTrips_15 : decode cX5_freeTrips 15 = .ok (.aload_n 0, 1) := by decide +kernel
theorem dX5_freeTrips_16 : decode cX5_freeTrips 16 = .ok (.iload_n 2, 1) := by decide +kernel
theorem dX5_freeTrips_17 : decode cX5_freeTrips 17 = .ok (.invokevirtual 174, 3) := by decide +kernel
theorem dX5_freeTrips_20 : decode cX5_freeTrips 20 = .ok (.iconst (-1), 1) := by decide +kernel
theorem dX5_freeTrips_21 : decode cX5_freeTrips 21 = .ok (.if_icmp .ne 6, 3) := by decide +kernel
theorem dX5_freeTrips_24 : decode cX5_freeTrips 24 = .ok (.iinc 1 1, 3) := by decide +kernel
theorem dX5_freeTrips_27 : decode cX5_freeTrips 27 = .ok (.iinc 2 1, 3) := by decide +kernel
theorem dX5_freeTrips_30 : decode cX5_freeTrips 30 = .ok (.goto (-26), 3) := by decide +kernel
theorem dX5_freeTrips_33 : decode cX5_freeTrips 33 = .ok (.iload_n 1, 1) := by decide +kernel
theorem dX5_freeTrips_34 : decode cX5_freeTrips 34 = .ok (.ireturn, 1) := by decide +kernel
theorem dX5_tryPut_0 : decode cX5_tryPut 0 = .ok (.aload_n 0, 1) := by decide +kernel
theorem dX5_tryPut_1 : decode cX5_tryPut 1 = .ok (.iload_n 2, 1) := by decide +kernel
theorem dX5_tryPut_2 : decode cX5_tryPut 2 = .ok (.invokevirtual 174, 3) := by decide +kernel
theorem dX5_tryPut_5 : decode cX5_tryPut 5 = .ok (.iconst (-1), 1) := by decide +kernel
theorem dX5_tryPut_6 : decode cX5_tryPut 6 = .ok (.if_icmp .ne 11, 3) := by decide +kernel
theorem dX5_tryPut_9 : decode cX5_tryPut 9 = .ok (.aload_n 0, 1) := by decide +kernel
theorem dX5_tryPut_10 : decode cX5_tryPut 10 = .ok (.iload_n 1, 1) := by decide +kernel
theorem dX5_tryPut_11 : decode cX5_tryPut 11 = .ok (.invokevirtual 177, 3) := by decide +kernel
theorem dX5_tryPut_14 : decode cX5_tryPut 14 = .ok (.ifCond .eq 5, 3) := by decide +kernel
theorem dX5_tryPut_17 : decode cX5_tryPut 17 = .ok (.iconst 0, 1) := by decide +kernel
theorem dX5_tryPut_18 : decode cX5_tryPut 18 = .ok (.ireturn, 1) := by decide +kernel
theorem dX5_tryPut_19 : decode cX5_tryPut 19 = .ok (.aload_n 0, 1) := by decide +kernel
theorem dX5_tryPut_20 : decode cX5_tryPut 20 = .ok (.getfield 39, 3) := by decide +kernel
theorem dX5_tryPut_23 : decode cX5_tryPut 23 = .ok (.aload_n 0, 1) := by decide +kernel
theorem dX5_tryPut_24 : decode cX5_tryPut 24 = .ok (.iload_n 1, 1) := by decide +kernel
theorem dX5_tryPut_25 : decode cX5_tryPut 25 = .ok (.invokevirtual 164, 3) := by decide +kernel
theorem dX5_tryPut_28 : decode cX5_tryPut 28 = .ok (.invokevirtual 185, 3) := by decide +kernel
theorem dX5_tryPut_31 : decode cX5_tryPut 31 = .ok (.aload_n 0, 1) := by decide +kernel
theorem dX5_tryPut_32 : decode cX5_tryPut 32 = .ok (.getfield 39, 3) := by decide +kernel
theorem dX5_tryPut_35 : decode cX5_tryPut 35 = .ok (.iload_n 2, 1) := by decide +kernel
theorem dX5_tryPut_36 : decode cX5_tryPut 36 = .ok (.aload_n 0, 1) := by decide +kernel
theorem dX5_tryPut_37 : decode cX5_tryPut 37 = .ok (.getfield 10, 3) := by decide +kernel
theorem dX5_tryPut_40 : decode cX5_tryPut 40 = .ok (.invokevirtual 344, 3) := by decide +kernel
theorem dX5_tryPut_43 : decode cX5_tryPut 43 = .ok (.ifCond .ne 5, 3) := by decide +kernel
theorem dX5_tryPut_46 : decode cX5_tryPut 46 = .ok (.iconst 0, 1) := by decide +kernel
theorem dX5_tryPut_47 : decode cX5_tryPut 47 = .ok (.ireturn, 1) := by decide +kernel
theorem dX5_tryPut_48 : decode cX5_tryPut 48 = .ok (.aload_n 0, 1) := by decide +kernel
theorem dX5_tryPut_49 : decode cX5_tryPut 49 = .ok (.getfield 39, 3) := by decide +kernel
theorem dX5_tryPut_52 : decode cX5_tryPut 52 = .ok (.aload_n 0, 1) := by decide +kernel
theorem dX5_tryPut_53 : decode cX5_tryPut 53 = .ok (.getfield 10, 3) := by decide +kernel
theorem dX5_tryPut_56 : decode cX5_tryPut 56 = .ok (.aload_n 0, 1) := by decide +kernel
theorem dX5_tryPut_57 : decode cX5_tryPut 57 = .ok (.getfield 19, 3) := by decide +kernel
theorem dX5_tryPut_60 : decode cX5_tryPut 60 = .ok (.invokevirtual 340, 3) := by decide +kernel
theorem dX5_tryPut_63 : decode cX5_tryPut 63 = .ok (.aload_n 0, 1) := by decide +kernel
theorem dX5_tryPut_64 : decode cX5_tryPut 64 = .ok (.getfield 39, 3) := by decide +kernel
theorem dX5_tryPut_67 : decode cX5_tryPut 67 = .ok (.getfield 336, 3) := by decide +kernel
theorem dX5_tryPut_70 : decode cX5_tryPut 70 = .ok (.ireturn, 1) := by decide +kernel
theorem dX5_keepPut_0 : decode cX5_keepPut 0 = .ok (.aload_n 0, 1) := by decide +kernel
theorem dX5_keepPut_1 : decode cX5_keepPut 1 = .ok (.iload_n 1, 1) := by decide +kernel
theorem dX5_keepPut_2 : decode cX5_keepPut 2 = .ok (.invokevirtual 164, 3) := by decide +kernel
theorem dX5_keepPut_5 : decode cX5_keepPut 5 = .ok (.aload_n 0, 1) := by decide +kernel
theorem dX5_keepPut_6 : decode cX5_keepPut 6 = .ok (.getfield 39, 3) := by decide +kernel
theorem dX5_keepPut_9 : decode cX5_keepPut 9 = .ok (.invokevirtual 185, 3) := by decide +kernel
theorem dX5_keepPut_12 : decode cX5_keepPut 12 = .ok (.aload_n 0, 1) := by decide +kernel
theorem dX5_keepPut_13 : decode cX5_keepPut 13 = .ok (.iload_n 2, 1) := by decide +kernel
theorem dX5_keepPut_14 : decode cX5_keepPut 14 = .ok (.iload_n 1, 1) := by decide +kernel
theorem dX5_keepPut_15 : decode cX5_keepPut 15 = .ok (.invokevirtual 189, 3) := by decide +kernel
theorem dX5_keepPut_18 : decode cX5_keepPut 18 = .ok (.return_, 1) := by decide +kernel
theorem dX5_cheapestDuty_0 : decode cX5_cheapestDuty 0 = .ok (.iconst (-1), 1) := by decide +kernel
theorem dX5_cheapestDuty_1 : decode cX5_cheapestDuty 1 = .ok (.istore_n 2, 1) := by decide +kernel
theorem dX5_cheapestDuty_2 : decode cX5_cheapestDuty 2 = .ok (.iconst 0, 1) := by decide +kernel
theorem dX5_cheapestDuty_3 : decode cX5_cheapestDuty 3 = .ok (.istore_n 3, 1) := by decide +kernel
theorem dX5_cheapestDuty_4 : decode cX5_cheapestDuty 4 = .ok (.iconst 0, 1) := by decide +kernel
theorem dX5_cheapestDuty_5 : decode cX5_cheapestDuty 5 = .ok (.istore 4, 2) := by decide +kernel
theorem dX5_cheapestDuty_7 : decode cX5_cheapestDuty 7 = .ok (.iload 4, 2) := by decide +kernel
theorem dX5_cheapestDuty_9 : decode cX5_cheapestDuty 9 = .ok (.aload_n 0, 1) := by decide +kernel
theorem dX5_cheapestDuty_10 : decode cX5_cheapestDuty 10 = .ok (.getfield 137, 3) := by decide +kernel
theorem dX5_cheapestDuty_13 : decode cX5_cheapestDuty 13 = .ok (.if_icmp .ge 55, 3) := by decide +kernel
theorem dX5_cheapestDuty_16 : decode cX5_cheapestDuty 16 = .ok (.aload_n 0, 1) := by decide +kernel
theorem dX5_cheapestDuty_17 : decode cX5_cheapestDuty 17 = .ok (.iload 4, 2) := by decide +kernel
theorem dX5_cheapestDuty_19 : decode cX5_cheapestDuty 19 = .ok (.iload_n 1, 1) := by decide +kernel
theorem dX5_cheapestDuty_20 : decode cX5_cheapestDuty 20 = .ok (.invokevirtual 155, 3) := by decide +kernel
theorem dX5_cheapestDuty_23 : decode cX5_cheapestDuty 23 = .ok (.ifCond .eq 39, 3) := by decide +kernel
theorem dX5_cheapestDuty_26 : decode cX5_cheapestDuty 26 = .ok (.aload_n 0, 1) := by decide +kernel
theorem dX5_cheapestDuty_27 : decode cX5_cheapestDuty 27 = .ok (.getfield 39, 3) := by decide +kernel
theorem dX5_cheapestDuty_30 : decode cX5_cheapestDuty 30 = .ok (.getfield 255, 3) := by decide +kernel
theorem dX5_cheapestDuty_33 : decode cX5_cheapestDuty 33 = .ok (.aload_n 0, 1) := by decide +kernel
theorem dX5_cheapestDuty_34 : decode cX5_cheapestDuty 34 = .ok (.iload 4, 2) := by decide +kernel
theorem dX5_cheapestDuty_36 : decode cX5_cheapestDuty 36 = .ok (.invokevirtual 164, 3) := by decide +kernel
theorem dX5_cheapestDuty_39 : decode cX5_cheapestDuty 39 = .ok (.getfield 255, 3) := by decide +kernel
theorem dX5_cheapestDuty_42 : decode cX5_cheapestDuty 42 = .ok (.isub, 1) := by decide +kernel
theorem dX5_cheapestDuty_43 : decode cX5_cheapestDuty 43 = .ok (.istore 5, 2) := by decide +kernel
theorem dX5_cheapestDuty_45 : decode cX5_cheapestDuty 45 = .ok (.iload_n 2, 1) := by decide +kernel
theorem dX5_cheapestDuty_46 : decode cX5_cheapestDuty 46 = .ok (.iconst (-1), 1) := by decide +kernel
theorem dX5_cheapestDuty_47 : decode cX5_cheapestDuty 47 = .ok (.if_icmp .eq 9, 3) := by decide +kernel
theorem dX5_cheapestDuty_50 : decode cX5_cheapestDuty 50 = .ok (.iload 5, 2) := by decide +kernel
theorem dX5_cheapestDuty_52 : decode cX5_cheapestDuty 52 = .ok (.iload_n 3, 1) := by decide +kernel
theorem dX5_cheapestDuty_53 : decode cX5_cheapestDuty 53 = .ok (.if_icmp .ge 9, 3) := by decide +kernel
theorem dX5_cheapestDuty_56 : decode cX5_cheapestDuty 56 = .ok (.iload 4, 2) := by decide +kernel
theorem dX5_cheapestDuty_58 : decode cX5_cheapestDuty 58 = .ok (.istore_n 2, 1) := by decide +kernel
theorem dX5_cheapestDuty_59 : decode cX5_cheapestDuty 59 = .ok (.iload 5, 2) := by decide +kernel
theorem dX5_cheapestDuty_61 : decode cX5_cheapestDuty 61 = .ok (.istore_n 3, 1) := by decide +kernel
theorem dX5_cheapestDuty_62 : decode cX5_cheapestDuty 62 = .ok (.iinc 4 1, 3) := by decide +kernel
theorem dX5_cheapestDuty_65 : decode cX5_cheapestDuty 65 = .ok (.goto (-58), 3) := by decide +kernel
theorem dX5_cheapestDuty_68 : decode cX5_cheapestDuty 68 = .ok (.iload_n 2, 1) := by decide +kernel
theorem dX5_cheapestDuty_69 : decode cX5_cheapestDuty 69 = .ok (.ireturn, 1) := by decide +kernel
theorem dX5_planTrip_0 : decode cX5_planTrip 0 = .ok (.aload_n 0, 1) := by decide +kernel
theorem dX5_planTrip_1 : decode cX5_planTrip 1 = .ok (.iload_n 1, 1) := by decide +kernel
theorem dX5_planTrip_2 : decode cX5_planTrip 2 = .ok (.invokevirtual 203, 3) := by decide +kernel
theorem dX5_planTrip_5 : decode cX5_planTrip 5 = .ok (.istore_n 2, 1) := by decide +kernel
theorem dX5_planTrip_6 : decode cX5_planTrip 6 = .ok (.iload_n 2, 1) := by decide +kernel
theorem dX5_planTrip_7 : decode cX5_planTrip 7 = .ok (.iconst (-1), 1) := by decide +kernel
theorem dX5_planTrip_8 : decode cX5_planTrip 8 = .ok (.if_icmp .eq 21, 3) := by decide +kernel
theorem dX5_planTrip_11 : decode cX5_planTrip 11 = .ok (.aload_n 0, 1) := by decide +kernel
theorem dX5_planTrip_12 : decode cX5_planTrip 12 = .ok (.iload_n 2, 1) := by decide +kernel
theorem dX5_planTrip_13 : decode cX5_planTrip 13 = .ok (.iload_n 1, 1) := by decide +kernel
theorem dX5_planTrip_14 : decode cX5_planTrip 14 = .ok (.invokevirtual 155, 3) := by decide +kernel
theorem dX5_planTrip_17 : decode cX5_planTrip 17 = .ok (.ifCond .eq 52, 3) := by decide +kernel
theorem dX5_planTrip_20 : decode cX5_planTrip 20 = .ok (.aload_n 0, 1) := by decide +kernel
theorem dX5_planTrip_21 : decode cX5_planTrip 21 = .ok (.iload_n 2, 1) := by decide +kernel
theorem dX5_planTrip_22 : decode cX5_planTrip 22 = .ok (.iload_n 1, 1) := by decide +kernel
theorem dX5_planTrip_23 : decode cX5_planTrip 23 = .ok (.invokevirtual 160, 3) := by decide +kernel
theorem dX5_planTrip_26 : decode cX5_planTrip 26 = .ok (.goto 43, 3) := by decide +kernel
theorem dX5_planTrip_29 : decode cX5_planTrip 29 = .ok (.aload_n 0, 1) := by decide +kernel
theorem dX5_planTrip_30 : decode cX5_planTrip 30 = .ok (.getfield 137, 3) := by decide +kernel
theorem dX5_planTrip_33 : decode cX5_planTrip 33 = .ok (.bipush 12, 2) := by decide +kernel
theorem dX5_planTrip_35 : decode cX5_planTrip 35 = .ok (.if_icmp .ge 34, 3) := by decide +kernel
theorem dX5_planTrip_38 : decode cX5_planTrip 38 = .ok (.aload_n 0, 1) := by decide +kernel
theorem dX5_planTrip_39 : decode cX5_planTrip 39 = .ok (.aload_n 0, 1) := by decide +kernel
theorem dX5_planTrip_40 : decode cX5_planTrip 40 = .ok (.getfield 137, 3) := by decide +kernel
theorem dX5_planTrip_43 : decode cX5_planTrip 43 = .ok (.iload_n 1, 1) := by decide +kernel
theorem dX5_planTrip_44 : decode cX5_planTrip 44 = .ok (.invokevirtual 155, 3) := by decide +kernel
theorem dX5_planTrip_47 : decode cX5_planTrip 47 = .ok (.ifCond .eq 22, 3) := by decide +kernel
theorem dX5_planTrip_50 : decode cX5_planTrip 50 = .ok (.aload_n 0, 1) := by decide +kernel
theorem dX5_planTrip_51 : decode cX5_planTrip 51 = .ok (.aload_n 0, 1) := by decide +kernel
theorem dX5_planTrip_52 : decode cX5_planTrip 52 = .ok (.getfield 137, 3) := by decide +kernel
theorem dX5_planTrip_55 : decode cX5_planTrip 55 = .ok (.iload_n 1, 1) := by decide +kernel
theorem dX5_planTrip_56 : decode cX5_planTrip 56 = .ok (.invokevirtual 160, 3) := by decide +kernel
theorem dX5_planTrip_59 : decode cX5_planTrip 59 = .ok (.aload_n 0, 1) := by decide +kernel
theorem dX5_planTrip_60 : decode cX5_planTrip 60 = .ok (.dup, 1) := by decide +kernel
theorem dX5_planTrip_61 : decode cX5_planTrip 61 = .ok (.getfield 137, 3) := by decide +kernel
theorem dX5_planTrip_64 : decode cX5_planTrip 64 = .ok (.iconst 1, 1) := by decide +kernel
theorem dX5_planTrip_65 : decode cX5_planTrip 65 = .ok (.iadd, 1) := by decide +kernel
theorem dX5_planTrip_66 : decode cX5_planTrip 66 = .ok (.putfield 137, 3) := by decide +kernel
theorem dX5_planTrip_69 : decode cX5_planTrip 69 = .ok (.return_, 1) := by decide +kernel
theorem dX5_tryExchange_0 : decode cX5_tryExchange 0 = .ok (.aload_n 0, 1) := by decide +kernel
theorem dX5_tryExchange_1 : decode cX5_tryExchange 1 = .ok (.getfield 39, 3) := by decide +kernel
theorem dX5_tryExchange_4 : decode cX5_tryExchange 4 = .ok (.aload_n 0, 1) := by decide +kernel
theorem dX5_tryExchange_5 : decode cX5_tryExchange 5 = .ok (.iload_n 1, 1) := by decide +kernel
theorem dX5_tryExchange_6 : decode cX5_tryExchange 6 = .ok (.invokevirtual 164, 3) := by decide +kernel
theorem dX5_tryExchange_9 : decode cX5_tryExchange 9 = .ok (.aload_n 0, 1) := by decide +kernel
theorem dX5_tryExchange_10 : decode cX5_tryExchange 10 = .ok (.iload_n 2, 1) := by decide +kernel
theorem dX5_tryExchange_11 : decode cX5_tryExchange 11 = .ok (.invokevirtual 164, 3) := by decide +kernel
theorem dX5_tryExchange_14 : decode cX5_tryExchange 14 = .ok (.iload_n 3, 1) := by decide +kernel
theorem dX5_tryExchange_15 : decode cX5_tryExchange 15 = .ok (.aload_n 0, 1) := by decide +kernel
theorem dX5_tryExchange_16 : decode cX5_tryExchange 16 = .ok (.getfield 10, 3) := by decide +kernel
theorem dX5_tryExchange_19 : decode cX5_tryExchange 19 = .ok (.invokevirtual 351, 3) := by decide +kernel
theorem dX5_tryExchange_22 : decode cX5_tryExchange 22 = .ok (.aload_n 0, 1) := by decide +kernel
theorem dX5_tryExchange_23 : decode cX5_tryExchange 23 = .ok (.getfield 43, 3) := by decide +kernel
theorem dX5_tryExchange_26 : decode cX5_tryExchange 26 = .ok (.aload_n 0, 1) := by decide +kernel
theorem dX5_tryExchange_27 : decode cX5_tryExchange 27 = .ok (.iload_n 2, 1) := by decide +kernel
theorem dX5_tryExchange_28 : decode cX5_tryExchange 28 = .ok (.invokevirtual 164, 3) := by decide +kernel
theorem dX5_tryExchange_31 : decode cX5_tryExchange 31 = .ok (.aload_n 0, 1) := by decide +kernel
theorem dX5_tryExchange_32 : decode cX5_tryExchange 32 = .ok (.iload_n 1, 1) := by decide +kernel
theorem dX5_tryExchange_33 : decode cX5_tryExchange 33 = .ok (.invokevirtual 164, 3) := by decide +kernel
theorem dX5_tryExchange_36 : decode cX5_tryExchange 36 = .ok (.iload_n 3, 1) := by decide +kernel
theorem dX5_tryExchange_37 : decode cX5_tryExchange 37 = .ok (.aload_n 0, 1) := by decide +kernel
theorem dX5_tryExchange_38 : decode cX5_tryExchange 38 = .ok (.getfield 10, 3) := by decide +kernel
theorem dX5_tryExchange_41 : decode cX5_tryExchange 41 = .ok (.invokevirtual 351, 3) := by decide +kernel
theorem dX5_tryExchange_44 : decode cX5_tryExchange 44 = .ok (.aload_n 0, 1) := by decide +kernel
theorem dX5_tryExchange_45 : decode cX5_tryExchange 45 = .ok (.getfield 39, 3) := by decide +kernel
theorem dX5_tryExchange_48 : decode cX5_tryExchange 48 = .ok (.aload_n 0, 1) := by decide +kernel
theorem dX5_tryExchange_49 : decode cX5_tryExchange 49 = .ok (.getfield 10, 3) := by decide +kernel
theorem dX5_tryExchange_52 : decode cX5_tryExchange 52 = .ok (.aload_n 0, 1) := by decide +kernel
theorem dX5_tryExchange_53 : decode cX5_tryExchange 53 = .ok (.getfield 19, 3) := by decide +kernel
theorem dX5_tryExchange_56 : decode cX5_tryExchange 56 = .ok (.invokevirtual 340, 3) := by decide +kernel
theorem dX5_tryExchange_59 : decode cX5_tryExchange 59 = .ok (.aload_n 0, 1) := by decide +kernel
theorem dX5_tryExchange_60 : decode cX5_tryExchange 60 = .ok (.getfield 43, 3) := by decide +kernel
theorem dX5_tryExchange_63 : decode cX5_tryExchange 63 = .ok (.aload_n 0, 1) := by decide +kernel
theorem dX5_tryExchange_64 : decode cX5_tryExchange 64 = .ok (.getfield 10, 3) := by decide +kernel
theorem dX5_tryExchange_67 : decode cX5_tryExchange 67 = .ok (.aload_n 0, 1) := by decide +kernel
theorem dX5_tryExchange_68 : decode cX5_tryExchange 68 = .ok (.getfield 19, 3) := by decide +kernel
theorem dX5_tryExchange_71 : decode cX5_tryExchange 71 = .ok (.invokevirtual 340, 3) := by decide +kernel
theorem dX5_tryExchange_74 : decode cX5_tryExchange 74 = .ok (.aload_n 0, 1) := by decide +kernel
theorem dX5_tryExchange_75 : decode cX5_tryExchange 75 = .ok (.getfield 39, 3) := by decide +kernel
theorem dX5_tryExchange_78 : decode cX5_tryExchange 78 = .ok (.getfield 336, 3) := by decide +kernel
theorem dX5_tryExchange_81 : decode cX5_tryExchange 81 = .ok (.ifCond .eq 17, 3) := by decide +kernel
theorem dX5_tryExchange_84 : decode cX5_tryExchange 84 = .ok (.aload_n 0, 1) := by decide +kernel
theorem dX5_tryExchange_85 : decode cX5_tryExchange 85 = .ok (.getfield 43, 3) := by decide +kernel
theorem dX5_tryExchange_88 : decode cX5_tryExchange 88 = .ok (.getfield 336, 3) := by decide +kernel
theorem dX5_tryExchange_91 : decode cX5_tryExchange 91 = .ok (.ifCond .eq 7, 3) := by decide +kernel
theorem dX5_tryExchange_94 : decode cX5_tryExchange 94 = .ok (.iconst 1, 1) := by decide +kernel
theorem dX5_tryExchange_95 : decode cX5_tryExchange 95 = .ok (.goto 4, 3) := by decide +kernel
theorem dX5_tryExchange_98 : decode cX5_tryExchange 98 = .ok (.iconst 0, 1) := by decide +kernel
theorem dX5_tryExchange_99 : decode cX5_tryExchange 99 = .ok (.ireturn, 1) := by decide +kernel
theorem dX5_changeOfPay_0 : decode cX5_changeOfPay 0 = .ok (.aload_n 0, 1) := by decide +kernel
theorem dX5_changeOfPay_1 : decode cX5_changeOfPay 1 = .ok (.getfield 39, 3) := by decide +kernel
theorem dX5_changeOfPay_4 : decode cX5_changeOfPay 4 = .ok (.getfield 255, 3) := by decide +kernel
theorem dX5_changeOfPay_7 : decode cX5_changeOfPay 7 = .ok (.aload_n 0, 1) := by decide +kernel
theorem dX5_changeOfPay_8 : decode cX5_changeOfPay 8 = .ok (.getfield 43, 3) := by decide +kernel
theorem dX5_changeOfPay_11 : decode cX5_changeOfPay 11 = .ok (.getfield 255, 3) := by decide +kernel
theorem dX5_changeOfPay_14 : decode cX5_changeOfPay 14 = .ok (.iadd, 1) := by decide +kernel
theorem dX5_changeOfPay_15 : decode cX5_changeOfPay 15 = .ok (.aload_n 0, 1) := by decide +kernel
theorem dX5_changeOfPay_16 : decode cX5_changeOfPay 16 = .ok (.iload_n 1, 1) := by decide +kernel
theorem dX5_changeOfPay_17 : decode cX5_changeOfPay 17 = .ok (.invokevirtual 164, 3) := by decide +kernel
theorem dX5_changeOfPay_20 : decode cX5_changeOfPay 20 = .ok (.getfield 255, 3) := by decide +kernel
theorem dX5_changeOfPay_23 : decode cX5_changeOfPay 23 = .ok (.isub, 1) := by decide +kernel
theorem dX5_changeOfPay_24 : decode cX5_changeOfPay 24 = .ok (.aload_n 0, 1) := by decide +kernel
theorem dX5_changeOfPay_25 : decode cX5_changeOfPay 25 = .ok (.iload_n 2, 1) := by decide +kernel
theorem dX5_changeOfPay_26 : decode cX5_changeOfPay 26 = .ok (.invokevirtual 164, 3) := by decide +kernel
theorem dX5_changeOfPay_29 : decode cX5_changeOfPay 29 = .ok (.getfield 255, 3) := by decide +kernel
theorem dX5_changeOfPay_32 : decode cX5_changeOfPay 32 = .ok (.isub, 1) := by decide +kernel
theorem dX5_changeOfPay_33 : decode cX5_changeOfPay 33 = .ok (.ireturn, 1) := by decide +kernel
theorem dX5_keepExchange_0 : decode cX5_keepExchange 0 = .ok (.aload_n 0, 1) := by decide +kernel
theorem dX5_keepExchange_1 : decode cX5_keepExchange 1 = .ok (.iload_n 1, 1) := by decide +kernel
theorem dX5_keepExchange_2 : decode cX5_keepExchange 2 = .ok (.invokevirtual 164, 3) := by decide +kernel
theorem dX5_keepExchange_5 : decode cX5_keepExchange 5 = .ok (.aload_n 0, 1) := by decide +kernel
theorem dX5_keepExchange_6 : decode cX5_keepExchange 6 = .ok (.getfield 39, 3) := by decide +kernel
theorem dX5_keepExchange_9 : decode cX5_keepExchange 9 = .ok (.invokevirtual 185, 3) := by decide +kernel
theorem dX5_keepExchange_12 : decode cX5_keepExchange 12 = .ok (.aload_n 0, 1) := by decide +kernel
theorem dX5_keepExchange_13 : decode cX5_keepExchange 13 = .ok (.iload_n 2, 1) := by decide +kernel
theorem dX5_keepExchange_14 : decode cX5_keepExchange 14 = .ok (.invokevirtual 164, 3) := by decide +kernel
theorem dX5_keepExchange_17 : decode cX5_keepExchange 17 = .ok (.aload_n 0, 1) := by decide +kernel
theorem dX5_keepExchange_18 : decode cX5_keepExchange 18 = .ok (.getfield 43, 3) := by decide +kernel
theorem dX5_keepExchange_21 : decode cX5_keepExchange 21 = .ok (.invokevirtual 185, 3) := by decide +kernel
theorem dX5_keepExchange_24 : decode cX5_keepExchange 24 = .ok (.aload_n 0, 1) := by decide +kernel
theorem dX5_keepExchange_25 : decode cX5_keepExchange 25 = .ok (.iload_n 1, 1) := by decide +kernel
theorem dX5_keepExchange_26 : decode cX5_keepExchange 26 = .ok (.invokevirtual 355, 3) := by decide +kernel
theorem dX5_keepExchange_29 : decode cX5_keepExchange 29 = .ok (.aload_n 0, 1) := by decide +kernel
theorem dX5_keepExchange_30 : decode cX5_keepExchange 30 = .ok (.iload_n 2, 1) := by decide +kernel
theorem dX5_keepExchange_31 : decode cX5_keepExchange 31 = .ok (.invokevirtual 355, 3) := by decide +kernel
theorem dX5_keepExchange_34 : decode cX5_keepExchange 34 = .ok (.return_, 1) := by decide +kernel
theorem dX5_assignTripsOf_0 : decode cX5_assignTripsOf 0 = .ok (.aload_n 0, 1) := by decide +kernel
theorem dX5_assignTripsOf_1 : decode cX5_assignTripsOf 1 = .ok (.iload_n 1, 1) := by decide +kernel
theorem dX5_assignTripsOf_2 : decode cX5_assignTripsOf 2 = .ok (.invokevirtual 164, 3) := by decide +kernel
theorem dX5_assignTripsOf_5 : decode cX5_assignTripsOf 5 = .ok (.astore_n 2, 1) := by decide +kernel
theorem dX5_assignTripsOf_6 : decode cX5_assignTripsOf 6 = .ok (.iconst 0, 1) := by decide +kernel
theorem dX5_assignTripsOf_7 : decode cX5_assignTripsOf 7 = .ok (.istore_n 3, 1) := by decide +kernel
theorem dX5_assignTripsOf_8 : decode cX5_assignTripsOf 8 = .ok (.iload_n 3, 1) := by decide +kernel
theorem dX5_assignTripsOf_9 : decode cX5_assignTripsOf 9 = .ok (.aload_n 2, 1) := by decide +kernel
theorem dX5_assignTripsOf_10 : decode cX5_assignTripsOf 10 = .ok (.getfield 197, 3) := by decide +kernel
theorem dX5_assignTripsOf_13 : decode cX5_assignTripsOf 13 = .ok (.if_icmp .ge 19, 3) := by decide +kernel
theorem dX5_assignTripsOf_16 : decode cX5_assignTripsOf 16 = .ok (.aload_n 0, 1) := by decide +kernel
theorem dX5_assignTripsOf_17 : decode cX5_assignTripsOf 17 = .ok (.aload_n 2, 1) := by decide +kernel
theorem dX5_assignTripsOf_18 : decode cX5_assignTripsOf 18 = .ok (.iload_n 3, 1) := by decide +kernel
theorem dX5_assignTripsOf_19 : decode cX5_assignTripsOf 19 = .ok (.invokevirtual 200, 3) := by decide +kernel
theorem dX5_assignTripsOf_22 : decode cX5_assignTripsOf 22 = .ok (.iload_n 1, 1) := by decide +kernel
theorem dX5_assignTripsOf_23 : decode cX5_assignTripsOf 23 = .ok (.invokevirtual 189, 3) := by decide +kernel
theorem dX5_assignTripsOf_26 : decode cX5_assignTripsOf 26 = .ok (.iinc 3 1, 3) := by decide +kernel
theorem dX5_assignTripsOf_29 : decode cX5_assignTripsOf 29 = .ok (.goto (-21), 3) := by decide +kernel
theorem dX5_assignTripsOf_32 : decode cX5_assignTripsOf 32 = .ok (.return_, 1) := by decide +kernel
theorem dX5_weighPairsOf_0 : decode cX5_weighPairsOf 0 = .ok (.iload_n 1, 1) := by decide +kernel
theorem dX5_weighPairsOf_1 : decode cX5_weighPairsOf 1 = .ok (.iconst 1, 1) := by decide +kernel
theorem dX5_weighPairsOf_2 : decode cX5_weighPairsOf 2 = .ok (.iadd, 1) := by decide +kernel
theorem dX5_weighPairsOf_3 : decode cX5_weighPairsOf 3 = .ok (.istore_n 2, 1) := by decide +kernel
theorem dX5_weighPairsOf_4 : decode cX5_weighPairsOf 4 = .ok (.iload_n 2, 1) := by decide +kernel
theorem dX5_weighPairsOf_5 : decode cX5_weighPairsOf 5 = .ok (.aload_n 0, 1) := by decide +kernel
theorem dX5_weighPairsOf_6 : decode cX5_weighPairsOf 6 = .ok (.getfield 137, 3) := by decide +kernel
theorem dX5_weighPairsOf_9 : decode cX5_weighPairsOf 9 = .ok (.if_icmp .ge 31, 3) := by decide +kernel
theorem dX5_weighPairsOf_12 : decode cX5_weighPairsOf 12 = .ok (.aload_n 0, 1) := by decide +kernel
theorem dX5_weighPairsOf_13 : decode cX5_weighPairsOf 13 = .ok (.iload_n 2, 1) := by decide +kernel
theorem dX5_weighPairsOf_14 : decode cX5_weighPairsOf 14 = .ok (.invokevirtual 177, 3) := by decide +kernel
theorem dX5_weighPairsOf_17 : decode cX5_weighPairsOf 17 = .ok (.ifCond .ne 17, 3) := by decide +kernel
theorem dX5_weighPairsOf_20 : decode cX5_weighPairsOf 20 = .ok (.aload_n 0, 1) := by decide +kernel
theorem dX5_weighPairsOf_21 : decode cX5_weighPairsOf 21 = .ok (.iload_n 1, 1) := by decide +kernel
theorem dX5_weighPairsOf_22 : decode cX5_weighPairsOf 22 = .ok (.iload_n 1, 1) := by decide +kernel
theorem dX5_weighPairsOf_23 : decode cX5_weighPairsOf 23 = .ok (.iload_n 2, 1) := by decide +kernel
theorem dX5_weighPairsOf_24 : decode cX5_weighPairsOf 24 = .ok (.invokevirtual 358, 3) := by decide +kernel
theorem dX5_weighPairsOf_27 : decode cX5_weighPairsOf 27 = .ok (.aload_n 0, 1) := by decide +kernel
theorem dX5_weighPairsOf_28 : decode cX5_weighPairsOf 28 = .ok (.iload_n 2, 1) := by decide +kernel
theorem dX5_weighPairsOf_29 : decode cX5_weighPairsOf 29 = .ok (.iload_n 1, 1) := by decide +kernel
theorem dX5_weighPairsOf_30 : decode cX5_weighPairsOf 30 = .ok (.iload_n 2, 1) := by decide +kernel
theorem dX5_weighPairsOf_31 : decode cX5_weighPairsOf 31 = .ok (.invokevirtual 358, 3) := by decide +kernel
theorem dX5_weighPairsOf_34 : decode cX5_weighPairsOf 34 = .ok (.iinc 2 1, 3) := by decide +kernel
theorem dX5_weighPairsOf_37 : decode cX5_weighPairsOf 37 = .ok (.goto (-33), 3) := by decide +kernel
theorem dX5_weighPairsOf_40 : decode cX5_weighPairsOf 40 = .ok (.return_, 1) := by decide +kernel
theorem dX5_weighTimesOf_0 : decode cX5_weighTimesOf 0 = .ok (.aload_n 0, 1) := by decide +kernel
theorem dX5_weighTimesOf_1 : decode cX5_weighTimesOf 1 = .ok (.iload_n 1, 1) := by decide +kernel
theorem dX5_weighTimesOf_2 : decode cX5_weighTimesOf 2 = .ok (.invokevirtual 164, 3) := by decide +kernel
theorem dX5_weighTimesOf_5 : decode cX5_weighTimesOf 5 = .ok (.astore 4, 2) := by decide +kernel
theorem dX5_weighTimesOf_7 : decode cX5_weighTimesOf 7 = .ok (.iconst 0, 1) := by decide +kernel
theorem dX5_weighTimesOf_8 : decode cX5_weighTimesOf 8 = .ok (.istore 5, 2) := by decide +kernel
theorem dX5_weighTimesOf_10 : decode cX5_weighTimesOf 10 = .ok (.iload 5, 2) := by decide +kernel
theorem dX5_weighTimesOf_12 : decode cX5_weighTimesOf 12 = .ok (.aload 4, 2) := by decide +kernel
theorem dX5_weighTimesOf_14 : decode cX5_weighTimesOf 14 = .ok (.getfield 197, 3) := by decide +kernel
theorem dX5_weighTimesOf_17 : decode cX5_weighTimesOf 17 = .ok (.if_icmp .ge 53, 3) := by decide +kernel
theorem dX5_weighTimesOf_20 : decode cX5_weighTimesOf 20 = .ok (.aload_n 0, 1) := by decide +kernel
theorem dX5_weighTimesOf_21 : decode cX5_weighTimesOf 21 = .ok (.getfield 10, 3) := by decide +kernel
theorem dX5_weighTimesOf_24 : decode cX5_weighTimesOf 24 = .ok (.aload 4, 2) := by decide +kernel
theorem dX5_weighTimesOf_26 : decode cX5_weighTimesOf 26 = .ok (.iload 5, 2) := by decide +kernel
theorem dX5_weighTimesOf_28 : decode cX5_weighTimesOf 28 = .ok (.invokevirtual 200, 3) := by decide +kernel
theorem dX5_weighTimesOf_31 : decode cX5_weighTimesOf 31 = .ok (.invokevirtual 209, 3) := by decide +kernel
theorem dX5_weighTimesOf_34 : decode cX5_weighTimesOf 34 = .ok (.istore 6, 2) := by decide +kernel
theorem dX5_weighTimesOf_36 : decode cX5_weighTimesOf 36 = .ok (.aload_n 0, 1) := by decide +kernel
theorem dX5_weighTimesOf_37 : decode cX5_weighTimesOf 37 = .ok (.iload_n 2, 1) := by decide +kernel
theorem dX5_weighTimesOf_38 : decode cX5_weighTimesOf 38 = .ok (.iload_n 3, 1) := by decide +kernel
theorem dX5_weighTimesOf_39 : decode cX5_weighTimesOf 39 = .ok (.iload 6, 2) := by decide +kernel
theorem dX5_weighTimesOf_41 : decode cX5_weighTimesOf 41 = .ok (.invokevirtual 227, 3) := by decide +kernel
theorem dX5_weighTimesOf_44 : decode cX5_weighTimesOf 44 = .ok (.ifCond .eq 20, 3) := by decide +kernel
theorem dX5_weighTimesOf_47 : decode cX5_weighTimesOf 47 = .ok (.aload_n 0, 1) := by decide +kernel
theorem dX5_weighTimesOf_48 : decode cX5_weighTimesOf 48 = .ok (.getfield 56, 3) := by decide +kernel
theorem dX5_weighTimesOf_51 : decode cX5_weighTimesOf 51 = .ok (.iload_n 2, 1) := by decide +kernel
theorem dX5_weighTimesOf_52 : decode cX5_weighTimesOf 52 = .ok (.iload_n 3, 1) := by decide +kernel
theorem dX5_weighTimesOf_53 : decode cX5_weighTimesOf 53 = .ok (.iload 6, 2) := by decide +kernel
theorem dX5_weighTimesOf_55 : decode cX5_weighTimesOf 55 = .ok (.aload_n 0, 1) := by decide +kernel
theorem dX5_weighTimesOf_56 : decode cX5_weighTimesOf 56 = .ok (.iload_n 2, 1) := by decide +kernel
theorem dX5_weighTimesOf_57 : decode cX5_weighTimesOf 57 = .ok (.iload_n 3, 1) := by decide +kernel
theorem dX5_weighTimesOf_58 : decode cX5_weighTimesOf 58 = .ok (.invokevirtual 233, 3) := by decide +kernel
theorem dX5_weighTimesOf_61 : decode cX5_weighTimesOf 61 = .ok (.invokevirtual 361, 3) := by decide +kernel
theorem dX5_weighTimesOf_64 : decode cX5_weighTimesOf 64 = .ok (.iinc 5 1, 3) := by decide +kernel
theorem dX5_weighTimesOf_67 : decode cX5_weighTimesOf 67 = .ok (.goto (-57), 3) := by decide +kernel
theorem dX5_weighTimesOf_70 : decode cX5_weighTimesOf 70 = .ok (.return_, 1) := by decide +kernel
theorem dX5_dutyOn_0 : decode cX5_dutyOn 0 = .ok (.iload_n 1, 1) := by decide +kernel
theorem dX5_dutyOn_1 : decode cX5_dutyOn 1 = .ok (.ifCond .lt 30, 3) := by decide +kernel
theorem dX5_dutyOn_4 : decode cX5_dutyOn 4 = .ok (.iload_n 1, 1) := by decide +kernel
theorem dX5_dutyOn_5 : decode cX5_dutyOn 5 = .ok (.bipush 8, 2) := by decide +kernel
theorem dX5_dutyOn_7 : decode cX5_dutyOn 7 = .ok (.if_icmp .ge 24, 3) := by decide +kernel
theorem dX5_dutyOn_10 : decode cX5_dutyOn 10 = .ok (.iload_n 2, 1) := by decide +kernel
theorem dX5_dutyOn_11 : decode cX5_dutyOn 11 = .ok (.ifCond .lt 20, 3) := by decide +kernel
theorem dX5_dutyOn_14 : decode cX5_dutyOn 14 = .ok (.iload_n 2, 1) := by decide +kernel
theorem dX5_dutyOn_15 : decode cX5_dutyOn 15 = .ok (.bipush 7, 2) := by decide +kernel
theorem dX5_dutyOn_17 : decode cX5_dutyOn 17 = .ok (.if_icmp .ge 14, 3) := by decide +kernel
theorem dX5_dutyOn_20 : decode cX5_dutyOn 20 = .ok (.aload_n 0, 1) := by decide +kernel
theorem dX5_dutyOn_21 : decode cX5_dutyOn 21 = .ok (.getfield 35, 3) := by decide +kernel
theorem dX5_dutyOn_24 : decode cX5_dutyOn 24 = .ok (.iload_n 1, 1) := by decide +kernel
theorem dX5_dutyOn_25 : decode cX5_dutyOn 25 = .ok (.aaload, 1) := by decide +kernel
theorem dX5_dutyOn_26 : decode cX5_dutyOn 26 = .ok (.iload_n 2, 1) := by decide +kernel
theorem dX5_dutyOn_27 : decode cX5_dutyOn 27 = .ok (.iaload, 1) := by decide +kernel
theorem dX5_dutyOn_28 : decode cX5_dutyOn 28 = .ok (.goto 4, 3) := by decide +kernel
theorem dX5_dutyOn_31 : decode cX5_dutyOn 31 = .ok (.iconst (-1), 1) := by decide +kernel
theorem dX5_dutyOn_32 : decode cX5_dutyOn 32 = .ok (.ireturn, 1) := by decide +kernel
theorem dX5_enter_0 : decode cX5_enter 0 = .ok (.iload_n 1, 1) := by decide +kernel
theorem dX5_enter_1 : decode cX5_enter 1 = .ok (.ifCond .lt 28, 3) := by decide +kernel
theorem dX5_enter_4 : decode cX5_enter 4 = .ok (.iload_n 1, 1) := by decide +kernel
theorem dX5_enter_5 : decode cX5_enter 5 = .ok (.bipush 8, 2) := by decide +kernel
theorem dX5_enter_7 : decode cX5_enter 7 = .ok (.if_icmp .ge 22, 3) := by decide +kernel
theorem dX5_enter_10 : decode cX5_enter 10 = .ok (.iload_n 2, 1) := by decide +kernel
theorem dX5_enter_11 : decode cX5_enter 11 = .ok (.ifCond .lt 18, 3) := by decide +kernel
theorem dX5_enter_14 : decode cX5_enter 14 = .ok (.iload_n 2, 1) := by decide +kernel
theorem dX5_enter_15 : decode cX5_enter 15 = .ok (.bipush 7, 2) := by decide +kernel
theorem dX5_enter_17 : decode cX5_enter 17 = .ok (.if_icmp .ge 12, 3) := by decide +kernel
theorem dX5_enter_20 : decode cX5_enter 20 = .ok (.aload_n 0, 1) := by decide +kernel
theorem dX5_enter_21 : decode cX5_enter 21 = .ok (.getfield 35, 3) := by decide +kernel
theorem dX5_enter_24 : decode cX5_enter 24 = .ok (.iload_n 1, 1) := by decide +kernel
theorem dX5_enter_25 : decode cX5_enter 25 = .ok (.aaload, 1) := by decide +kernel
theorem dX5_enter_26 : decode cX5_enter 26 = .ok (.iload_n 2, 1) := by decide +kernel
theorem dX5_enter_27 : decode cX5_enter 27 = .ok (.iload_n 3, 1) := by decide +kernel
theorem dX5_enter_28 : decode cX5_enter 28 = .ok (.iastore, 1) := by decide +kernel
theorem dX5_enter_29 : decode cX5_enter 29 = .ok (.return_, 1) := by decide +kernel
theorem dX5_isHadOn_0 : decode cX5_isHadOn 0 = .ok (.iconst 0, 1) := by decide +kernel
theorem dX5_isHadOn_1 : decode cX5_isHadOn 1 = .ok (.istore_n 3, 1) := by decide +kernel
theorem dX5_isHadOn_2 : decode cX5_isHadOn 2 = .ok (.iload_n 3, 1) := by decide +kernel
theorem dX5_isHadOn_3 : decode cX5_isHadOn 3 = .ok (.aload_n 0, 1) := by decide +kernel
theorem dX5_isHadOn_4 : decode cX5_isHadOn 4 = .ok (.getfield 140, 3) := by decide +kernel
theorem dX5_isHadOn_7 : decode cX5_isHadOn 7 = .ok (.if_icmp .ge 21, 3) := by decide +kernel
theorem dX5_isHadOn_10 : decode cX5_isHadOn 10 = .ok (.aload_n 0, 1) := by decide +kernel
theorem dX5_isHadOn_11 : decode cX5_isHadOn 11 = .ok (.iload_n 3, 1) := by decide +kernel
theorem dX5_isHadOn_12 : decode cX5_isHadOn 12 = .ok (.iload_n 2, 1) := by decide +kernel
theorem dX5_isHadOn_13 : decode cX5_isHadOn 13 = .ok (.invokevirtual 288, 3) := by decide +kernel
theorem dX5_isHadOn_16 : decode cX5_isHadOn 16 = .ok (.iload_n 1, 1) := by decide +kernel
theorem dX5_isHadOn_17 : decode cX5_isHadOn 17 = .ok (.if_icmp .ne 5, 3) := by decide +kernel
theorem dX5_isHadOn_20 : decode cX5_isHadOn 20 = .ok (.iconst 1, 1) := by decide +kernel
theorem dX5_isHadOn_21 : decode cX5_isHadOn 21 = .ok (.ireturn, 1) := by decide +kernel
theorem dX5_isHadOn_22 : decode cX5_isHadOn 22 = .ok (.iinc 3 1, 3) := by decide +kernel
theorem dX5_isHadOn_25 : decode cX5_isHadOn 25 = .ok (.goto (-23), 3) := by decide +kernel
theorem dX5_isHadOn_28 : decode cX5_isHadOn 28 = .ok (.iconst 0, 1) := by decide +kernel
theorem dX5_isHadOn_29 : decode cX5_isHadOn 29 = .ok (.ireturn, 1) := by decide +kernel
theorem dX5_isFixed_0 : decode cX5_isFixed 0 = .ok (.iconst 0, 1) := by decide +kernel
theorem dX5_isFixed_1 : decode cX5_isFixed 1 = .ok (.istore_n 2, 1) := by decide +kernel
theorem dX5_isFixed_2 : decode cX5_isFixed 2 = .ok (.iload_n 2, 1) := by decide +kernel
theorem dX5_isFixed_3 : decode cX5_isFixed 3 = .ok (.bipush 7, 2) := by decide +kernel
theorem dX5_isFixed_5 : decode cX5_isFixed 5 = .ok (.if_icmp .ge 20, 3) := by decide +kernel
theorem dX5_isFixed_8 : decode cX5_isFixed 8 = .ok (.aload_n 0, 1) := by decide +kernel
theorem dX5_isFixed_9 : decode cX5_isFixed 9 = .ok (.iload_n 1, 1) := by decide +kernel
theorem dX5_isFixed_10 : decode cX5_isFixed 10 = .ok (.iload_n 2, 1) := by decide +kernel
theorem dX5_isFixed_11 : decode cX5_isFixed 11 = .ok (.invokevirtual 365, 3) := by decide +kernel
theorem dX5_isFixed_14 : decode cX5_isFixed 14 = .ok (.ifCond .eq 5, 3) := by decide +kernel
theorem dX5_isFixed_17 : decode cX5_isFixed 17 = .ok (.iconst 1, 1) := by decide +kernel
theorem dX5_isFixed_18 : decode cX5_isFixed 18 = .ok (.ireturn, 1) := by decide +kernel
theorem dX5_isFixed_19 : decode cX5_isFixed 19 = .ok (.iinc 2 1, 3) := by decide +kernel
theorem dX5_isFixed_22 : decode cX5_isFixed 22 = .ok (.goto (-20), 3) := by decide +kernel
theorem dX5_isFixed_25 : decode cX5_isFixed 25 = .ok (.iconst 0, 1) := by decide +kernel
theorem dX5_isFixed_26 : decode cX5_isFixed 26 = .ok (.ireturn, 1) := by decide +kernel
theorem dX5_isOpenOn_0 : decode cX5_isOpenOn 0 = .ok (.aload_n 0, 1) := by decide +kernel
theorem dX5_isOpenOn_1 : decode cX5_isOpenOn 1 = .ok (.iload_n 1, 1) := by decide +kernel
theorem dX5_isOpenOn_2 : decode cX5_isOpenOn 2 = .ok (.invokevirtual 164, 3) := by decide +kernel
theorem dX5_isOpenOn_5 : decode cX5_isOpenOn 5 = .ok (.getfield 197, 3) := by decide +kernel
theorem dX5_isOpenOn_8 : decode cX5_isOpenOn 8 = .ok (.ifCond .le 16, 3) := by decide +kernel
theorem dX5_isOpenOn_11 : decode cX5_isOpenOn 11 = .ok (.aload_n 0, 1) := by decide +kernel
theorem dX5_isOpenOn_12 : decode cX5_isOpenOn 12 = .ok (.iload_n 1, 1) := by decide +kernel
theorem dX5_isOpenOn_13 : decode cX5_isOpenOn 13 = .ok (.iload_n 2, 1) := by decide +kernel
theorem dX5_isOpenOn_14 : decode cX5_isOpenOn 14 = .ok (.invokevirtual 365, 3) := by decide +kernel
theorem dX5_isOpenOn_17 : decode cX5_isOpenOn 17 = .ok (.ifCond .ne 7, 3) := by decide +kernel
theorem dX5_isOpenOn_20 : decode cX5_isOpenOn 20 = .ok (.iconst 1, 1) := by decide +kernel
theorem dX5_isOpenOn_21 : decode cX5_isOpenOn 21 = .ok (.goto 4, 3) := by decide +kernel
theorem dX5_isOpenOn_24 : decode cX5_isOpenOn 24 = .ok (.iconst 0, 1) := by decide +kernel
theorem dX5_isOpenOn_25 : decode cX5_isOpenOn 25 = .ok (.ireturn, 1) := by decide +kernel
theorem dX5_openDuties_0 : decode cX5_openDuties 0 = .ok (.iconst 0, 1) := by decide +kernel
theorem dX5_openDuties_1 : decode cX5_openDuties 1 = .ok (.istore_n 2, 1) := by decide +kernel
theorem dX5_openDuties_2 : decode cX5_openDuties 2 = .ok (.iconst 0, 1) := by decide +kernel
theorem dX5_openDuties_3 : decode cX5_openDuties 3 = .ok (.istore_n 3, 1) := by decide +kernel
theorem dX5_openDuties_4 : decode cX5_openDuties 4 = .ok (.iload_n 3, 1) := by decide +kernel
theorem dX5_openDuties_5 : decode cX5_openDuties 5 = .ok (.aload_n 0, 1) := by decide +kernel
theorem dX5_openDuties_6 : decode cX5_openDuties 6 = .ok (.getfield 137, 3) := by decide +kernel
theorem dX5_openDuties_9 : decode cX5_openDuties 9 = .ok (.if_icmp .ge 21, 3) := by decide +kernel
theorem dX5_openDuties_12 : decode cX5_openDuties 12 = .ok (.aload_n 0, 1) := by decide +kernel
theorem dX5_openDuties_13 : decode cX5_openDuties 13 = .ok (.iload_n 3, 1) := by decide +kernel
theorem dX5_openDuties_14 : decode cX5_openDuties 14 = .ok (.iload_n 1, 1) := by decide +kernel
theorem dX5_openDuties_15 : decode cX5_openDuties 15 = .ok (.invokevirtual 295, 3) := by decide +kernel
theorem dX5_openDuties_18 : decode cX5_openDuties 18 = .ok (.ifCond .eq 6, 3) := by decide +kernel
theorem dX5_openDuties_21 : decode cX5_openDuties 21 = .ok (.iinc 2 1, 3) := by decide +kernel
theorem dX5_openDuties_24 : decode cX5_openDuties 24 = .ok (.iinc 3 1, 3) := by decide +kernel
theorem dX5_openDuties_27 : decode cX5_openDuties 27 = .ok (.goto (-23), 3) := by decide +kernel
theorem dX5_openDuties_30 : decode cX5_openDuties 30 = .ok (.iload_n 2, 1) := by decide +kernel
theorem dX5_openDuties_31 : decode cX5_openDuties 31 = .ok (.ireturn, 1) := by decide +kernel
theorem dX5_weekPay_0 : decode cX5_weekPay 0 = .ok (.iconst 0, 1) := by decide +kernel
theorem dX5_weekPay_1 : decode cX5_weekPay 1 = .ok (.istore_n 2, 1) := by decide +kernel
theorem dX5_weekPay_2 : decode cX5_weekPay 2 = .ok (.iconst 0, 1) := by decide +kernel
theorem dX5_weekPay_3 : decode cX5_weekPay 3 = .ok (.istore_n 3, 1) := by decide +kernel
theorem dX5_weekPay_4 : decode cX5_weekPay 4 = .ok (.iload_n 3, 1) := by decide +kernel
theorem dX5_weekPay_5 : decode cX5_weekPay 5 = .ok (.bipush 7, 2) := by decide +kernel
theorem dX5_weekPay_7 : decode cX5_weekPay 7 = .ok (.if_icmp .ge 25, 3) := by decide +kernel
theorem dX5_weekPay_10 : decode cX5_weekPay 10 = .ok (.iload_n 2, 1) := by decide +kernel
theorem dX5_weekPay_11 : decode cX5_weekPay 11 = .ok (.aload_n 0, 1) := by decide +kernel
theorem dX5_weekPay_12 : decode cX5_weekPay 12 = .ok (.aload_n 0, 1) := by decide +kernel
theorem dX5_weekPay_13 : decode cX5_weekPay 13 = .ok (.iload_n 1, 1) := by decide +kernel
theorem dX5_weekPay_14 : decode cX5_weekPay 14 = .ok (.iload_n 3, 1) := by decide +kernel
theorem dX5_weekPay_15 : decode cX5_weekPay 15 = .ok (.invokevirtual 288, 3) := by decide +kernel
theorem dX5_weekPay_18 : decode cX5_weekPay 18 = .ok (.invokevirtual 164, 3) := by decide +kernel
theorem dX5_weekPay_21 : decode cX5_weekPay 21 = .ok (.getfield 255, 3) := by decide +kernel
theorem dX5_weekPay_24 : decode cX5_weekPay 24 = .ok (.iadd, 1) := by decide +kernel
theorem dX5_weekPay_25 : decode cX5_weekPay 25 = .ok (.istore_n 2, 1) := by decide +kernel
theorem dX5_weekPay_26 : decode cX5_weekPay 26 = .ok (.iinc 3 1, 3) := by decide +kernel
theorem dX5_weekPay_29 : decode cX5_weekPay 29 = .ok (.goto (-25), 3) := by decide +kernel
theorem dX5_weekPay_32 : decode cX5_weekPay 32 = .ok (.iload_n 2, 1) := by decide +kernel
theorem dX5_weekPay_33 : decode cX5_weekPay 33 = .ok (.ireturn, 1) := by decide +kernel
theorem dX5_reasonAgainst_0 : decode cX5_reasonAgainst 0 = .ok (.aload_n 0, 1) := by decide +kernel
theorem dX5_reasonAgainst_1 : decode cX5_reasonAgainst 1 = .ok (.iload_n 3, 1) := by decide +kernel
theorem dX5_reasonAgainst_2 : decode cX5_reasonAgainst 2 = .ok (.invokevirtual 164, 3) := by decide +kernel
theorem dX5_reasonAgainst_5 : decode cX5_reasonAgainst 5 = .ok (.astore 4, 2) := by decide +kernel
theorem dX5_reasonAgainst_7 : decode cX5_reasonAgainst 7 = .ok (.aload 4, 2) := by decide +kernel
theorem dX5_reasonAgainst_9 : decode cX5_reasonAgainst 9 = .ok (.getfield 197, 3) := by decide +kernel
theorem dX5_reasonAgainst_12 : decode cX5_reasonAgainst 12 = .ok (.ifCond .ne 5, 3) := by decide +kernel
theorem dX5_reasonAgainst_15 : decode cX5_reasonAgainst 15 = .ok (.iconst 1, 1) := by decide +kernel
theorem dX5_reasonAgainst_16 : decode cX5_reasonAgainst 16 = .ok (.ireturn, 1) := by decide +kernel
theorem dX5_reasonAgainst_17 : decode cX5_reasonAgainst 17 = .ok (.aload 4, 2) := by decide +kernel
theorem dX5_reasonAgainst_19 : decode cX5_reasonAgainst 19 = .ok (.getfield 336, 3) := by decide +kernel
theorem dX5_reasonAgainst_22 : decode cX5_reasonAgainst 22 = .ok (.ifCond .ne 5, 3) := by decide +kernel
theorem dX5_reasonAgainst_25 : decode cX5_reasonAgainst 25 = .ok (.iconst 2, 1) := by decide +kernel
theorem dX5_reasonAgainst_26 : decode cX5_reasonAgainst 26 = .ok (.ireturn, 1) := by decide +kernel
theorem dX5_reasonAgainst_27 : decode cX5_reasonAgainst 27 = .ok (.aload_n 0, 1) := by decide +kernel
theorem dX5_reasonAgainst_28 : decode cX5_reasonAgainst 28 = .ok (.iload_n 3, 1) := by decide +kernel
theorem dX5_reasonAgainst_29 : decode cX5_reasonAgainst 29 = .ok (.iload_n 2, 1) := by decide +kernel
theorem dX5_reasonAgainst_30 : decode cX5_reasonAgainst 30 = .ok (.invokevirtual 365, 3) := by decide +kernel
theorem dX5_reasonAgainst_33 : decode cX5_reasonAgainst 33 = .ok (.ifCond .eq 5, 3) := by decide +kernel
theorem dX5_reasonAgainst_36 : decode cX5_reasonAgainst 36 = .ok (.iconst 3, 1) := by decide +kernel
theorem dX5_reasonAgainst_37 : decode cX5_reasonAgainst 37 = .ok (.ireturn, 1) := by decide +kernel
theorem dX5_reasonAgainst_38 : decode cX5_reasonAgainst 38 = .ok (.aload_n 0, 1) := by decide +kernel
theorem dX5_reasonAgainst_39 : decode cX5_reasonAgainst 39 = .ok (.iload_n 1, 1) := by decide +kernel
theorem dX5_reasonAgainst_40 : decode cX5_reasonAgainst 40 = .ok (.iload_n 2, 1) := by decide +kernel
theorem dX5_reasonAgainst_41 : decode cX5_reasonAgainst 41 = .ok (.invokevirtual 288, 3) := by decide +kernel
theorem dX5_reasonAgainst_44 : decode cX5_reasonAgainst 44 = .ok (.iconst (-1), 1) := by decide +kernel
theorem dX5_reasonAgainst_45 : decode cX5_reasonAgainst 45 = .ok (.if_icmp .eq 5, 3) := by decide +kernel
theorem dX5_reasonAgainst_48 : decode cX5_reasonAgainst 48 = .ok (.iconst 4, 1) := by decide +kernel
theorem dX5_reasonAgainst_49 : decode cX5_reasonAgainst 49 = .ok (.ireturn, 1) := by decide +kernel
theorem dX5_reasonAgainst_50 : decode cX5_reasonAgainst 50 = .ok (.aload_n 0, 1) := by decide +kernel
theorem dX5_reasonAgainst_51 : decode cX5_reasonAgainst 51 = .ok (.iload_n 1, 1) := by decide +kernel
theorem dX5_reasonAgainst_52 : decode cX5_reasonAgainst 52 = .ok (.iload_n 2, 1) := by decide +kernel
theorem dX5_reasonAgainst_53 : decode cX5_reasonAgainst 53 = .ok (.invokevirtual 368, 3) := by decide +kernel
theorem dX5_reasonAgainst_56 : decode cX5_reasonAgainst 56 = .ok (.bipush 6, 2) := by decide +kernel
theorem dX5_reasonAgainst_58 : decode cX5_reasonAgainst 58 = .ok (.if_icmp .lt 5, 3) := by decide +kernel
theorem dX5_reasonAgainst_61 : decode cX5_reasonAgainst 61 = .ok (.iconst 5, 1) := by decide +kernel
theorem dX5_reasonAgainst_62 : decode cX5_reasonAgainst 62 = .ok (.ireturn, 1) := by decide +kernel
theorem dX5_reasonAgainst_63 : decode cX5_reasonAgainst 63 = .ok (.aload_n 0, 1) := by decide +kernel
theorem dX5_reasonAgainst_64 : decode cX5_reasonAgainst 64 = .ok (.iload_n 1, 1) := by decide +kernel
theorem dX5_reasonAgainst_65 : decode cX5_reasonAgainst 65 = .ok (.invokevirtual 283, 3) := by decide +kernel
theorem dX5_reasonAgainst_68 : decode cX5_reasonAgainst 68 = .ok (.aload 4, 2) := by decide +kernel
theorem dX5_reasonAgainst_70 : decode cX5_reasonAgainst 70 = .ok (.getfield 255, 3) := by decide +kernel
theorem dX5_reasonAgainst_73 : decode cX5_reasonAgainst 73 = .ok (.iadd, 1) := by decide +kernel
theorem dX5_reasonAgainst_74 : decode cX5_reasonAgainst 74 = .ok (.sipush 2880, 3) := by decide +kernel
theorem dX5_reasonAgainst_77 : decode cX5_reasonAgainst 77 = .ok (.if_icmp .le 6, 3) := by decide +kernel
theorem dX5_reasonAgainst_80 : decode cX5_reasonAgainst 80 = .ok (.bipush 6, 2) := by decide +kernel
theorem dX5_reasonAgainst_82 : decode cX5_reasonAgainst 82 = .ok (.ireturn, 1) := by decide +kernel
theorem dX5_reasonAgainst_83 : decode cX5_reasonAgainst 83 = .ok (.aload_n 0, 1) := by decide +kernel
theorem dX5_reasonAgainst_84 : decode cX5_reasonAgainst 84 = .ok (.iload_n 1, 1) := by decide +kernel
theorem dX5_reasonAgainst_85 : decode cX5_reasonAgainst 85 = .ok (.iload_n 2, 1) := by decide +kernel
theorem dX5_reasonAgainst_86 : decode cX5_reasonAgainst 86 = .ok (.iload_n 3, 1) := by decide +kernel
theorem dX5_reasonAgainst_87 : decode cX5_reasonAgainst 87 = .ok (.invokevirtual 371, 3) := by decide +kernel
theorem dX5_reasonAgainst_90 : decode cX5_reasonAgainst 90 = .ok (.ifCond .eq 7, 3) := by decide +kernel
theorem dX5_reasonAgainst_93 : decode cX5_reasonAgainst 93 = .ok (.iconst 0, 1) := by decide +kernel
theorem dX5_reasonAgainst_94 : decode cX5_reasonAgainst 94 = .ok (.goto 5, 3) := by decide +kernel
theorem dX5_reasonAgainst_97 : decode cX5_reasonAgainst 97 = .ok (.bipush 7, 2) := by decide +kernel
theorem dX5_reasonAgainst_99 : decode cX5_reasonAgainst 99 = .ok (.ireturn, 1) := by decide +kernel
theorem dX5_daysInARow_0 : decode cX5_daysInARow 0 = .ok (.iload_n 2, 1) := by decide +kernel
theorem dX5_daysInARow_1 : decode cX5_daysInARow 1 = .ok (.istore_n 3, 1) := by decide +kernel
theorem dX5_daysInARow_2 : decode cX5_daysInARow 2 = .ok (.iload_n 3, 1) := by decide +kernel
theorem dX5_daysInARow_3 : decode cX5_daysInARow 3 = .ok (.ifCond .le 21, 3) := by decide +kernel
theorem dX5_daysInARow_6 : decode cX5_daysInARow 6 = .ok (.aload_n 0, 1) := by decide +kernel
theorem dX5_daysInARow_7 : decode cX5_daysInARow 7 = .ok (.iload_n 1, 1) := by decide +kernel
theorem dX5_daysInARow_8 : decode cX5_daysInARow 8 = .ok (.iload_n 3, 1) := by decide +kernel
theorem dX5_daysInARow_9 : decode cX5_daysInARow 9 = .ok (.iconst 1, 1) := by decide +kernel
theorem dX5_daysInARow_10 : decode cX5_daysInARow 10 = .ok (.isub, 1) := by decide +kernel
theorem dX5_daysInARow_11 : decode cX5_daysInARow 11 = .ok (.invokevirtual 288, 3) := by decide +kernel
theorem dX5_daysInARow_14 : decode cX5_daysInARow 14 = .ok (.iconst (-1), 1) := by decide +kernel
theorem dX5_daysInARow_15 : decode cX5_daysInARow 15 = .ok (.if_icmp .eq 9, 3) := by decide +kernel
theorem dX5_daysInARow_18 : decode cX5_daysInARow 18 = .ok (.iinc 3 (-1), 3) := by decide +kernel
theorem dX5_daysInARow_21 : decode cX5_daysInARow 21 = .ok (.goto (-19), 3) := by decide +kernel
theorem dX5_daysInARow_24 : decode cX5_daysInARow 24 = .ok (.iload_n 2, 1) := by decide +kernel
theorem dX5_daysInARow_25 : decode cX5_daysInARow 25 = .ok (.istore 4, 2) := by decide +kernel
theorem dX5_daysInARow_27 : decode cX5_daysInARow 27 = .ok (.iload 4, 2) := by decide +kernel
theorem dX5_daysInARow_29 : decode cX5_daysInARow 29 = .ok (.bipush 6, 2) := by decide +kernel
theorem dX5_daysInARow_31 : decode cX5_daysInARow 31 = .ok (.if_icmp .ge 22, 3) := by decide +kernel
theorem dX5_daysInARow_34 : decode cX5_daysInARow 34 = .ok (.aload_n 0, 1) := by decide +kernel
theorem dX5_daysInARow_35 : decode cX5_daysInARow 35 = .ok (.iload_n 1, 1) := by decide +kernel
theorem dX5_daysInARow_36 : decode cX5_daysInARow 36 = .ok (.iload 4, 2) := by decide +kernel
theorem dX5_daysInARow_38 : decode cX5_daysInARow 38 = .ok (.iconst 1, 1) := by decide +kernel
theorem dX5_daysInARow_39 : decode cX5_daysInARow 39 = .ok (.iadd, 1) := by decide +kernel
theorem dX5_daysInARow_40 : decode cX5_daysInARow 40 = .ok (.invokevirtual 288, 3) := by decide +kernel
theorem dX5_daysInARow_43 : decode cX5_daysInARow 43 = .ok (.iconst (-1), 1) := by decide +kernel
theorem dX5_daysInARow_44 : decode cX5_daysInARow 44 = .ok (.if_icmp .eq 9, 3) := by decide +kernel
theorem dX5_daysInARow_47 : decode cX5_daysInARow 47 = .ok (.iinc 4 1, 3) := by decide +kernel
theorem dX5_daysInARow_50 : decode cX5_daysInARow 50 = .ok (.goto (-23), 3) := by decide +kernel
theorem dX5_daysInARow_53 : decode cX5_daysInARow 53 = .ok (.iload 4, 2) := by decide +kernel
theorem dX5_daysInARow_55 : decode cX5_daysInARow 55 = .ok (.iload_n 3, 1) := by decide +kernel
theorem dX5_daysInARow_56 : decode cX5_daysInARow 56 = .ok (.isub, 1) := by decide +kernel
theorem dX5_daysInARow_57 : decode cX5_daysInARow 57 = .ok (.iconst 1, 1) := by decide +kernel
theorem dX5_daysInARow_58 : decode cX5_daysInARow 58 = .ok (.iadd, 1) := by decide +kernel
theorem dX5_daysInARow_59 : decode cX5_daysInARow 59 = .ok (.ireturn, 1) := by decide +kernel
theorem dX5_hasRest_0 : decode cX5_hasRest 0 = .ok (.aload_n 0, 1) := by decide +kernel
theorem dX5_hasRest_1 : decode cX5_hasRest 1 = .ok (.iload_n 1, 1) := by decide +kernel
theorem dX5_hasRest_2 : decode cX5_hasRest 2 = .ok (.iload_n 2, 1) := by decide +kernel
theorem dX5_hasRest_3 : decode cX5_hasRest 3 = .ok (.iconst 1, 1) := by decide +kernel
theorem dX5_hasRest_4 : decode cX5_hasRest 4 = .ok (.isub, 1) := by decide +kernel
theorem dX5_hasRest_5 : decode cX5_hasRest 5 = .ok (.invokevirtual 288, 3) := by decide +kernel
theorem dX5_hasRest_8 : decode cX5_hasRest 8 = .ok (.istore 4, 2) := by decide +kernel
theorem dX5_hasRest_10 : decode cX5_hasRest 10 = .ok (.iload 4, 2) := by decide +kernel
theorem dX5_hasRest_12 : decode cX5_hasRest 12 = .ok (.iconst (-1), 1) := by decide +kernel
theorem dX5_hasRest_13 : decode cX5_hasRest 13 = .ok (.if_icmp .eq 22, 3) := by decide +kernel
theorem dX5_hasRest_16 : decode cX5_hasRest 16 = .ok (.aload_n 0, 1) := by decide +kernel
theorem dX5_hasRest_17 : decode cX5_hasRest 17 = .ok (.iload 4, 2) := by decide +kernel
theorem dX5_hasRest_19 : decode cX5_hasRest 19 = .ok (.iload_n 3, 1) := by decide +kernel
theorem dX5_hasRest_20 : decode cX5_hasRest 20 = .ok (.invokevirtual 311, 3) := by decide +kernel
theorem dX5_hasRest_23 : decode cX5_hasRest 23 = .ok (.aload_n 0, 1) := by decide +kernel
theorem dX5_hasRest_24 : decode cX5_hasRest 24 = .ok (.getfield 19, 3) := by decide +kernel
theorem dX5_hasRest_27 : decode cX5_hasRest 27 = .ok (.getfield 130, 3) := by decide +kernel
theorem dX5_hasRest_30 : decode cX5_hasRest 30 = .ok (.if_icmp .ge 5, 3) := by decide +kernel
theorem dX5_hasRest_33 : decode cX5_hasRest 33 = .ok (.iconst 0, 1) := by decide +kernel
theorem dX5_hasRest_34 : decode cX5_hasRest 34 = .ok (.ireturn, 1) := by decide +kernel
theorem dX5_hasRest_35 : decode cX5_hasRest 35 = .ok (.aload_n 0, 1) := by decide +kernel
theorem dX5_hasRest_36 : decode cX5_hasRest 36 = .ok (.iload_n 1, 1) := by decide +kernel
theorem dX5_hasRest_37 : decode cX5_hasRest 37 = .ok (.iload_n 2, 1) := by decide +kernel
theorem dX5_hasRest_38 : decode cX5_hasRest 38 = .ok (.iconst 1, 1) := by decide +kernel
theorem dX5_hasRest_39 : decode cX5_hasRest 39 = .ok (.iadd, 1) := by decide +kernel
theorem dX5_hasRest_40 : decode cX5_hasRest 40 = .ok (.invokevirtual 288, 3) := by decide +kernel
theorem dX5_hasRest_43 : decode cX5_hasRest 43 = .ok (.istore 5, 2) := by decide +kernel
theorem dX5_hasRest_45 : decode cX5_hasRest 45 = .ok (.iload 5, 2) := by decide +kernel
theorem dX5_hasRest_47 : decode cX5_hasRest 47 = .ok (.iconst (-1), 1) := by decide +kernel
theorem dX5_hasRest_48 : decode cX5_hasRest 48 = .ok (.if_icmp .eq 20, 3) := by decide +kernel
theorem dX5_hasRest_51 : decode cX5_hasRest 51 = .ok (.aload_n 0, 1) := by decide +kernel
theorem dX5_hasRest_52 : decode cX5_hasRest 52 = .ok (.iload_n 3, 1) := by decide +kernel
theorem dX5_hasRest_53 : decode cX5_hasRest 53 = .ok (.iload 5, 2) := by decide +kernel
theorem dX5_hasRest_55 : decode cX5_hasRest 55 = .ok (.invokevirtual 311, 3) := by decide +kernel
theorem dX5_hasRest_58 : decode cX5_hasRest 58 = .ok (.aload_n 0, 1) := by decide +kernel
theorem dX5_hasRest_59 : decode cX5_hasRest 59 = .ok (.getfield 19, 3) := by decide +kernel
theorem dX5_hasRest_62 : decode cX5_hasRest 62 = .ok (.getfield 130, 3) := by decide +kernel
theorem dX5_hasRest_65 : decode cX5_hasRest 65 = .ok (.if_icmp .lt 7, 3) := by decide +kernel
theorem dX5_hasRest_68 : decode cX5_hasRest 68 = .ok (.iconst 1, 1) := by decide +kernel
theorem dX5_hasRest_69 : decode cX5_hasRest 69 = .ok (.goto 4, 3) := by decide +kernel
theorem dX5_hasRest_72 : decode cX5_hasRest 72 = .ok (.iconst 0, 1) := by decide +kernel
theorem dX5_hasRest_73 : decode cX5_hasRest 73 = .ok (.ireturn, 1) := by decide +kernel
theorem dX5_restBetween_0 : decode cX5_restBetween 0 = .ok (.aload_n 0, 1) := by decide +kernel
theorem dX5_restBetween_1 : decode cX5_restBetween 1 = .ok (.iload_n 2, 1) := by decide +kernel
theorem dX5_restBetween_2 : decode cX5_restBetween 2 = .ok (.invokevirtual 164, 3) := by decide +kernel
theorem dX5_restBetween_5 : decode cX5_restBetween 5 = .ok (.getfield 298, 3) := by decide +kernel
theorem dX5_restBetween_8 : decode cX5_restBetween 8 = .ok (.sipush 1440, 3) := by decide +kernel
theorem dX5_restBetween_11 : decode cX5_restBetween 11 = .ok (.iadd, 1) := by decide +kernel
theorem dX5_restBetween_12 : decode cX5_restBetween 12 = .ok (.aload_n 0, 1) := by decide +kernel
theorem dX5_restBetween_13 : decode cX5_restBetween 13 = .ok (.iload_n 1, 1) := by decide +kernel
theorem dX5_restBetween_14 : decode cX5_restBetween 14 = .ok (.invokevirtual 164, 3) := by decide +kernel
theorem dX5_restBetween_17 : decode cX5_restBetween 17 = .ok (.getfield 327, 3) := by decide +kernel
theorem dX5_restBetween_20 : decode cX5_restBetween 20 = .ok (.isub, 1) := by decide +kernel
theorem dX5_restBetween_21 : decode cX5_restBetween 21 = .ok (.ireturn, 1) := by decide +kernel
theorem dX5_fillWith_0 : decode cX5_fillWith 0 = .ok (.aload_n 0, 1) := by decide +kernel
theorem dX5_fillWith_1 : decode cX5_fillWith 1 = .ok (.iload_n 2, 1) := by decide +kernel
theorem dX5_fillWith_2 : decode cX5_fillWith 2 = .ok (.iload_n 1, 1) := by decide +kernel
theorem dX5_fillWith_3 : decode cX5_fillWith 3 = .ok (.invokevirtual 374, 3) := by decide +kernel
theorem dX5_fillWith_6 : decode cX5_fillWith 6 = .ok (.istore_n 3, 1) := by decide +kernel
theorem dX5_fillWith_7 : decode cX5_fillWith 7 = .ok (.iload_n 3, 1) := by decide +kernel
theorem dX5_fillWith_8 : decode cX5_fillWith 8 = .ok (.iconst (-1), 1) := by decide +kernel
theorem dX5_fillWith_9 : decode cX5_fillWith 9 = .ok (.if_icmp .eq 10, 3) := by decide +kernel
theorem dX5_fillWith_12 : decode cX5_fillWith 12 = .ok (.aload_n 0, 1) := by decide +kernel
theorem dX5_fillWith_13 : decode cX5_fillWith 13 = .ok (.iload_n 3, 1) := by decide +kernel
theorem dX5_fillWith_14 : decode cX5_fillWith 14 = .ok (.iload_n 2, 1) := by decide +kernel
theorem dX5_fillWith_15 : decode cX5_fillWith 15 = .ok (.iload_n 1, 1) := by decide +kernel
theorem dX5_fillWith_16 : decode cX5_fillWith 16 = .ok (.invokevirtual 280, 3) := by decide +kernel
theorem dX5_fillWith_19 : decode cX5_fillWith 19 = .ok (.return_, 1) := by decide +kernel
theorem dX5_cheapestDriver_0 : decode cX5_cheapestDriver 0 = .ok (.iconst (-1), 1) := by decide +kernel
theorem dX5_cheapestDriver_1 : decode cX5_cheapestDriver 1 = .ok (.istore_n 3, 1) := by decide +kernel
theorem dX5_cheapestDriver_2 : decode cX5_cheapestDriver 2 = .ok (.iconst 0, 1) := by decide +kernel
theorem dX5_cheapestDriver_3 : decode cX5_cheapestDriver 3 = .ok (.istore 4, 2) := by decide +kernel
theorem dX5_cheapestDriver_5 : decode cX5_cheapestDriver 5 = .ok (.iconst 0, 1) := by decide +kernel
theorem dX5_cheapestDriver_6 : decode cX5_cheapestDriver 6 = .ok (.istore 5, 2) := by decide +kernel
theorem dX5_cheapestDriver_8 : decode cX5_cheapestDriver 8 = .ok (.iload 5, 2) := by decide +kernel
theorem dX5_cheapestDriver_10 : decode cX5_cheapestDriver 10 = .ok (.aload_n 0, 1) := by decide +kernel
theorem dX5_cheapestDriver_11 : decode cX5_cheapestDriver 11 = .ok (.getfield 140, 3) := by decide +kernel
theorem dX5_cheapestDriver_14 : decode cX5_cheapestDriver 14 = .ok (.if_icmp .ge 47, 3) := by decide +kernel
theorem dX5_cheapestDriver_17 : decode cX5_cheapestDriver 17 = .ok (.aload_n 0, 1) := by decide +kernel
theorem dX5_cheapestDriver_18 : decode cX5_cheapestDriver 18 = .ok (.iload 5, 2) := by decide +kernel
theorem dX5_cheapestDriver_20 : decode cX5_cheapestDriver 20 = .ok (.iload_n 1, 1) := by decide +kernel
theorem dX5_cheapestDriver_21 : decode cX5_cheapestDriver 21 = .ok (.iload_n 2, 1) := by decide +kernel
theorem dX5_cheapestDriver_22 : decode cX5_cheapestDriver 22 = .ok (.invokevirtual 274, 3) := by decide +kernel
theorem dX5_cheapestDriver_25 : decode cX5_cheapestDriver 25 = .ok (.ifCond .ne 30, 3) := by decide +kernel
theorem dX5_cheapestDriver_28 : decode cX5_cheapestDriver 28 = .ok (.aload_n 0, 1) := by decide +kernel
theorem dX5_cheapestDriver_29 : decode cX5_cheapestDriver 29 = .ok (.iload 5, 2) := by decide +kernel
theorem dX5_cheapestDriver_31 : decode cX5_cheapestDriver 31 = .ok (.invokevirtual 283, 3) := by decide +kernel
theorem dX5_cheapestDriver_34 : decode cX5_cheapestDriver 34 = .ok (.istore 6, 2) := by decide +kernel
theorem dX5_cheapestDriver_36 : decode cX5_cheapestDriver 36 = .ok (.iload_n 3, 1) := by decide +kernel
theorem dX5_cheapestDriver_37 : decode cX5_cheapestDriver 37 = .ok (.iconst (-1), 1) := by decide +kernel
theorem dX5_cheapestDriver_38 : decode cX5_cheapestDriver 38 = .ok (.if_icmp .eq 10, 3) := by decide +kernel
theorem dX5_cheapestDriver_41 : decode cX5_cheapestDriver 41 = .ok (.iload 6, 2) := by decide +kernel
theorem dX5_cheapestDriver_43 : decode cX5_cheapestDriver 43 = .ok (.iload 4, 2) := by decide +kernel
theorem dX5_cheapestDriver_45 : decode cX5_cheapestDriver 45 = .ok (.if_icmp .ge 10, 3) := by decide +kernel
theorem dX5_cheapestDriver_48 : decode cX5_cheapestDriver 48 = .ok (.iload 5, 2) := by decide +kernel
theorem dX5_cheapestDriver_50 : decode cX5_cheapestDriver 50 = .ok (.istore_n 3, 1) := by decide +kernel
theorem dX5_cheapestDriver_51 : decode cX5_cheapestDriver 51 = .ok (.iload 6, 2) := by decide +kernel
theorem dX5_cheapestDriver_53 : decode cX5_cheapestDriver 53 = .ok (.istore 4, 2) := by decide +kernel
theorem dX5_cheapestDriver_55 : decode cX5_cheapestDriver 55 = .ok (.iinc 5 1, 3) := by decide +kernel
theorem dX5_cheapestDriver_58 : decode cX5_cheapestDriver 58 = .ok (.goto (-50), 3) := by decide +kernel
theorem dX5_cheapestDriver_61 : decode cX5_cheapestDriver 61 = .ok (.iload_n 3, 1) := by decide +kernel
theorem dX5_cheapestDriver_62 : decode cX5_cheapestDriver 62 = .ok (.ireturn, 1) := by decide +kernel
