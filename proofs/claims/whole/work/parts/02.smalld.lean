theorem dX0_init_0 : decode cX0_init 0 = .ok (.aload_n 0, 1) := by decide +kernel
theorem dX0_init_1 : decode cX0_init 1 = .ok (.invokespecial 3, 3) := by decide +kernel
theorem dX0_init_4 : decode cX0_init 4 = .ok (.aload_n 0, 1) := by decide +kernel
theorem dX0_init_5 : decode cX0_init 5 = .ok (.bipush 40, 2) := by decide +kernel
theorem dX0_init_7 : decode cX0_init 7 = .ok (.newarray .int, 2) := by decide +kernel
theorem dX0_init_9 : decode cX0_init 9 = .ok (.putfield 9, 3) := by decide +kernel
theorem dX0_init_12 : decode cX0_init 12 = .ok (.aload_n 0, 1) := by decide +kernel
theorem dX0_init_13 : decode cX0_init 13 = .ok (.iconst 1, 1) := by decide +kernel
theorem dX0_init_14 : decode cX0_init 14 = .ok (.putfield 15, 3) := by decide +kernel
theorem dX0_init_17 : decode cX0_init 17 = .ok (.return_, 1) := by decide +kernel
theorem dX0_tripIn_0 : decode cX0_tripIn 0 = .ok (.iload_n 1, 1) := by decide +kernel
theorem dX0_tripIn_1 : decode cX0_tripIn 1 = .ok (.ifCond .lt 21, 3) := by decide +kernel
theorem dX0_tripIn_4 : decode cX0_tripIn 4 = .ok (.iload_n 1, 1) := by decide +kernel
theorem dX0_tripIn_5 : decode cX0_tripIn 5 = .ok (.aload_n 0, 1) := by decide +kernel
theorem dX0_tripIn_6 : decode cX0_tripIn 6 = .ok (.getfield 9, 3) := by decide +kernel
theorem dX0_tripIn_9 : decode cX0_tripIn 9 = .ok (.arraylength, 1) := by decide +kernel
theorem dX0_tripIn_10 : decode cX0_tripIn 10 = .ok (.if_icmp .ge 12, 3) := by decide +kernel
theorem dX0_tripIn_13 : decode cX0_tripIn 13 = .ok (.aload_n 0, 1) := by decide +kernel
theorem dX0_tripIn_14 : decode cX0_tripIn 14 = .ok (.getfield 9, 3) := by decide +kernel
theorem dX0_tripIn_17 : decode cX0_tripIn 17 = .ok (.iload_n 1, 1) := by decide +kernel
theorem dX0_tripIn_18 : decode cX0_tripIn 18 = .ok (.iaload, 1) := by decide +kernel
theorem dX0_tripIn_19 : decode cX0_tripIn 19 = .ok (.goto 4, 3) := by decide +kernel
theorem dX0_tripIn_22 : decode cX0_tripIn 22 = .ok (.iconst (-1), 1) := by decide +kernel
theorem dX0_tripIn_23 : decode cX0_tripIn 23 = .ok (.ireturn, 1) := by decide +kernel
theorem dX0_placeOf_0 : decode cX0_placeOf 0 = .ok (.iconst 0, 1) := by decide +kernel
theorem dX0_placeOf_1 : decode cX0_placeOf 1 = .ok (.istore_n 2, 1) := by decide +kernel
theorem dX0_placeOf_2 : decode cX0_placeOf 2 = .ok (.iload_n 2, 1) := by decide +kernel
theorem dX0_placeOf_3 : decode cX0_placeOf 3 = .ok (.aload_n 0, 1) := by decide +kernel
theorem dX0_placeOf_4 : decode cX0_placeOf 4 = .ok (.getfield 19, 3) := by decide +kernel
theorem dX0_placeOf_7 : decode cX0_placeOf 7 = .ok (.if_icmp .ge 20, 3) := by decide +kernel
theorem dX0_placeOf_10 : decode cX0_placeOf 10 = .ok (.aload_n 0, 1) := by decide +kernel
theorem dX0_placeOf_11 : decode cX0_placeOf 11 = .ok (.iload_n 2, 1) := by decide +kernel
theorem dX0_placeOf_12 : decode cX0_placeOf 12 = .ok (.invokevirtual 23, 3) := by decide +kernel
theorem dX0_placeOf_15 : decode cX0_placeOf 15 = .ok (.iload_n 1, 1) := by decide +kernel
theorem dX0_placeOf_16 : decode cX0_placeOf 16 = .ok (.if_icmp .ne 5, 3) := by decide +kernel
theorem dX0_placeOf_19 : decode cX0_placeOf 19 = .ok (.iload_n 2, 1) := by decide +kernel
theorem dX0_placeOf_20 : decode cX0_placeOf 20 = .ok (.ireturn, 1) := by decide +kernel
theorem dX0_placeOf_21 : decode cX0_placeOf 21 = .ok (.iinc 2 1, 3) := by decide +kernel
theorem dX0_placeOf_24 : decode cX0_placeOf 24 = .ok (.goto (-22), 3) := by decide +kernel
theorem dX0_placeOf_27 : decode cX0_placeOf 27 = .ok (.iconst (-1), 1) := by decide +kernel
theorem dX0_placeOf_28 : decode cX0_placeOf 28 = .ok (.ireturn, 1) := by decide +kernel
theorem dX0_append_0 : decode cX0_append 0 = .ok (.aload_n 0, 1) := by decide +kernel
theorem dX0_append_1 : decode cX0_append 1 = .ok (.getfield 19, 3) := by decide +kernel
theorem dX0_append_4 : decode cX0_append 4 = .ok (.ifCond .lt 35, 3) := by decide +kernel
theorem dX0_append_7 : decode cX0_append 7 = .ok (.aload_n 0, 1) := by decide +kernel
theorem dX0_append_8 : decode cX0_append 8 = .ok (.getfield 19, 3) := by decide +kernel
theorem dX0_append_11 : decode cX0_append 11 = .ok (.aload_n 0, 1) := by decide +kernel
theorem dX0_append_12 : decode cX0_append 12 = .ok (.getfield 9, 3) := by decide +kernel
theorem dX0_append_15 : decode cX0_append 15 = .ok (.arraylength, 1) := by decide +kernel
theorem dX0_append_16 : decode cX0_append 16 = .ok (.if_icmp .ge 23, 3) := by decide +kernel
theorem dX0_append_19 : decode cX0_append 19 = .ok (.aload_n 0, 1) := by decide +kernel
theorem dX0_append_20 : decode cX0_append 20 = .ok (.getfield 9, 3) := by decide +kernel
theorem dX0_append_23 : decode cX0_append 23 = .ok (.aload_n 0, 1) := by decide +kernel
theorem dX0_append_24 : decode cX0_append 24 = .ok (.getfield 19, 3) := by decide +kernel
theorem dX0_append_27 : decode cX0_append 27 = .ok (.iload_n 1, 1) := by decide +kernel
theorem dX0_append_28 : decode cX0_append 28 = .ok (.iastore, 1) := by decide +kernel
theorem dX0_append_29 : decode cX0_append 29 = .ok (.aload_n 0, 1) := by decide +kernel
theorem dX0_append_30 : decode cX0_append 30 = .ok (.dup, 1) := by decide +kernel
theorem dX0_append_31 : decode cX0_append 31 = .ok (.getfield 19, 3) := by decide +kernel
theorem dX0_append_34 : decode cX0_append 34 = .ok (.iconst 1, 1) := by decide +kernel
theorem dX0_append_35 : decode cX0_append 35 = .ok (.iadd, 1) := by decide +kernel
theorem dX0_append_36 : decode cX0_append 36 = .ok (.putfield 19, 3) := by decide +kernel
theorem dX0_append_39 : decode cX0_append 39 = .ok (.return_, 1) := by decide +kernel
theorem dX0_insert_0 : decode cX0_insert 0 = .ok (.aload_n 2, 1) := by decide +kernel
theorem dX0_insert_1 : decode cX0_insert 1 = .ok (.iload_n 1, 1) := by decide +kernel
theorem dX0_insert_2 : decode cX0_insert 2 = .ok (.invokevirtual 27, 3) := by decide +kernel
theorem dX0_insert_5 : decode cX0_insert 5 = .ok (.istore_n 3, 1) := by decide +kernel
theorem dX0_insert_6 : decode cX0_insert 6 = .ok (.aload_n 0, 1) := by decide +kernel
theorem dX0_insert_7 : decode cX0_insert 7 = .ok (.getfield 19, 3) := by decide +kernel
theorem dX0_insert_10 : decode cX0_insert 10 = .ok (.istore 4, 2) := by decide +kernel
theorem dX0_insert_12 : decode cX0_insert 12 = .ok (.iload 4, 2) := by decide +kernel
theorem dX0_insert_14 : decode cX0_insert 14 = .ok (.ifCond .le 25, 3) := by decide +kernel
theorem dX0_insert_17 : decode cX0_insert 17 = .ok (.aload_n 2, 1) := by decide +kernel
theorem dX0_insert_18 : decode cX0_insert 18 = .ok (.aload_n 0, 1) := by decide +kernel
theorem dX0_insert_19 : decode cX0_insert 19 = .ok (.iload 4, 2) := by decide +kernel
theorem dX0_insert_21 : decode cX0_insert 21 = .ok (.iconst 1, 1) := by decide +kernel
theorem dX0_insert_22 : decode cX0_insert 22 = .ok (.isub, 1) := by decide +kernel
theorem dX0_insert_23 : decode cX0_insert 23 = .ok (.invokevirtual 23, 3) := by decide +kernel
theorem dX0_insert_26 : decode cX0_insert 26 = .ok (.invokevirtual 27, 3) := by decide +kernel
theorem dX0_insert_29 : decode cX0_insert 29 = .ok (.iload_n 3, 1) := by decide +kernel
theorem dX0_insert_30 : decode cX0_insert 30 = .ok (.if_icmp .lt 9, 3) := by decide +kernel
theorem dX0_insert_33 : decode cX0_insert 33 = .ok (.iinc 4 (-1), 3) := by decide +kernel
theorem dX0_insert_36 : decode cX0_insert 36 = .ok (.goto (-24), 3) := by decide +kernel
theorem dX0_insert_39 : decode cX0_insert 39 = .ok (.iload 4, 2) := by decide +kernel
theorem dX0_insert_41 : decode cX0_insert 41 = .ok (.aload_n 0, 1) := by decide +kernel
theorem dX0_insert_42 : decode cX0_insert 42 = .ok (.getfield 19, 3) := by decide +kernel
theorem dX0_insert_45 : decode cX0_insert 45 = .ok (.if_icmp .ge 21, 3) := by decide +kernel
theorem dX0_insert_48 : decode cX0_insert 48 = .ok (.aload_n 2, 1) := by decide +kernel
theorem dX0_insert_49 : decode cX0_insert 49 = .ok (.aload_n 0, 1) := by decide +kernel
theorem dX0_insert_50 : decode cX0_insert 50 = .ok (.iload 4, 2) := by decide +kernel
theorem dX0_insert_52 : decode cX0_insert 52 = .ok (.invokevirtual 23, 3) := by decide +kernel
theorem dX0_insert_55 : decode cX0_insert 55 = .ok (.invokevirtual 27, 3) := by decide +kernel
theorem dX0_insert_58 : decode cX0_insert 58 = .ok (.iload_n 3, 1) := by decide +kernel
theorem dX0_insert_59 : decode cX0_insert 59 = .ok (.if_icmp .ne 7, 3) := by decide +kernel
theorem dX0_insert_62 : decode cX0_insert 62 = .ok (.iconst 1, 1) := by decide +kernel
theorem dX0_insert_63 : decode cX0_insert 63 = .ok (.goto 4, 3) := by decide +kernel
theorem dX0_insert_66 : decode cX0_insert 66 = .ok (.iconst 0, 1) := by decide +kernel
theorem dX0_insert_67 : decode cX0_insert 67 = .ok (.istore 5, 2) := by decide +kernel
theorem dX0_insert_69 : decode cX0_insert 69 = .ok (.iload 5, 2) := by decide +kernel
theorem dX0_insert_71 : decode cX0_insert 71 = .ok (.ifCond .ne 15, 3) := by decide +kernel
theorem dX0_insert_74 : decode cX0_insert 74 = .ok (.aload_n 0, 1) := by decide +kernel
theorem dX0_insert_75 : decode cX0_insert 75 = .ok (.getfield 19, 3) := by decide +kernel
theorem dX0_insert_78 : decode cX0_insert 78 = .ok (.aload_n 0, 1) := by decide +kernel
theorem dX0_insert_79 : decode cX0_insert 79 = .ok (.getfield 9, 3) := by decide +kernel
theorem dX0_insert_82 : decode cX0_insert 82 = .ok (.arraylength, 1) := by decide +kernel
theorem dX0_insert_83 : decode cX0_insert 83 = .ok (.if_icmp .lt 5, 3) := by decide +kernel
theorem dX0_insert_86 : decode cX0_insert 86 = .ok (.iconst 0, 1) := by decide +kernel
theorem dX0_insert_87 : decode cX0_insert 87 = .ok (.ireturn, 1) := by decide +kernel
theorem dX0_insert_88 : decode cX0_insert 88 = .ok (.aload_n 0, 1) := by decide +kernel
theorem dX0_insert_89 : decode cX0_insert 89 = .ok (.getfield 19, 3) := by decide +kernel
theorem dX0_insert_92 : decode cX0_insert 92 = .ok (.istore 6, 2) := by decide +kernel
theorem dX0_insert_94 : decode cX0_insert 94 = .ok (.iload 6, 2) := by decide +kernel
theorem dX0_insert_96 : decode cX0_insert 96 = .ok (.iload 4, 2) := by decide +kernel
theorem dX0_insert_98 : decode cX0_insert 98 = .ok (.if_icmp .le 25, 3) := by decide +kernel
theorem dX0_insert_101 : decode cX0_insert 101 = .ok (.aload_n 0, 1) := by decide +kernel
theorem dX0_insert_102 : decode cX0_insert 102 = .ok (.getfield 9, 3) := by decide +kernel
theorem dX0_insert_105 : decode cX0_insert 105 = .ok (.iload 6, 2) := by decide +kernel
theorem dX0_insert_107 : decode cX0_insert 107 = .ok (.aload_n 0, 1) := by decide +kernel
theorem dX0_insert_108 : decode cX0_insert 108 = .ok (.getfield 9, 3) := by decide +kernel
theorem dX0_insert_111 : decode cX0_insert 111 = .ok (.iload 6, 2) := by decide +kernel
theorem dX0_insert_113 : decode cX0_insert 113 = .ok (.iconst 1, 1) := by decide +kernel
theorem dX0_insert_114 : decode cX0_insert 114 = .ok (.isub, 1) := by decide +kernel
theorem dX0_insert_115 : decode cX0_insert 115 = .ok (.iaload, 1) := by decide +kernel
theorem dX0_insert_116 : decode cX0_insert 116 = .ok (.iastore, 1) := by decide +kernel
theorem dX0_insert_117 : decode cX0_insert 117 = .ok (.iinc 6 (-1), 3) := by decide +kernel
theorem dX0_insert_120 : decode cX0_insert 120 = .ok (.goto (-26), 3) := by decide +kernel
theorem dX0_insert_123 : decode cX0_insert 123 = .ok (.aload_n 0, 1) := by decide +kernel
theorem dX0_insert_124 : decode cX0_insert 124 = .ok (.getfield 9, 3) := by decide +kernel
theorem dX0_insert_127 : decode cX0_insert 127 = .ok (.iload 4, 2) := by decide +kernel
theorem dX0_insert_129 : decode cX0_insert 129 = .ok (.iload_n 1, 1) := by decide +kernel
theorem dX0_insert_130 : decode cX0_insert 130 = .ok (.iastore, 1) := by decide +kernel
theorem dX0_insert_131 : decode cX0_insert 131 = .ok (.aload_n 0, 1) := by decide +kernel
theorem dX0_insert_132 : decode cX0_insert 132 = .ok (.dup, 1) := by decide +kernel
theorem dX0_insert_133 : decode cX0_insert 133 = .ok (.getfield 19, 3) := by decide +kernel
theorem dX0_insert_136 : decode cX0_insert 136 = .ok (.iconst 1, 1) := by decide +kernel
theorem dX0_insert_137 : decode cX0_insert 137 = .ok (.iadd, 1) := by decide +kernel
theorem dX0_insert_138 : decode cX0_insert 138 = .ok (.putfield 19, 3) := by decide +kernel
theorem dX0_insert_141 : decode cX0_insert 141 = .ok (.iconst 1, 1) := by decide +kernel
theorem dX0_insert_142 : decode cX0_insert 142 = .ok (.ireturn, 1) := by decide +kernel
theorem dX0_copy_0 : decode cX0_copy 0 = .ok (.aload_n 0, 1) := by decide +kernel
theorem dX0_copy_1 : decode cX0_copy 1 = .ok (.iconst 0, 1) := by decide +kernel
theorem dX0_copy_2 : decode cX0_copy 2 = .ok (.putfield 19, 3) := by decide +kernel
theorem dX0_copy_5 : decode cX0_copy 5 = .ok (.iconst 0, 1) := by decide +kernel
theorem dX0_copy_6 : decode cX0_copy 6 = .ok (.istore_n 2, 1) := by decide +kernel
theorem dX0_copy_7 : decode cX0_copy 7 = .ok (.iload_n 2, 1) := by decide +kernel
theorem dX0_copy_8 : decode cX0_copy 8 = .ok (.aload_n 1, 1) := by decide +kernel
theorem dX0_copy_9 : decode cX0_copy 9 = .ok (.getfield 19, 3) := by decide +kernel
theorem dX0_copy_12 : decode cX0_copy 12 = .ok (.if_icmp .ge 18, 3) := by decide +kernel
theorem dX0_copy_15 : decode cX0_copy 15 = .ok (.aload_n 0, 1) := by decide +kernel
theorem dX0_copy_16 : decode cX0_copy 16 = .ok (.aload_n 1, 1) := by decide +kernel
theorem dX0_copy_17 : decode cX0_copy 17 = .ok (.iload_n 2, 1) := by decide +kernel
theorem dX0_copy_18 : decode cX0_copy 18 = .ok (.invokevirtual 23, 3) := by decide +kernel
theorem dX0_copy_21 : decode cX0_copy 21 = .ok (.invokevirtual 32, 3) := by decide +kernel
theorem dX0_copy_24 : decode cX0_copy 24 = .ok (.iinc 2 1, 3) := by decide +kernel
theorem dX0_copy_27 : decode cX0_copy 27 = .ok (.goto (-20), 3) := by decide +kernel
theorem dX0_copy_30 : decode cX0_copy 30 = .ok (.aload_n 0, 1) := by decide +kernel
theorem dX0_copy_31 : decode cX0_copy 31 = .ok (.aload_n 1, 1) := by decide +kernel
theorem dX0_copy_32 : decode cX0_copy 32 = .ok (.getfield 36, 3) := by decide +kernel
theorem dX0_copy_35 : decode cX0_copy 35 = .ok (.putfield 36, 3) := by decide +kernel
theorem dX0_copy_38 : decode cX0_copy 38 = .ok (.aload_n 0, 1) := by decide +kernel
theorem dX0_copy_39 : decode cX0_copy 39 = .ok (.aload_n 1, 1) := by decide +kernel
theorem dX0_copy_40 : decode cX0_copy 40 = .ok (.getfield 39, 3) := by decide +kernel
theorem dX0_copy_43 : decode cX0_copy 43 = .ok (.putfield 39, 3) := by decide +kernel
theorem dX0_copy_46 : decode cX0_copy 46 = .ok (.aload_n 0, 1) := by decide +kernel
theorem dX0_copy_47 : decode cX0_copy 47 = .ok (.aload_n 1, 1) := by decide +kernel
theorem dX0_copy_48 : decode cX0_copy 48 = .ok (.getfield 42, 3) := by decide +kernel
theorem dX0_copy_51 : decode cX0_copy 51 = .ok (.putfield 42, 3) := by decide +kernel
theorem dX0_copy_54 : decode cX0_copy 54 = .ok (.aload_n 0, 1) := by decide +kernel
theorem dX0_copy_55 : decode cX0_copy 55 = .ok (.aload_n 1, 1) := by decide +kernel
theorem dX0_copy_56 : decode cX0_copy 56 = .ok (.getfield 45, 3) := by decide +kernel
theorem dX0_copy_59 : decode cX0_copy 59 = .ok (.putfield 45, 3) := by decide +kernel
theorem dX0_copy_62 : decode cX0_copy 62 = .ok (.aload_n 0, 1) := by decide +kernel
theorem dX0_copy_63 : decode cX0_copy 63 = .ok (.aload_n 1, 1) := by decide +kernel
theorem dX0_copy_64 : decode cX0_copy 64 = .ok (.getfield 48, 3) := by decide +kernel
theorem dX0_copy_67 : decode cX0_copy 67 = .ok (.putfield 48, 3) := by decide +kernel
theorem dX0_copy_70 : decode cX0_copy 70 = .ok (.aload_n 0, 1) := by decide +kernel
theorem dX0_copy_71 : decode cX0_copy 71 = .ok (.aload_n 1, 1) := by decide +kernel
theorem dX0_copy_72 : decode cX0_copy 72 = .ok (.getfield 51, 3) := by decide +kernel
theorem dX0_copy_75 : decode cX0_copy 75 = .ok (.putfield 51, 3) := by decide +kernel
theorem dX0_copy_78 : decode cX0_copy 78 = .ok (.aload_n 0, 1) := by decide +kernel
theorem dX0_copy_79 : decode cX0_copy 79 = .ok (.aload_n 1, 1) := by decide +kernel
theorem dX0_copy_80 : decode cX0_copy 80 = .ok (.getfield 15, 3) := by decide +kernel
theorem dX0_copy_83 : decode cX0_copy 83 = .ok (.putfield 15, 3) := by decide +kernel
theorem dX0_copy_86 : decode cX0_copy 86 = .ok (.return_, 1) := by decide +kernel
theorem dX0_copyWithout_0 : decode cX0_copyWithout 0 = .ok (.aload_n 0, 1) := by decide +kernel
theorem dX0_copyWithout_1 : decode cX0_copyWithout 1 = .ok (.iconst 0, 1) := by decide +kernel
theorem dX0_copyWithout_2 : decode cX0_copyWithout 2 = .ok (.putfield 19, 3) := by decide +kernel
theorem dX0_copyWithout_5 : decode cX0_copyWithout 5 = .ok (.iconst 0, 1) := by decide +kernel
theorem dX0_copyWithout_6 : decode cX0_copyWithout 6 = .ok (.istore_n 3, 1) := by decide +kernel
theorem dX0_copyWithout_7 : decode cX0_copyWithout 7 = .ok (.iload_n 3, 1) := by decide +kernel
theorem dX0_copyWithout_8 : decode cX0_copyWithout 8 = .ok (.aload_n 1, 1) := by decide +kernel
theorem dX0_copyWithout_9 : decode cX0_copyWithout 9 = .ok (.getfield 19, 3) := by decide +kernel
theorem dX0_copyWithout_12 : decode cX0_copyWithout 12 = .ok (.if_icmp .ge 27, 3) := by decide +kernel
theorem dX0_copyWithout_15 : decode cX0_copyWithout 15 = .ok (.aload_n 1, 1) := by decide +kernel
theorem dX0_copyWithout_16 : decode cX0_copyWithout 16 = .ok (.iload_n 3, 1) := by decide +kernel
theorem dX0_copyWithout_17 : decode cX0_copyWithout 17 = .ok (.invokevirtual 23, 3) := by decide +kernel
theorem dX0_copyWithout_20 : decode cX0_copyWithout 20 = .ok (.iload_n 2, 1) := by decide +kernel
theorem dX0_copyWithout_21 : decode cX0_copyWithout 21 = .ok (.if_icmp .eq 12, 3) := by decide +kernel
theorem dX0_copyWithout_24 : decode cX0_copyWithout 24 = .ok (.aload_n 0, 1) := by decide +kernel
theorem dX0_copyWithout_25 : decode cX0_copyWithout 25 = .ok (.aload_n 1, 1) := by decide +kernel
theorem dX0_copyWithout_26 : decode cX0_copyWithout 26 = .ok (.iload_n 3, 1) := by decide +kernel
theorem dX0_copyWithout_27 : decode cX0_copyWithout 27 = .ok (.invokevirtual 23, 3) := by decide +kernel
theorem dX0_copyWithout_30 : decode cX0_copyWithout 30 = .ok (.invokevirtual 32, 3) := by decide +kernel
theorem dX0_copyWithout_33 : decode cX0_copyWithout 33 = .ok (.iinc 3 1, 3) := by decide +kernel
theorem dX0_copyWithout_36 : decode cX0_copyWithout 36 = .ok (.goto (-29), 3) := by decide +kernel
theorem dX0_copyWithout_39 : decode cX0_copyWithout 39 = .ok (.return_, 1) := by decide +kernel
theorem dX0_join_0 : decode cX0_join 0 = .ok (.aload_n 0, 1) := by decide +kernel
theorem dX0_join_1 : decode cX0_join 1 = .ok (.iconst 0, 1) := by decide +kernel
theorem dX0_join_2 : decode cX0_join 2 = .ok (.putfield 19, 3) := by decide +kernel
theorem dX0_join_5 : decode cX0_join 5 = .ok (.iconst 0, 1) := by decide +kernel
theorem dX0_join_6 : decode cX0_join 6 = .ok (.istore 5, 2) := by decide +kernel
theorem dX0_join_8 : decode cX0_join 8 = .ok (.iload 5, 2) := by decide +kernel
theorem dX0_join_10 : decode cX0_join 10 = .ok (.aload_n 1, 1) := by decide +kernel
theorem dX0_join_11 : decode cX0_join 11 = .ok (.getfield 19, 3) := by decide +kernel
theorem dX0_join_14 : decode cX0_join 14 = .ok (.if_icmp .ge 34, 3) := by decide +kernel
theorem dX0_join_17 : decode cX0_join 17 = .ok (.aload 4, 2) := by decide +kernel
theorem dX0_join_19 : decode cX0_join 19 = .ok (.aload_n 1, 1) := by decide +kernel
theorem dX0_join_20 : decode cX0_join 20 = .ok (.iload 5, 2) := by decide +kernel
theorem dX0_join_22 : decode cX0_join 22 = .ok (.invokevirtual 23, 3) := by decide +kernel
theorem dX0_join_25 : decode cX0_join 25 = .ok (.invokevirtual 27, 3) := by decide +kernel
theorem dX0_join_28 : decode cX0_join 28 = .ok (.iload_n 3, 1) := by decide +kernel
theorem dX0_join_29 : decode cX0_join 29 = .ok (.if_icmp .ge 13, 3) := by decide +kernel
theorem dX0_join_32 : decode cX0_join 32 = .ok (.aload_n 0, 1) := by decide +kernel
theorem dX0_join_33 : decode cX0_join 33 = .ok (.aload_n 1, 1) := by decide +kernel
theorem dX0_join_34 : decode cX0_join 34 = .ok (.iload 5, 2) := by decide +kernel
theorem dX0_join_36 : decode cX0_join 36 = .ok (.invokevirtual 23, 3) := by decide +kernel
theorem dX0_join_39 : decode cX0_join 39 = .ok (.invokevirtual 32, 3) := by decide +kernel
theorem dX0_join_42 : decode cX0_join 42 = .ok (.iinc 5 1, 3) := by decide +kernel
theorem dX0_join_45 : decode cX0_join 45 = .ok (.goto (-37), 3) := by decide +kernel
theorem dX0_join_48 : decode cX0_join 48 = .ok (.iconst 0, 1) := by decide +kernel
theorem dX0_join_49 : decode cX0_join 49 = .ok (.istore 5, 2) := by decide +kernel
theorem dX0_join_51 : decode cX0_join 51 = .ok (.iload 5, 2) := by decide +kernel
theorem dX0_join_53 : decode cX0_join 53 = .ok (.aload_n 2, 1) := by decide +kernel
theorem dX0_join_54 : decode cX0_join 54 = .ok (.getfield 19, 3) := by decide +kernel
theorem dX0_join_57 : decode cX0_join 57 = .ok (.if_icmp .ge 34, 3) := by decide +kernel
theorem dX0_join_60 : decode cX0_join 60 = .ok (.aload 4, 2) := by decide +kernel
theorem dX0_join_62 : decode cX0_join 62 = .ok (.aload_n 2, 1) := by decide +kernel
theorem dX0_join_63 : decode cX0_join 63 = .ok (.iload 5, 2) := by decide +kernel
theorem dX0_join_65 : decode cX0_join 65 = .ok (.invokevirtual 23, 3) := by decide +kernel
theorem dX0_join_68 : decode cX0_join 68 = .ok (.invokevirtual 27, 3) := by decide +kernel
theorem dX0_join_71 : decode cX0_join 71 = .ok (.iload_n 3, 1) := by decide +kernel
theorem dX0_join_72 : decode cX0_join 72 = .ok (.if_icmp .lt 13, 3) := by decide +kernel
theorem dX0_join_75 : decode cX0_join 75 = .ok (.aload_n 0, 1) := by decide +kernel
theorem dX0_join_76 : decode cX0_join 76 = .ok (.aload_n 2, 1) := by decide +kernel
theorem dX0_join_77 : decode cX0_join 77 = .ok (.iload 5, 2) := by decide +kernel
theorem dX0_join_79 : decode cX0_join 79 = .ok (.invokevirtual 23, 3) := by decide +kernel
theorem dX0_join_82 : decode cX0_join 82 = .ok (.invokevirtual 32, 3) := by decide +kernel
theorem dX0_join_85 : decode cX0_join 85 = .ok (.iinc 5 1, 3) := by decide +kernel
theorem dX0_join_88 : decode cX0_join 88 = .ok (.goto (-37), 3) := by decide +kernel
theorem dX0_join_91 : decode cX0_join 91 = .ok (.return_, 1) := by decide +kernel
theorem dX0_measure_0 : decode cX0_measure 0 = .ok (.aload_n 0, 1) := by decide +kernel
theorem dX0_measure_1 : decode cX0_measure 1 = .ok (.iconst 0, 1) := by decide +kernel
theorem dX0_measure_2 : decode cX0_measure 2 = .ok (.putfield 36, 3) := by decide +kernel
theorem dX0_measure_5 : decode cX0_measure 5 = .ok (.aload_n 0, 1) := by decide +kernel
theorem dX0_measure_6 : decode cX0_measure 6 = .ok (.iconst 0, 1) := by decide +kernel
theorem dX0_measure_7 : decode cX0_measure 7 = .ok (.putfield 39, 3) := by decide +kernel
theorem dX0_measure_10 : decode cX0_measure 10 = .ok (.aload_n 0, 1) := by decide +kernel
theorem dX0_measure_11 : decode cX0_measure 11 = .ok (.iconst 0, 1) := by decide +kernel
theorem dX0_measure_12 : decode cX0_measure 12 = .ok (.putfield 42, 3) := by decide +kernel
theorem dX0_measure_15 : decode cX0_measure 15 = .ok (.aload_n 0, 1) := by decide +kernel
theorem dX0_measure_16 : decode cX0_measure 16 = .ok (.iconst 0, 1) := by decide +kernel
theorem dX0_measure_17 : decode cX0_measure 17 = .ok (.putfield 45, 3) := by decide +kernel
theorem dX0_measure_20 : decode cX0_measure 20 = .ok (.aload_n 0, 1) := by decide +kernel
theorem dX0_measure_21 : decode cX0_measure 21 = .ok (.iconst 0, 1) := by decide +kernel
theorem dX0_measure_22 : decode cX0_measure 22 = .ok (.putfield 48, 3) := by decide +kernel
theorem dX0_measure_25 : decode cX0_measure 25 = .ok (.aload_n 0, 1) := by decide +kernel
theorem dX0_measure_26 : decode cX0_measure 26 = .ok (.iconst 0, 1) := by decide +kernel
theorem dX0_measure_27 : decode cX0_measure 27 = .ok (.putfield 51, 3) := by decide +kernel
theorem dX0_measure_30 : decode cX0_measure 30 = .ok (.aload_n 0, 1) := by decide +kernel
theorem dX0_measure_31 : decode cX0_measure 31 = .ok (.iconst 1, 1) := by decide +kernel
theorem dX0_measure_32 : decode cX0_measure 32 = .ok (.putfield 15, 3) := by decide +kernel
theorem dX0_measure_35 : decode cX0_measure 35 = .ok (.aload_n 0, 1) := by decide +kernel
theorem dX0_measure_36 : decode cX0_measure 36 = .ok (.getfield 19, 3) := by decide +kernel
theorem dX0_measure_39 : decode cX0_measure 39 = .ok (.ifCond .le 57, 3) := by decide +kernel
theorem dX0_measure_42 : decode cX0_measure 42 = .ok (.aload_n 0, 1) := by decide +kernel
theorem dX0_measure_43 : decode cX0_measure 43 = .ok (.aload_n 1, 1) := by decide +kernel
theorem dX0_measure_44 : decode cX0_measure 44 = .ok (.invokevirtual 54, 3) := by decide +kernel
theorem dX0_measure_47 : decode cX0_measure 47 = .ok (.aload_n 0, 1) := by decide +kernel
theorem dX0_measure_48 : decode cX0_measure 48 = .ok (.aload_n 1, 1) := by decide +kernel
theorem dX0_measure_49 : decode cX0_measure 49 = .ok (.aload_n 2, 1) := by decide +kernel
theorem dX0_measure_50 : decode cX0_measure 50 = .ok (.invokevirtual 58, 3) := by decide +kernel
theorem dX0_measure_53 : decode cX0_measure 53 = .ok (.aload_n 0, 1) := by decide +kernel
theorem dX0_measure_54 : decode cX0_measure 54 = .ok (.aload_n 0, 1) := by decide +kernel
theorem dX0_measure_55 : decode cX0_measure 55 = .ok (.getfield 42, 3) := by decide +kernel
theorem dX0_measure_58 : decode cX0_measure 58 = .ok (.invokestatic 62, 3) := by decide +kernel
theorem dX0_measure_61 : decode cX0_measure 61 = .ok (.putfield 45, 3) := by decide +kernel
theorem dX0_measure_64 : decode cX0_measure 64 = .ok (.aload_n 0, 1) := by decide +kernel
theorem dX0_measure_65 : decode cX0_measure 65 = .ok (.getfield 51, 3) := by decide +kernel
theorem dX0_measure_68 : decode cX0_measure 68 = .ok (.aload_n 2, 1) := by decide +kernel
theorem dX0_measure_69 : decode cX0_measure 69 = .ok (.getfield 65, 3) := by decide +kernel
theorem dX0_measure_72 : decode cX0_measure 72 = .ok (.if_icmp .gt 19, 3) := by decide +kernel
theorem dX0_measure_75 : decode cX0_measure 75 = .ok (.aload_n 0, 1) := by decide +kernel
theorem dX0_measure_76 : decode cX0_measure 76 = .ok (.getfield 39, 3) := by decide +kernel
theorem dX0_measure_79 : decode cX0_measure 79 = .ok (.aload_n 0, 1) := by decide +kernel
theorem dX0_measure_80 : decode cX0_measure 80 = .ok (.getfield 36, 3) := by decide +kernel
theorem dX0_measure_83 : decode cX0_measure 83 = .ok (.isub, 1) := by decide +kernel
theorem dX0_measure_84 : decode cX0_measure 84 = .ok (.aload_n 2, 1) := by decide +kernel
theorem dX0_measure_85 : decode cX0_measure 85 = .ok (.getfield 70, 3) := by decide +kernel
theorem dX0_measure_88 : decode cX0_measure 88 = .ok (.if_icmp .le 8, 3) := by decide +kernel
theorem dX0_measure_91 : decode cX0_measure 91 = .ok (.aload_n 0, 1) := by decide +kernel
theorem dX0_measure_92 : decode cX0_measure 92 = .ok (.iconst 0, 1) := by decide +kernel
theorem dX0_measure_93 : decode cX0_measure 93 = .ok (.putfield 15, 3) := by decide +kernel
theorem dX0_measure_96 : decode cX0_measure 96 = .ok (.return_, 1) := by decide +kernel
theorem dX0_measureSpread_0 : decode cX0_measureSpread 0 = .ok (.aload_n 0, 1) := by decide +kernel
theorem dX0_measureSpread_1 : decode cX0_measureSpread 1 = .ok (.iconst 0, 1) := by decide +kernel
theorem dX0_measureSpread_2 : decode cX0_measureSpread 2 = .ok (.invokevirtual 23, 3) := by decide +kernel
theorem dX0_measureSpread_5 : decode cX0_measureSpread 5 = .ok (.istore_n 2, 1) := by decide +kernel
theorem dX0_measureSpread_6 : decode cX0_measureSpread 6 = .ok (.aload_n 0, 1) := by decide +kernel
theorem dX0_measureSpread_7 : decode cX0_measureSpread 7 = .ok (.aload_n 0, 1) := by decide +kernel
theorem dX0_measureSpread_8 : decode cX0_measureSpread 8 = .ok (.getfield 19, 3) := by decide +kernel
theorem dX0_measureSpread_11 : decode cX0_measureSpread 11 = .ok (.iconst 1, 1) := by decide +kernel
theorem dX0_measureSpread_12 : decode cX0_measureSpread 12 = .ok (.isub, 1) := by decide +kernel
theorem dX0_measureSpread_13 : decode cX0_measureSpread 13 = .ok (.invokevirtual 23, 3) := by decide +kernel
theorem dX0_measureSpread_16 : decode cX0_measureSpread 16 = .ok (.istore_n 3, 1) := by decide +kernel
theorem dX0_measureSpread_17 : decode cX0_measureSpread 17 = .ok (.aload_n 1, 1) := by decide +kernel
theorem dX0_measureSpread_18 : decode cX0_measureSpread 18 = .ok (.iconst 0, 1) := by decide +kernel
theorem dX0_measureSpread_19 : decode cX0_measureSpread 19 = .ok (.aload_n 1, 1) := by decide +kernel
theorem dX0_measureSpread_20 : decode cX0_measureSpread 20 = .ok (.iload_n 2, 1) := by decide +kernel
theorem dX0_measureSpread_21 : decode cX0_measureSpread 21 = .ok (.invokevirtual 73, 3) := by decide +kernel
theorem dX0_measureSpread_24 : decode cX0_measureSpread 24 = .ok (.invokevirtual 76, 3) := by decide +kernel
theorem dX0_measureSpread_27 : decode cX0_measureSpread 27 = .ok (.istore 4, 2) := by decide +kernel
theorem dX0_measureSpread_29 : decode cX0_measureSpread 29 = .ok (.aload_n 1, 1) := by decide +kernel
theorem dX0_measureSpread_30 : decode cX0_measureSpread 30 = .ok (.aload_n 1, 1) := by decide +kernel
theorem dX0_measureSpread_31 : decode cX0_measureSpread 31 = .ok (.iload_n 3, 1) := by decide +kernel
theorem dX0_measureSpread_32 : decode cX0_measureSpread 32 = .ok (.invokevirtual 80, 3) := by decide +kernel
theorem dX0_measureSpread_35 : decode cX0_measureSpread 35 = .ok (.iconst 0, 1) := by decide +kernel
theorem dX0_measureSpread_36 : decode cX0_measureSpread 36 = .ok (.invokevirtual 76, 3) := by decide +kernel
theorem dX0_measureSpread_39 : decode cX0_measureSpread 39 = .ok (.istore 5, 2) := by decide +kernel
theorem dX0_measureSpread_41 : decode cX0_measureSpread 41 = .ok (.aload_n 0, 1) := by decide +kernel
theorem dX0_measureSpread_42 : decode cX0_measureSpread 42 = .ok (.aload_n 1, 1) := by decide +kernel
theorem dX0_measureSpread_43 : decode cX0_measureSpread 43 = .ok (.iload_n 2, 1) := by decide +kernel
theorem dX0_measureSpread_44 : decode cX0_measureSpread 44 = .ok (.invokevirtual 27, 3) := by decide +kernel
theorem dX0_measureSpread_47 : decode cX0_measureSpread 47 = .ok (.iload 4, 2) := by decide +kernel
theorem dX0_measureSpread_49 : decode cX0_measureSpread 49 = .ok (.isub, 1) := by decide +kernel
theorem dX0_measureSpread_50 : decode cX0_measureSpread 50 = .ok (.bipush 10, 2) := by decide +kernel
theorem dX0_measureSpread_52 : decode cX0_measureSpread 52 = .ok (.isub, 1) := by decide +kernel
theorem dX0_measureSpread_53 : decode cX0_measureSpread 53 = .ok (.putfield 36, 3) := by decide +kernel
theorem dX0_measureSpread_56 : decode cX0_measureSpread 56 = .ok (.aload_n 0, 1) := by decide +kernel
theorem dX0_measureSpread_57 : decode cX0_measureSpread 57 = .ok (.aload_n 1, 1) := by decide +kernel
theorem dX0_measureSpread_58 : decode cX0_measureSpread 58 = .ok (.iload_n 3, 1) := by decide +kernel
theorem dX0_measureSpread_59 : decode cX0_measureSpread 59 = .ok (.invokevirtual 83, 3) := by decide +kernel
theorem dX0_measureSpread_62 : decode cX0_measureSpread 62 = .ok (.iload 5, 2) := by decide +kernel
theorem dX0_measureSpread_64 : decode cX0_measureSpread 64 = .ok (.iadd, 1) := by decide +kernel
theorem dX0_measureSpread_65 : decode cX0_measureSpread 65 = .ok (.iconst 5, 1) := by decide +kernel
theorem dX0_measureSpread_66 : decode cX0_measureSpread 66 = .ok (.iadd, 1) := by decide +kernel
theorem dX0_measureSpread_67 : decode cX0_measureSpread 67 = .ok (.putfield 39, 3) := by decide +kernel
theorem dX0_measureSpread_70 : decode cX0_measureSpread 70 = .ok (.aload_n 0, 1) := by decide +kernel
theorem dX0_measureSpread_71 : decode cX0_measureSpread 71 = .ok (.aload_n 0, 1) := by decide +kernel
theorem dX0_measureSpread_72 : decode cX0_measureSpread 72 = .ok (.getfield 39, 3) := by decide +kernel
theorem dX0_measureSpread_75 : decode cX0_measureSpread 75 = .ok (.aload_n 0, 1) := by decide +kernel
theorem dX0_measureSpread_76 : decode cX0_measureSpread 76 = .ok (.getfield 36, 3) := by decide +kernel
theorem dX0_measureSpread_79 : decode cX0_measureSpread 79 = .ok (.isub, 1) := by decide +kernel
theorem dX0_measureSpread_80 : decode cX0_measureSpread 80 = .ok (.putfield 42, 3) := by decide +kernel
theorem dX0_measureSpread_83 : decode cX0_measureSpread 83 = .ok (.return_, 1) := by decide +kernel
theorem dX0_measureStretches_0 : decode cX0_measureStretches 0 = .ok (.aload_n 0, 1) := by decide +kernel
theorem dX0_measureStretches_1 : decode cX0_measureStretches 1 = .ok (.iconst 0, 1) := by decide +kernel
theorem dX0_measureStretches_2 : decode cX0_measureStretches 2 = .ok (.invokevirtual 23, 3) := by decide +kernel
theorem dX0_measureStretches_5 : decode cX0_measureStretches 5 = .ok (.istore_n 3, 1) := by decide +kernel
theorem dX0_measureStretches_6 : decode cX0_measureStretches 6 = .ok (.aload_n 1, 1) := by decide +kernel
theorem dX0_measureStretches_7 : decode cX0_measureStretches 7 = .ok (.iconst 0, 1) := by decide +kernel
theorem dX0_measureStretches_8 : decode cX0_measureStretches 8 = .ok (.aload_n 1, 1) := by decide +kernel
theorem dX0_measureStretches_9 : decode cX0_measureStretches 9 = .ok (.iload_n 3, 1) := by decide +kernel
theorem dX0_measureStretches_10 : decode cX0_measureStretches 10 = .ok (.invokevirtual 73, 3) := by decide +kernel
theorem dX0_measureStretches_13 : decode cX0_measureStretches 13 = .ok (.invokevirtual 76, 3) := by decide +kernel
theorem dX0_measureStretches_16 : decode cX0_measureStretches 16 = .ok (.aload_n 1, 1) := by decide +kernel
theorem dX0_measureStretches_17 : decode cX0_measureStretches 17 = .ok (.iload_n 3, 1) := by decide +kernel
theorem dX0_measureStretches_18 : decode cX0_measureStretches 18 = .ok (.invokevirtual 86, 3) := by decide +kernel
theorem dX0_measureStretches_21 : decode cX0_measureStretches 21 = .ok (.iadd, 1) := by decide +kernel
theorem dX0_measureStretches_22 : decode cX0_measureStretches 22 = .ok (.istore 4, 2) := by decide +kernel
theorem dX0_measureStretches_24 : decode cX0_measureStretches 24 = .ok (.iconst 1, 1) := by decide +kernel
theorem dX0_measureStretches_25 : decode cX0_measureStretches 25 = .ok (.istore 5, 2) := by decide +kernel
theorem dX0_measureStretches_27 : decode cX0_measureStretches 27 = .ok (.iload 5, 2) := by decide +kernel
theorem dX0_measureStretches_29 : decode cX0_measureStretches 29 = .ok (.aload_n 0, 1) := by decide +kernel
theorem dX0_measureStretches_30 : decode cX0_measureStretches 30 = .ok (.getfield 19, 3) := by decide +kernel
theorem dX0_measureStretches_33 : decode cX0_measureStretches 33 = .ok (.if_icmp .ge 117, 3) := by decide +kernel
theorem dX0_measureStretches_36 : decode cX0_measureStretches 36 = .ok (.aload_n 0, 1) := by decide +kernel
theorem dX0_measureStretches_37 : decode cX0_measureStretches 37 = .ok (.iload 5, 2) := by decide +kernel
theorem dX0_measureStretches_39 : decode cX0_measureStretches 39 = .ok (.invokevirtual 23, 3) := by decide +kernel
theorem dX0_measureStretches_42 : decode cX0_measureStretches 42 = .ok (.istore 6, 2) := by decide +kernel
theorem dX0_measureStretches_44 : decode cX0_measureStretches 44 = .ok (.aload_n 1, 1) := by decide +kernel
theorem dX0_measureStretches_45 : decode cX0_measureStretches 45 = .ok (.aload_n 1, 1) := by decide +kernel
theorem dX0_measureStretches_46 : decode cX0_measureStretches 46 = .ok (.iload_n 3, 1) := by decide +kernel
theorem dX0_measureStretches_47 : decode cX0_measureStretches 47 = .ok (.invokevirtual 80, 3) := by decide +kernel
theorem dX0_measureStretches_50 : decode cX0_measureStretches 50 = .ok (.aload_n 1, 1) := by decide +kernel
theorem dX0_measureStretches_51 : decode cX0_measureStretches 51 = .ok (.iload 6, 2) := by decide +kernel
theorem dX0_measureStretches_53 : decode cX0_measureStretches 53 = .ok (.invokevirtual 73, 3) := by decide +kernel
theorem dX0_measureStretches_56 : decode cX0_measureStretches 56 = .ok (.invokevirtual 76, 3) := by decide +kernel
theorem dX0_measureStretches_59 : decode cX0_measureStretches 59 = .ok (.istore 7, 2) := by decide +kernel
theorem dX0_measureStretches_61 : decode cX0_measureStretches 61 = .ok (.aload_n 1, 1) := by decide +kernel
theorem dX0_measureStretches_62 : decode cX0_measureStretches 62 = .ok (.iload 6, 2) := by decide +kernel
theorem dX0_measureStretches_64 : decode cX0_measureStretches 64 = .ok (.invokevirtual 27, 3) := by decide +kernel
theorem dX0_measureStretches_67 : decode cX0_measureStretches 67 = .ok (.aload_n 1, 1) := by decide +kernel
theorem dX0_measureStretches_68 : decode cX0_measureStretches 68 = .ok (.iload_n 3, 1) := by decide +kernel
theorem dX0_measureStretches_69 : decode cX0_measureStretches 69 = .ok (.invokevirtual 83, 3) := by decide +kernel
theorem dX0_measureStretches_72 : decode cX0_measureStretches 72 = .ok (.isub, 1) := by decide +kernel
theorem dX0_measureStretches_73 : decode cX0_measureStretches 73 = .ok (.iload 7, 2) := by decide +kernel
theorem dX0_measureStretches_75 : decode cX0_measureStretches 75 = .ok (.isub, 1) := by decide +kernel
theorem dX0_measureStretches_76 : decode cX0_measureStretches 76 = .ok (.istore 8, 2) := by decide +kernel
theorem dX0_measureStretches_78 : decode cX0_measureStretches 78 = .ok (.iload 8, 2) := by decide +kernel
theorem dX0_measureStretches_80 : decode cX0_measureStretches 80 = .ok (.ifCond .ge 8, 3) := by decide +kernel
theorem dX0_measureStretches_83 : decode cX0_measureStretches 83 = .ok (.aload_n 0, 1) := by decide +kernel
theorem dX0_measureStretches_84 : decode cX0_measureStretches 84 = .ok (.iconst 0, 1) := by decide +kernel
theorem dX0_measureStretches_85 : decode cX0_measureStretches 85 = .ok (.putfield 15, 3) := by decide +kernel
theorem dX0_measureStretches_88 : decode cX0_measureStretches 88 = .ok (.iload 8, 2) := by decide +kernel
theorem dX0_measureStretches_90 : decode cX0_measureStretches 90 = .ok (.aload_n 2, 1) := by decide +kernel
theorem dX0_measureStretches_91 : decode cX0_measureStretches 91 = .ok (.getfield 89, 3) := by decide +kernel
theorem dX0_measureStretches_94 : decode cX0_measureStretches 94 = .ok (.if_icmp .lt 33, 3) := by decide +kernel
theorem dX0_measureStretches_97 : decode cX0_measureStretches 97 = .ok (.aload_n 0, 1) := by decide +kernel
theorem dX0_measureStretches_98 : decode cX0_measureStretches 98 = .ok (.dup, 1) := by decide +kernel
theorem dX0_measureStretches_99 : decode cX0_measureStretches 99 = .ok (.getfield 48, 3) := by decide +kernel
theorem dX0_measureStretches_102 : decode cX0_measureStretches 102 = .ok (.iconst 1, 1) := by decide +kernel
theorem dX0_measureStretches_103 : decode cX0_measureStretches 103 = .ok (.iadd, 1) := by decide +kernel
theorem dX0_measureStretches_104 : decode cX0_measureStretches 104 = .ok (.putfield 48, 3) := by decide +kernel
theorem dX0_measureStretches_107 : decode cX0_measureStretches 107 = .ok (.aload_n 0, 1) := by decide +kernel
theorem dX0_measureStretches_108 : decode cX0_measureStretches 108 = .ok (.dup, 1) := by decide +kernel
theorem dX0_measureStretches_109 : decode cX0_measureStretches 109 = .ok (.getfield 42, 3) := by decide +kernel
theorem dX0_measureStretches_112 : decode cX0_measureStretches 112 = .ok (.iload 8, 2) := by decide +kernel
theorem dX0_measureStretches_114 : decode cX0_measureStretches 114 = .ok (.isub, 1) := by decide +kernel
theorem dX0_measureStretches_115 : decode cX0_measureStretches 115 = .ok (.putfield 42, 3) := by decide +kernel
theorem dX0_measureStretches_118 : decode cX0_measureStretches 118 = .ok (.aload_n 0, 1) := by decide +kernel
theorem dX0_measureStretches_119 : decode cX0_measureStretches 119 = .ok (.iload 4, 2) := by decide +kernel
theorem dX0_measureStretches_121 : decode cX0_measureStretches 121 = .ok (.invokevirtual 92, 3) := by decide +kernel
theorem dX0_measureStretches_124 : decode cX0_measureStretches 124 = .ok (.iconst 0, 1) := by decide +kernel
theorem dX0_measureStretches_125 : decode cX0_measureStretches 125 = .ok (.istore 4, 2) := by decide +kernel
theorem dX0_measureStretches_127 : decode cX0_measureStretches 127 = .ok (.iload 4, 2) := by decide +kernel
theorem dX0_measureStretches_129 : decode cX0_measureStretches 129 = .ok (.iload 7, 2) := by decide +kernel
theorem dX0_measureStretches_131 : decode cX0_measureStretches 131 = .ok (.aload_n 1, 1) := by decide +kernel
theorem dX0_measureStretches_132 : decode cX0_measureStretches 132 = .ok (.iload 6, 2) := by decide +kernel
theorem dX0_measureStretches_134 : decode cX0_measureStretches 134 = .ok (.invokevirtual 86, 3) := by decide +kernel
theorem dX0_measureStretches_137 : decode cX0_measureStretches 137 = .ok (.iadd, 1) := by decide +kernel
theorem dX0_measureStretches_138 : decode cX0_measureStretches 138 = .ok (.iadd, 1) := by decide +kernel
theorem dX0_measureStretches_139 : decode cX0_measureStretches 139 = .ok (.istore 4, 2) := by decide +kernel
theorem dX0_measureStretches_141 : decode cX0_measureStretches 141 = .ok (.iload 6, 2) := by decide +kernel
theorem dX0_measureStretches_143 : decode cX0_measureStretches 143 = .ok (.istore_n 3, 1) := by decide +kernel
theorem dX0_measureStretches_144 : decode cX0_measureStretches 144 = .ok (.iinc 5 1, 3) := by decide +kernel
theorem dX0_measureStretches_147 : decode cX0_measureStretches 147 = .ok (.goto (-120), 3) := by decide +kernel
theorem dX0_measureStretches_150 : decode cX0_measureStretches 150 = .ok (.aload_n 0, 1) := by decide +kernel
theorem dX0_measureStretches_151 : decode cX0_measureStretches 151 = .ok (.iload 4, 2) := by decide +kernel
theorem dX0_measureStretches_153 : decode cX0_measureStretches 153 = .ok (.aload_n 1, 1) := by decide +kernel
theorem dX0_measureStretches_154 : decode cX0_measureStretches 154 = .ok (.aload_n 1, 1) := by decide +kernel
theorem dX0_measureStretches_155 : decode cX0_measureStretches 155 = .ok (.iload_n 3, 1) := by decide +kernel
theorem dX0_measureStretches_156 : decode cX0_measureStretches 156 = .ok (.invokevirtual 80, 3) := by decide +kernel
theorem dX0_measureStretches_159 : decode cX0_measureStretches 159 = .ok (.iconst 0, 1) := by decide +kernel
theorem dX0_measureStretches_160 : decode cX0_measureStretches 160 = .ok (.invokevirtual 76, 3) := by decide +kernel
theorem dX0_measureStretches_163 : decode cX0_measureStretches 163 = .ok (.iadd, 1) := by decide +kernel
theorem dX0_measureStretches_164 : decode cX0_measureStretches 164 = .ok (.invokevirtual 92, 3) := by decide +kernel
theorem dX0_measureStretches_167 : decode cX0_measureStretches 167 = .ok (.return_, 1) := by decide +kernel
theorem dX0_endStretch_0 : decode cX0_endStretch 0 = .ok (.iload_n 1, 1) := by decide +kernel
theorem dX0_endStretch_1 : decode cX0_endStretch 1 = .ok (.aload_n 0, 1) := by decide +kernel
theorem dX0_endStretch_2 : decode cX0_endStretch 2 = .ok (.getfield 51, 3) := by decide +kernel
theorem dX0_endStretch_5 : decode cX0_endStretch 5 = .ok (.if_icmp .le 8, 3) := by decide +kernel
theorem dX0_endStretch_8 : decode cX0_endStretch 8 = .ok (.aload_n 0, 1) := by decide +kernel
theorem dX0_endStretch_9 : decode cX0_endStretch 9 = .ok (.iload_n 1, 1) := by decide +kernel
theorem dX0_endStretch_10 : decode cX0_endStretch 10 = .ok (.putfield 51, 3) := by decide +kernel
theorem dX0_endStretch_13 : decode cX0_endStretch 13 = .ok (.return_, 1) := by decide +kernel
theorem dX0_payFor_0 : decode cX0_payFor 0 = .ok (.iload_n 0, 1) := by decide +kernel
theorem dX0_payFor_1 : decode cX0_payFor 1 = .ok (.sipush 360, 3) := by decide +kernel
theorem dX0_payFor_4 : decode cX0_payFor 4 = .ok (.if_icmp .ge 9, 3) := by decide +kernel
theorem dX0_payFor_7 : decode cX0_payFor 7 = .ok (.sipush 360, 3) := by decide +kernel
theorem dX0_payFor_10 : decode cX0_payFor 10 = .ok (.goto 4, 3) := by decide +kernel
theorem dX0_payFor_13 : decode cX0_payFor 13 = .ok (.iload_n 0, 1) := by decide +kernel
theorem dX0_payFor_14 : decode cX0_payFor 14 = .ok (.istore_n 1, 1) := by decide +kernel
theorem dX0_payFor_15 : decode cX0_payFor 15 = .ok (.iload_n 0, 1) := by decide +kernel
theorem dX0_payFor_16 : decode cX0_payFor 16 = .ok (.sipush 480, 3) := by decide +kernel
theorem dX0_payFor_19 : decode cX0_payFor 19 = .ok (.if_icmp .le 15, 3) := by decide +kernel
theorem dX0_payFor_22 : decode cX0_payFor 22 = .ok (.iload_n 1, 1) := by decide +kernel
theorem dX0_payFor_23 : decode cX0_payFor 23 = .ok (.iload_n 0, 1) := by decide +kernel
theorem dX0_payFor_24 : decode cX0_payFor 24 = .ok (.sipush 480, 3) := by decide +kernel
theorem dX0_payFor_27 : decode cX0_payFor 27 = .ok (.isub, 1) := by decide +kernel
theorem dX0_payFor_28 : decode cX0_payFor 28 = .ok (.iconst 2, 1) := by decide +kernel
theorem dX0_payFor_29 : decode cX0_payFor 29 = .ok (.idiv, 1) := by decide +kernel
theorem dX0_payFor_30 : decode cX0_payFor 30 = .ok (.iadd, 1) := by decide +kernel
theorem dX0_payFor_31 : decode cX0_payFor 31 = .ok (.goto 4, 3) := by decide +kernel
theorem dX0_payFor_34 : decode cX0_payFor 34 = .ok (.iload_n 1, 1) := by decide +kernel
theorem dX0_payFor_35 : decode cX0_payFor 35 = .ok (.ireturn, 1) := by decide +kernel
theorem dX1_init_0 : decode cX1_init 0 = .ok (.aload_n 0, 1) := by decide +kernel
theorem dX1_init_1 : decode cX1_init 1 = .ok (.invokespecial 3, 3) := by decide +kernel
theorem dX1_init_4 : decode cX1_init 4 = .ok (.return_, 1) := by decide +kernel
theorem dX1_clear_0 : decode cX1_clear 0 = .ok (.aload_n 0, 1) := by decide +kernel
theorem dX1_clear_1 : decode cX1_clear 1 = .ok (.iconst (-1), 1) := by decide +kernel
theorem dX1_clear_2 : decode cX1_clear 2 = .ok (.putfield 9, 3) := by decide +kernel
theorem dX1_clear_5 : decode cX1_clear 5 = .ok (.aload_n 0, 1) := by decide +kernel
theorem dX1_clear_6 : decode cX1_clear 6 = .ok (.iconst (-1), 1) := by decide +kernel
theorem dX1_clear_7 : decode cX1_clear 7 = .ok (.putfield 15, 3) := by decide +kernel
theorem dX1_clear_10 : decode cX1_clear 10 = .ok (.aload_n 0, 1) := by decide +kernel
theorem dX1_clear_11 : decode cX1_clear 11 = .ok (.iconst 0, 1) := by decide +kernel
theorem dX1_clear_12 : decode cX1_clear 12 = .ok (.putfield 18, 3) := by decide +kernel
theorem dX1_clear_15 : decode cX1_clear 15 = .ok (.aload_n 0, 1) := by decide +kernel
theorem dX1_clear_16 : decode cX1_clear 16 = .ok (.iconst 0, 1) := by decide +kernel
theorem dX1_clear_17 : decode cX1_clear 17 = .ok (.putfield 21, 3) := by decide +kernel
theorem dX1_clear_20 : decode cX1_clear 20 = .ok (.return_, 1) := by decide +kernel
theorem dX1_offer_0 : decode cX1_offer 0 = .ok (.iload 4, 2) := by decide +kernel
theorem dX1_offer_2 : decode cX1_offer 2 = .ok (.aload_n 0, 1) := by decide +kernel
theorem dX1_offer_3 : decode cX1_offer 3 = .ok (.getfield 21, 3) := by decide +kernel
theorem dX1_offer_6 : decode cX1_offer 6 = .ok (.if_icmp .ne 31, 3) := by decide +kernel
theorem dX1_offer_9 : decode cX1_offer 9 = .ok (.iload_n 1, 1) := by decide +kernel
theorem dX1_offer_10 : decode cX1_offer 10 = .ok (.aload_n 0, 1) := by decide +kernel
theorem dX1_offer_11 : decode cX1_offer 11 = .ok (.getfield 9, 3) := by decide +kernel
theorem dX1_offer_14 : decode cX1_offer 14 = .ok (.if_icmp .ne 23, 3) := by decide +kernel
theorem dX1_offer_17 : decode cX1_offer 17 = .ok (.iload_n 2, 1) := by decide +kernel
theorem dX1_offer_18 : decode cX1_offer 18 = .ok (.aload_n 0, 1) := by decide +kernel
theorem dX1_offer_19 : decode cX1_offer 19 = .ok (.getfield 15, 3) := by decide +kernel
theorem dX1_offer_22 : decode cX1_offer 22 = .ok (.if_icmp .ne 15, 3) := by decide +kernel
theorem dX1_offer_25 : decode cX1_offer 25 = .ok (.iload_n 3, 1) := by decide +kernel
theorem dX1_offer_26 : decode cX1_offer 26 = .ok (.aload_n 0, 1) := by decide +kernel
theorem dX1_offer_27 : decode cX1_offer 27 = .ok (.getfield 18, 3) := by decide +kernel
theorem dX1_offer_30 : decode cX1_offer 30 = .ok (.if_icmp .ge 7, 3) := by decide +kernel
theorem dX1_offer_33 : decode cX1_offer 33 = .ok (.iconst 1, 1) := by decide +kernel
theorem dX1_offer_34 : decode cX1_offer 34 = .ok (.goto 4, 3) := by decide +kernel
theorem dX1_offer_37 : decode cX1_offer 37 = .ok (.iconst 0, 1) := by decide +kernel
theorem dX1_offer_38 : decode cX1_offer 38 = .ok (.istore 5, 2) := by decide +kernel
theorem dX1_offer_40 : decode cX1_offer 40 = .ok (.iload 4, 2) := by decide +kernel
theorem dX1_offer_42 : decode cX1_offer 42 = .ok (.aload_n 0, 1) := by decide +kernel
theorem dX1_offer_43 : decode cX1_offer 43 = .ok (.getfield 21, 3) := by decide +kernel
theorem dX1_offer_46 : decode cX1_offer 46 = .ok (.if_icmp .lt 8, 3) := by decide +kernel
theorem dX1_offer_49 : decode cX1_offer 49 = .ok (.iload 5, 2) := by decide +kernel
theorem dX1_offer_51 : decode cX1_offer 51 = .ok (.ifCond .eq 24, 3) := by decide +kernel
theorem dX1_offer_54 : decode cX1_offer 54 = .ok (.aload_n 0, 1) := by decide +kernel
theorem dX1_offer_55 : decode cX1_offer 55 = .ok (.iload_n 1, 1) := by decide +kernel
theorem dX1_offer_56 : decode cX1_offer 56 = .ok (.putfield 9, 3) := by decide +kernel
theorem dX1_offer_59 : decode cX1_offer 59 = .ok (.aload_n 0, 1) := by decide +kernel
theorem dX1_offer_60 : decode cX1_offer 60 = .ok (.iload_n 2, 1) := by decide +kernel
theorem dX1_offer_61 : decode cX1_offer 61 = .ok (.putfield 15, 3) := by decide +kernel
theorem dX1_offer_64 : decode cX1_offer 64 = .ok (.aload_n 0, 1) := by decide +kernel
theorem dX1_offer_65 : decode cX1_offer 65 = .ok (.iload_n 3, 1) := by decide +kernel
theorem dX1_offer_66 : decode cX1_offer 66 = .ok (.putfield 18, 3) := by decide +kernel
theorem dX1_offer_69 : decode cX1_offer 69 = .ok (.aload_n 0, 1) := by decide +kernel
theorem dX1_offer_70 : decode cX1_offer 70 = .ok (.iload 4, 2) := by decide +kernel
theorem dX1_offer_72 : decode cX1_offer 72 = .ok (.putfield 21, 3) := by decide +kernel
theorem dX1_offer_75 : decode cX1_offer 75 = .ok (.return_, 1) := by decide +kernel
theorem dX2_init_0 : decode cX2_init 0 = .ok (.aload_n 0, 1) := by decide +kernel
theorem dX2_init_1 : decode cX2_init 1 = .ok (.invokespecial 3, 3) := by decide +kernel
theorem dX2_init_4 : decode cX2_init 4 = .ok (.aload_n 0, 1) := by decide +kernel
theorem dX2_init_5 : decode cX2_init 5 = .ok (.bipush 40, 2) := by decide +kernel
theorem dX2_init_7 : decode cX2_init 7 = .ok (.newarray .int, 2) := by decide +kernel
theorem dX2_init_9 : decode cX2_init 9 = .ok (.putfield 9, 3) := by decide +kernel
theorem dX2_init_12 : decode cX2_init 12 = .ok (.aload_n 0, 1) := by decide +kernel
theorem dX2_init_13 : decode cX2_init 13 = .ok (.bipush 40, 2) := by decide +kernel
theorem dX2_init_15 : decode cX2_init 15 = .ok (.newarray .int, 2) := by decide +kernel
theorem dX2_init_17 : decode cX2_init 17 = .ok (.putfield 15, 3) := by decide +kernel
theorem dX2_init_20 : decode cX2_init 20 = .ok (.return_, 1) := by decide +kernel
theorem dX2_clear_0 : decode cX2_clear 0 = .ok (.aload_n 0, 1) := by decide +kernel
theorem dX2_clear_1 : decode cX2_clear 1 = .ok (.iconst 0, 1) := by decide +kernel
theorem dX2_clear_2 : decode cX2_clear 2 = .ok (.putfield 18, 3) := by decide +kernel
theorem dX2_clear_5 : decode cX2_clear 5 = .ok (.return_, 1) := by decide +kernel
theorem dX2_numberIn_0 : decode cX2_numberIn 0 = .ok (.iload_n 1, 1) := by decide +kernel
theorem dX2_numberIn_1 : decode cX2_numberIn 1 = .ok (.ifCond .lt 21, 3) := by decide +kernel
theorem dX2_numberIn_4 : decode cX2_numberIn 4 = .ok (.iload_n 1, 1) := by decide +kernel
theorem dX2_numberIn_5 : decode cX2_numberIn 5 = .ok (.aload_n 0, 1) := by decide +kernel
theorem dX2_numberIn_6 : decode cX2_numberIn 6 = .ok (.getfield 15, 3) := by decide +kernel
theorem dX2_numberIn_9 : decode cX2_numberIn 9 = .ok (.arraylength, 1) := by decide +kernel
theorem dX2_numberIn_10 : decode cX2_numberIn 10 = .ok (.if_icmp .ge 12, 3) := by decide +kernel
theorem dX2_numberIn_13 : decode cX2_numberIn 13 = .ok (.aload_n 0, 1) := by decide +kernel
theorem dX2_numberIn_14 : decode cX2_numberIn 14 = .ok (.getfield 15, 3) := by decide +kernel
theorem dX2_numberIn_17 : decode cX2_numberIn 17 = .ok (.iload_n 1, 1) := by decide +kernel
theorem dX2_numberIn_18 : decode cX2_numberIn 18 = .ok (.iaload, 1) := by decide +kernel
theorem dX2_numberIn_19 : decode cX2_numberIn 19 = .ok (.goto 4, 3) := by decide +kernel
theorem dX2_numberIn_22 : decode cX2_numberIn 22 = .ok (.iconst (-1), 1) := by decide +kernel
theorem dX2_numberIn_23 : decode cX2_numberIn 23 = .ok (.ireturn, 1) := by decide +kernel
theorem dX2_insert_0 : decode cX2_insert 0 = .ok (.aload_n 0, 1) := by decide +kernel
theorem dX2_insert_1 : decode cX2_insert 1 = .ok (.getfield 18, 3) := by decide +kernel
theorem dX2_insert_4 : decode cX2_insert 4 = .ok (.aload_n 0, 1) := by decide +kernel
theorem dX2_insert_5 : decode cX2_insert 5 = .ok (.getfield 9, 3) := by decide +kernel
theorem dX2_insert_8 : decode cX2_insert 8 = .ok (.arraylength, 1) := by decide +kernel
theorem dX2_insert_9 : decode cX2_insert 9 = .ok (.if_icmp .lt 4, 3) := by decide +kernel
theorem dX2_insert_12 : decode cX2_insert 12 = .ok (.return_, 1) := by decide +kernel
theorem dX2_insert_13 : decode cX2_insert 13 = .ok (.aload_n 0, 1) := by decide +kernel
theorem dX2_insert_14 : decode cX2_insert 14 = .ok (.getfield 18, 3) := by decide +kernel
theorem dX2_insert_17 : decode cX2_insert 17 = .ok (.istore_n 3, 1) := by decide +kernel
theorem dX2_insert_18 : decode cX2_insert 18 = .ok (.iload_n 3, 1) := by decide +kernel
theorem dX2_insert_19 : decode cX2_insert 19 = .ok (.ifCond .le 49, 3) := by decide +kernel
theorem dX2_insert_22 : decode cX2_insert 22 = .ok (.aload_n 0, 1) := by decide +kernel
theorem dX2_insert_23 : decode cX2_insert 23 = .ok (.getfield 9, 3) := by decide +kernel
theorem dX2_insert_26 : decode cX2_insert 26 = .ok (.iload_n 3, 1) := by decide +kernel
theorem dX2_insert_27 : decode cX2_insert 27 = .ok (.iconst 1, 1) := by decide +kernel
theorem dX2_insert_28 : decode cX2_insert 28 = .ok (.isub, 1) := by decide +kernel
theorem dX2_insert_29 : decode cX2_insert 29 = .ok (.iaload, 1) := by decide +kernel
theorem dX2_insert_30 : decode cX2_insert 30 = .ok (.iload_n 1, 1) := by decide +kernel
theorem dX2_insert_31 : decode cX2_insert 31 = .ok (.if_icmp .le 37, 3) := by decide +kernel
theorem dX2_insert_34 : decode cX2_insert 34 = .ok (.aload_n 0, 1) := by decide +kernel
theorem dX2_insert_35 : decode cX2_insert 35 = .ok (.getfield 9, 3) := by decide +kernel
theorem dX2_insert_38 : decode cX2_insert 38 = .ok (.iload_n 3, 1) := by decide +kernel
theorem dX2_insert_39 : decode cX2_insert 39 = .ok (.aload_n 0, 1) := by decide +kernel
theorem dX2_insert_40 : decode cX2_insert 40 = .ok (.getfield 9, 3) := by decide +kernel
theorem dX2_insert_43 : decode cX2_insert 43 = .ok (.iload_n 3, 1) := by decide +kernel
theorem dX2_insert_44 : decode cX2_insert 44 = .ok (.iconst 1, 1) := by decide +kernel
theorem dX2_insert_45 : decode cX2_insert 45 = .ok (.isub, 1) := by decide +kernel
theorem dX2_insert_46 : decode cX2_insert 46 = .ok (.iaload, 1) := by decide +kernel
theorem dX2_insert_47 : decode cX2_insert 47 = .ok (.iastore, 1) := by decide +kernel
theorem dX2_insert_48 : decode cX2_insert 48 = .ok (.aload_n 0, 1) := by decide +kernel
theorem dX2_insert_49 : decode cX2_insert 49 = .ok (.getfield 15, 3) := by decide +kernel
theorem dX2_insert_52 : decode cX2_insert 52 = .ok (.iload_n 3, 1) := by decide +kernel
theorem dX2_insert_53 : decode cX2_insert 53 = .ok (.aload_n 0, 1) := by decide +kernel
theorem dX2_insert_54 : decode cX2_insert 54 = .ok (.getfield 15, 3) := by decide +kernel
theorem dX2_insert_57 : decode cX2_insert 57 = .ok (.iload_n 3, 1) := by decide +kernel
theorem dX2_insert_58 : decode cX2_insert 58 = .ok (.iconst 1, 1) := by decide +kernel
theorem dX2_insert_59 : decode cX2_insert 59 = .ok (.isub, 1) := by decide +kernel
theorem dX2_insert_60 : decode cX2_insert 60 = .ok (.iaload, 1) := by decide +kernel
theorem dX2_insert_61 : decode cX2_insert 61 = .ok (.iastore, 1) := by decide +kernel
theorem dX2_insert_62 : decode cX2_insert 62 = .ok (.iinc 3 (-1), 3) := by decide +kernel
theorem dX2_insert_65 : decode cX2_insert 65 = .ok (.goto (-47), 3) := by decide +kernel
theorem dX2_insert_68 : decode cX2_insert 68 = .ok (.aload_n 0, 1) := by decide +kernel
theorem dX2_insert_69 : decode cX2_insert 69 = .ok (.getfield 9, 3) := by decide +kernel
theorem dX2_insert_72 : decode cX2_insert 72 = .ok (.iload_n 3, 1) := by decide +kernel
theorem dX2_insert_73 : decode cX2_insert 73 = .ok (.iload_n 1, 1) := by decide +kernel
theorem dX2_insert_74 : decode cX2_insert 74 = .ok (.iastore, 1) := by decide +kernel
theorem dX2_insert_75 : decode cX2_insert 75 = .ok (.aload_n 0, 1) := by decide +kernel
theorem dX2_insert_76 : decode cX2_insert 76 = .ok (.getfield 15, 3) := by decide +kernel
theorem dX2_insert_79 : decode cX2_insert 79 = .ok (.iload_n 3, 1) := by decide +kernel
theorem dX2_insert_80 : decode cX2_insert 80 = .ok (.iload_n 2, 1) := by decide +kernel
theorem dX2_insert_81 : decode cX2_insert 81 = .ok (.iastore, 1) := by decide +kernel
theorem dX2_insert_82 : decode cX2_insert 82 = .ok (.aload_n 0, 1) := by decide +kernel
theorem dX2_insert_83 : decode cX2_insert 83 = .ok (.dup, 1) := by decide +kernel
theorem dX2_insert_84 : decode cX2_insert 84 = .ok (.getfield 18, 3) := by decide +kernel
theorem dX2_insert_87 : decode cX2_insert 87 = .ok (.iconst 1, 1) := by decide +kernel
theorem dX2_insert_88 : decode cX2_insert 88 = .ok (.iadd, 1) := by decide +kernel
theorem dX2_insert_89 : decode cX2_insert 89 = .ok (.putfield 18, 3) := by decide +kernel
theorem dX2_insert_92 : decode cX2_insert 92 = .ok (.return_, 1) := by decide +kernel
theorem dX3_init_0 : decode cX3_init 0 = .ok (.aload_n 0, 1) := by decide +kernel
theorem dX3_init_1 : decode cX3_init 1 = .ok (.invokespecial 1, 3) := by decide +kernel
theorem dX3_init_4 : decode cX3_init 4 = .ok (.aload_n 0, 1) := by decide +kernel
theorem dX3_init_5 : decode cX3_init 5 = .ok (.sipush 270, 3) := by decide +kernel
theorem dX3_init_8 : decode cX3_init 8 = .ok (.putfield 7, 3) := by decide +kernel
theorem dX3_init_11 : decode cX3_init 11 = .ok (.aload_n 0, 1) := by decide +kernel
theorem dX3_init_12 : decode cX3_init 12 = .ok (.sipush 720, 3) := by decide +kernel
theorem dX3_init_15 : decode cX3_init 15 = .ok (.putfield 13, 3) := by decide +kernel
theorem dX3_init_18 : decode cX3_init 18 = .ok (.aload_n 0, 1) := by decide +kernel
theorem dX3_init_19 : decode cX3_init 19 = .ok (.bipush 30, 2) := by decide +kernel
theorem dX3_init_21 : decode cX3_init 21 = .ok (.putfield 16, 3) := by decide +kernel
theorem dX3_init_24 : decode cX3_init 24 = .ok (.aload_n 0, 1) := by decide +kernel
theorem dX3_init_25 : decode cX3_init 25 = .ok (.sipush 660, 3) := by decide +kernel
theorem dX3_init_28 : decode cX3_init 28 = .ok (.putfield 19, 3) := by decide +kernel
theorem dX3_init_31 : decode cX3_init 31 = .ok (.return_, 1) := by decide +kernel
theorem dX4_init_0 : decode cX4_init 0 = .ok (.aload_n 0, 1) := by decide +kernel
theorem dX4_init_1 : decode cX4_init 1 = .ok (.invokespecial 3, 3) := by decide +kernel
theorem dX4_init_4 : decode cX4_init 4 = .ok (.aload_n 0, 1) := by decide +kernel
theorem dX4_init_5 : decode cX4_init 5 = .ok (.bipush 6, 2) := by decide +kernel
theorem dX4_init_7 : decode cX4_init 7 = .ok (.bipush 6, 2) := by decide +kernel
theorem dX4_init_9 : decode cX4_init 9 = .ok (.multianewarray 9 2, 4) := by decide +kernel
theorem dX4_init_13 : decode cX4_init 13 = .ok (.putfield 11, 3) := by decide +kernel
theorem dX4_init_16 : decode cX4_init 16 = .ok (.aload_n 0, 1) := by decide +kernel
theorem dX4_init_17 : decode cX4_init 17 = .ok (.bipush 40, 2) := by decide +kernel
theorem dX4_init_19 : decode cX4_init 19 = .ok (.newarray .int, 2) := by decide +kernel
theorem dX4_init_21 : decode cX4_init 21 = .ok (.putfield 16, 3) := by decide +kernel
theorem dX4_init_24 : decode cX4_init 24 = .ok (.aload_n 0, 1) := by decide +kernel
theorem dX4_init_25 : decode cX4_init 25 = .ok (.bipush 40, 2) := by decide +kernel
theorem dX4_init_27 : decode cX4_init 27 = .ok (.newarray .int, 2) := by decide +kernel
theorem dX4_init_29 : decode cX4_init 29 = .ok (.putfield 20, 3) := by decide +kernel
theorem dX4_init_32 : decode cX4_init 32 = .ok (.aload_n 0, 1) := by decide +kernel
theorem dX4_init_33 : decode cX4_init 33 = .ok (.bipush 40, 2) := by decide +kernel
theorem dX4_init_35 : decode cX4_init 35 = .ok (.newarray .int, 2) := by decide +kernel
theorem dX4_init_37 : decode cX4_init 37 = .ok (.putfield 23, 3) := by decide +kernel
theorem dX4_init_40 : decode cX4_init 40 = .ok (.aload_n 0, 1) := by decide +kernel
theorem dX4_init_41 : decode cX4_init 41 = .ok (.bipush 40, 2) := by decide +kernel
theorem dX4_init_43 : decode cX4_init 43 = .ok (.newarray .int, 2) := by decide +kernel
theorem dX4_init_45 : decode cX4_init 45 = .ok (.putfield 26, 3) := by decide +kernel
theorem dX4_init_48 : decode cX4_init 48 = .ok (.iconst 0, 1) := by decide +kernel
theorem dX4_init_49 : decode cX4_init 49 = .ok (.istore_n 1, 1) := by decide +kernel
theorem dX4_init_50 : decode cX4_init 50 = .ok (.iload_n 1, 1) := by decide +kernel
theorem dX4_init_51 : decode cX4_init 51 = .ok (.bipush 6, 2) := by decide +kernel
theorem dX4_init_53 : decode cX4_init 53 = .ok (.if_icmp .ge 42, 3) := by decide +kernel
theorem dX4_init_56 : decode cX4_init 56 = .ok (.iconst 0, 1) := by decide +kernel
theorem dX4_init_57 : decode cX4_init 57 = .ok (.istore_n 2, 1) := by decide +kernel
theorem dX4_init_58 : decode cX4_init 58 = .ok (.iload_n 2, 1) := by decide +kernel
theorem dX4_init_59 : decode cX4_init 59 = .ok (.bipush 6, 2) := by decide +kernel
theorem dX4_init_61 : decode cX4_init 61 = .ok (.if_icmp .ge 28, 3) := by decide +kernel
theorem dX4_init_64 : decode cX4_init 64 = .ok (.aload_n 0, 1) := by decide +kernel
theorem dX4_init_65 : decode cX4_init 65 = .ok (.getfield 11, 3) := by decide +kernel
theorem dX4_init_68 : decode cX4_init 68 = .ok (.iload_n 1, 1) := by decide +kernel
theorem dX4_init_69 : decode cX4_init 69 = .ok (.aaload, 1) := by decide +kernel
theorem dX4_init_70 : decode cX4_init 70 = .ok (.iload_n 2, 1) := by decide +kernel
theorem dX4_init_71 : decode cX4_init 71 = .ok (.iload_n 1, 1) := by decide +kernel
theorem dX4_init_72 : decode cX4_init 72 = .ok (.iload_n 2, 1) := by decide +kernel
theorem dX4_init_73 : decode cX4_init 73 = .ok (.if_icmp .ne 7, 3) := by decide +kernel
theorem dX4_init_76 : decode cX4_init 76 = .ok (.iconst 0, 1) := by decide +kernel
theorem dX4_init_77 : decode cX4_init 77 = .ok (.goto 5, 3) := by decide +kernel
theorem dX4_init_80 : decode cX4_init 80 = .ok (.bipush 15, 2) := by decide +kernel
theorem dX4_init_82 : decode cX4_init 82 = .ok (.iastore, 1) := by decide +kernel
theorem dX4_init_83 : decode cX4_init 83 = .ok (.iinc 2 1, 3) := by decide +kernel
theorem dX4_init_86 : decode cX4_init 86 = .ok (.goto (-28), 3) := by decide +kernel
theorem dX4_init_89 : decode cX4_init 89 = .ok (.iinc 1 1, 3) := by decide +kernel
theorem dX4_init_92 : decode cX4_init 92 = .ok (.goto (-42), 3) := by decide +kernel
theorem dX4_init_95 : decode cX4_init 95 = .ok (.return_, 1) := by decide +kernel
theorem dX4_wayFrom_0 : decode cX4_wayFrom 0 = .ok (.iload_n 1, 1) := by decide +kernel
theorem dX4_wayFrom_1 : decode cX4_wayFrom 1 = .ok (.ifCond .lt 30, 3) := by decide +kernel
theorem dX4_wayFrom_4 : decode cX4_wayFrom 4 = .ok (.iload_n 1, 1) := by decide +kernel
theorem dX4_wayFrom_5 : decode cX4_wayFrom 5 = .ok (.bipush 6, 2) := by decide +kernel
theorem dX4_wayFrom_7 : decode cX4_wayFrom 7 = .ok (.if_icmp .ge 24, 3) := by decide +kernel
theorem dX4_wayFrom_10 : decode cX4_wayFrom 10 = .ok (.iload_n 2, 1) := by decide +kernel
theorem dX4_wayFrom_11 : decode cX4_wayFrom 11 = .ok (.ifCond .lt 20, 3) := by decide +kernel
theorem dX4_wayFrom_14 : decode cX4_wayFrom 14 = .ok (.iload_n 2, 1) := by decide +kernel
theorem dX4_wayFrom_15 : decode cX4_wayFrom 15 = .ok (.bipush 6, 2) := by decide +kernel
theorem dX4_wayFrom_17 : decode cX4_wayFrom 17 = .ok (.if_icmp .ge 14, 3) := by decide +kernel
theorem dX4_wayFrom_20 : decode cX4_wayFrom 20 = .ok (.aload_n 0, 1) := by decide +kernel
theorem dX4_wayFrom_21 : decode cX4_wayFrom 21 = .ok (.getfield 11, 3) := by decide +kernel
theorem dX4_wayFrom_24 : decode cX4_wayFrom 24 = .ok (.iload_n 1, 1) := by decide +kernel
theorem dX4_wayFrom_25 : decode cX4_wayFrom 25 = .ok (.aaload, 1) := by decide +kernel
theorem dX4_wayFrom_26 : decode cX4_wayFrom 26 = .ok (.iload_n 2, 1) := by decide +kernel
theorem dX4_wayFrom_27 : decode cX4_wayFrom 27 = .ok (.iaload, 1) := by decide +kernel
theorem dX4_wayFrom_28 : decode cX4_wayFrom 28 = .ok (.goto 4, 3) := by decide +kernel
theorem dX4_wayFrom_31 : decode cX4_wayFrom 31 = .ok (.iconst 0, 1) := by decide +kernel
theorem dX4_wayFrom_32 : decode cX4_wayFrom 32 = .ok (.ireturn, 1) := by decide +kernel
theorem dX4_changeWay_0 : decode cX4_changeWay 0 = .ok (.iload_n 1, 1) := by decide +kernel
theorem dX4_changeWay_1 : decode cX4_changeWay 1 = .ok (.ifCond .lt 37, 3) := by decide +kernel
theorem dX4_changeWay_4 : decode cX4_changeWay 4 = .ok (.iload_n 1, 1) := by decide +kernel
theorem dX4_changeWay_5 : decode cX4_changeWay 5 = .ok (.bipush 6, 2) := by decide +kernel
theorem dX4_changeWay_7 : decode cX4_changeWay 7 = .ok (.if_icmp .ge 31, 3) := by decide +kernel
theorem dX4_changeWay_10 : decode cX4_changeWay 10 = .ok (.iload_n 2, 1) := by decide +kernel
theorem dX4_changeWay_11 : decode cX4_changeWay 11 = .ok (.ifCond .lt 27, 3) := by decide +kernel
theorem dX4_changeWay_14 : decode cX4_changeWay 14 = .ok (.iload_n 2, 1) := by decide +kernel
theorem dX4_changeWay_15 : decode cX4_changeWay 15 = .ok (.bipush 6, 2) := by decide +kernel
theorem dX4_changeWay_17 : decode cX4_changeWay 17 = .ok (.if_icmp .ge 21, 3) := by decide +kernel
theorem dX4_changeWay_20 : decode cX4_changeWay 20 = .ok (.aload_n 0, 1) := by decide +kernel
theorem dX4_changeWay_21 : decode cX4_changeWay 21 = .ok (.getfield 11, 3) := by decide +kernel
theorem dX4_changeWay_24 : decode cX4_changeWay 24 = .ok (.iload_n 1, 1) := by decide +kernel
theorem dX4_changeWay_25 : decode cX4_changeWay 25 = .ok (.aaload, 1) := by decide +kernel
theorem dX4_changeWay_26 : decode cX4_changeWay 26 = .ok (.iload_n 2, 1) := by decide +kernel
theorem dX4_changeWay_27 : decode cX4_changeWay 27 = .ok (.iload_n 3, 1) := by decide +kernel
theorem dX4_changeWay_28 : decode cX4_changeWay 28 = .ok (.iastore, 1) := by decide +kernel
theorem dX4_changeWay_29 : decode cX4_changeWay 29 = .ok (.aload_n 0, 1) := by decide +kernel
theorem dX4_changeWay_30 : decode cX4_changeWay 30 = .ok (.getfield 11, 3) := by decide +kernel
theorem dX4_changeWay_33 : decode cX4_changeWay 33 = .ok (.iload_n 2, 1) := by decide +kernel
theorem dX4_changeWay_34 : decode cX4_changeWay 34 = .ok (.aaload, 1) := by decide +kernel
theorem dX4_changeWay_35 : decode cX4_changeWay 35 = .ok (.iload_n 1, 1) := by decide +kernel
theorem dX4_changeWay_36 : decode cX4_changeWay 36 = .ok (.iload_n 3, 1) := by decide +kernel
theorem dX4_changeWay_37 : decode cX4_changeWay 37 = .ok (.iastore, 1) := by decide +kernel
theorem dX4_changeWay_38 : decode cX4_changeWay 38 = .ok (.return_, 1) := by decide +kernel
theorem dX4_append_0 : decode cX4_append 0 = .ok (.aload_n 0, 1) := by decide +kernel
theorem dX4_append_1 : decode cX4_append 1 = .ok (.getfield 29, 3) := by decide +kernel
theorem dX4_append_4 : decode cX4_append 4 = .ok (.bipush 40, 2) := by decide +kernel
theorem dX4_append_6 : decode cX4_append 6 = .ok (.if_icmp .lt 5, 3) := by decide +kernel
theorem dX4_append_9 : decode cX4_append 9 = .ok (.iconst (-1), 1) := by decide +kernel
theorem dX4_append_10 : decode cX4_append 10 = .ok (.ireturn, 1) := by decide +kernel
theorem dX4_append_11 : decode cX4_append 11 = .ok (.aload_n 0, 1) := by decide +kernel
theorem dX4_append_12 : decode cX4_append 12 = .ok (.getfield 16, 3) := by decide +kernel
theorem dX4_append_15 : decode cX4_append 15 = .ok (.aload_n 0, 1) := by decide +kernel
theorem dX4_append_16 : decode cX4_append 16 = .ok (.getfield 29, 3) := by decide +kernel
theorem dX4_append_19 : decode cX4_append 19 = .ok (.iload_n 1, 1) := by decide +kernel
theorem dX4_append_20 : decode cX4_append 20 = .ok (.iastore, 1) := by decide +kernel
theorem dX4_append_21 : decode cX4_append 21 = .ok (.aload_n 0, 1) := by decide +kernel
theorem dX4_append_22 : decode cX4_append 22 = .ok (.getfield 20, 3) := by decide +kernel
theorem dX4_append_25 : decode cX4_append 25 = .ok (.aload_n 0, 1) := by decide +kernel
theorem dX4_append_26 : decode cX4_append 26 = .ok (.getfield 29, 3) := by decide +kernel
theorem dX4_append_29 : decode cX4_append 29 = .ok (.iload_n 2, 1) := by decide +kernel
theorem dX4_append_30 : decode cX4_append 30 = .ok (.iastore, 1) := by decide +kernel
theorem dX4_append_31 : decode cX4_append 31 = .ok (.aload_n 0, 1) := by decide +kernel
theorem dX4_append_32 : decode cX4_append 32 = .ok (.getfield 23, 3) := by decide +kernel
theorem dX4_append_35 : decode cX4_append 35 = .ok (.aload_n 0, 1) := by decide +kernel
theorem dX4_append_36 : decode cX4_append 36 = .ok (.getfield 29, 3) := by decide +kernel
theorem dX4_append_39 : decode cX4_append 39 = .ok (.iload_n 3, 1) := by decide +kernel
theorem dX4_append_40 : decode cX4_append 40 = .ok (.iastore, 1) := by decide +kernel
theorem dX4_append_41 : decode cX4_append 41 = .ok (.aload_n 0, 1) := by decide +kernel
theorem dX4_append_42 : decode cX4_append 42 = .ok (.getfield 26, 3) := by decide +kernel
theorem dX4_append_45 : decode cX4_append 45 = .ok (.aload_n 0, 1) := by decide +kernel
theorem dX4_append_46 : decode cX4_append 46 = .ok (.getfield 29, 3) := by decide +kernel
theorem dX4_append_49 : decode cX4_append 49 = .ok (.iload 4, 2) := by decide +kernel
theorem dX4_append_51 : decode cX4_append 51 = .ok (.iastore, 1) := by decide +kernel
theorem dX4_append_52 : decode cX4_append 52 = .ok (.aload_n 0, 1) := by decide +kernel
theorem dX4_append_53 : decode cX4_append 53 = .ok (.dup, 1) := by decide +kernel
theorem dX4_append_54 : decode cX4_append 54 = .ok (.getfield 29, 3) := by decide +kernel
theorem dX4_append_57 : decode cX4_append 57 = .ok (.dup_x1, 1) := by decide +kernel
theorem dX4_append_58 : decode cX4_append 58 = .ok (.iconst 1, 1) := by decide +kernel
theorem dX4_append_59 : decode cX4_append 59 = .ok (.iadd, 1) := by decide +kernel
theorem dX4_append_60 : decode cX4_append 60 = .ok (.putfield 29, 3) := by decide +kernel
theorem dX4_append_63 : decode cX4_append 63 = .ok (.ireturn, 1) := by decide +kernel
theorem dX4_fromOf_0 : decode cX4_fromOf 0 = .ok (.iload_n 1, 1) := by decide +kernel
theorem dX4_fromOf_1 : decode cX4_fromOf 1 = .ok (.ifCond .lt 21, 3) := by decide +kernel
theorem dX4_fromOf_4 : decode cX4_fromOf 4 = .ok (.iload_n 1, 1) := by decide +kernel
theorem dX4_fromOf_5 : decode cX4_fromOf 5 = .ok (.aload_n 0, 1) := by decide +kernel
theorem dX4_fromOf_6 : decode cX4_fromOf 6 = .ok (.getfield 16, 3) := by decide +kernel
theorem dX4_fromOf_9 : decode cX4_fromOf 9 = .ok (.arraylength, 1) := by decide +kernel
theorem dX4_fromOf_10 : decode cX4_fromOf 10 = .ok (.if_icmp .ge 12, 3) := by decide +kernel
theorem dX4_fromOf_13 : decode cX4_fromOf 13 = .ok (.aload_n 0, 1) := by decide +kernel
theorem dX4_fromOf_14 : decode cX4_fromOf 14 = .ok (.getfield 16, 3) := by decide +kernel
theorem dX4_fromOf_17 : decode cX4_fromOf 17 = .ok (.iload_n 1, 1) := by decide +kernel
theorem dX4_fromOf_18 : decode cX4_fromOf 18 = .ok (.iaload, 1) := by decide +kernel
theorem dX4_fromOf_19 : decode cX4_fromOf 19 = .ok (.goto 4, 3) := by decide +kernel
theorem dX4_fromOf_22 : decode cX4_fromOf 22 = .ok (.iconst 0, 1) := by decide +kernel
theorem dX4_fromOf_23 : decode cX4_fromOf 23 = .ok (.ireturn, 1) := by decide +kernel
theorem dX4_toOf_0 : decode cX4_toOf 0 = .ok (.iload_n 1, 1) := by decide +kernel
theorem dX4_toOf_1 : decode cX4_toOf 1 = .ok (.ifCond .lt 21, 3) := by decide +kernel
theorem dX4_toOf_4 : decode cX4_toOf 4 = .ok (.iload_n 1, 1) := by decide +kernel
theorem dX4_toOf_5 : decode cX4_toOf 5 = .ok (.aload_n 0, 1) := by decide +kernel
theorem dX4_toOf_6 : decode cX4_toOf 6 = .ok (.getfield 20, 3) := by decide +kernel
theorem dX4_toOf_9 : decode cX4_toOf 9 = .ok (.arraylength, 1) := by decide +kernel
theorem dX4_toOf_10 : decode cX4_toOf 10 = .ok (.if_icmp .ge 12, 3) := by decide +kernel
theorem dX4_toOf_13 : decode cX4_toOf 13 = .ok (.aload_n 0, 1) := by decide +kernel
theorem dX4_toOf_14 : decode cX4_toOf 14 = .ok (.getfield 20, 3) := by decide +kernel
theorem dX4_toOf_17 : decode cX4_toOf 17 = .ok (.iload_n 1, 1) := by decide +kernel
theorem dX4_toOf_18 : decode cX4_toOf 18 = .ok (.iaload, 1) := by decide +kernel
theorem dX4_toOf_19 : decode cX4_toOf 19 = .ok (.goto 4, 3) := by decide +kernel
theorem dX4_toOf_22 : decode cX4_toOf 22 = .ok (.iconst 0, 1) := by decide +kernel
theorem dX4_toOf_23 : decode cX4_toOf 23 = .ok (.ireturn, 1) := by decide +kernel
theorem dX4_departureOf_0 : decode cX4_departureOf 0 = .ok (.iload_n 1, 1) := by decide +kernel
theorem dX4_departureOf_1 : decode cX4_departureOf 1 = .ok (.ifCond .lt 21, 3) := by decide +kernel
theorem dX4_departureOf_4 : decode cX4_departureOf 4 = .ok (.iload_n 1, 1) := by decide +kernel
theorem dX4_departureOf_5 : decode cX4_departureOf 5 = .ok (.aload_n 0, 1) := by decide +kernel
theorem dX4_departureOf_6 : decode cX4_departureOf 6 = .ok (.getfield 23, 3) := by decide +kernel
theorem dX4_departureOf_9 : decode cX4_departureOf 9 = .ok (.arraylength, 1) := by decide +kernel
theorem dX4_departureOf_10 : decode cX4_departureOf 10 = .ok (.if_icmp .ge 12, 3) := by decide +kernel
theorem dX4_departureOf_13 : decode cX4_departureOf 13 = .ok (.aload_n 0, 1) := by decide +kernel
theorem dX4_departureOf_14 : decode cX4_departureOf 14 = .ok (.getfield 23, 3) := by decide +kernel
theorem dX4_departureOf_17 : decode cX4_departureOf 17 = .ok (.iload_n 1, 1) := by decide +kernel
theorem dX4_departureOf_18 : decode cX4_departureOf 18 = .ok (.iaload, 1) := by decide +kernel
theorem dX4_departureOf_19 : decode cX4_departureOf 19 = .ok (.goto 4, 3) := by decide +kernel
theorem dX4_departureOf_22 : decode cX4_departureOf 22 = .ok (.iconst 0, 1) := by decide +kernel
theorem dX4_departureOf_23 : decode cX4_departureOf 23 = .ok (.ireturn, 1) := by decide +kernel
theorem dX4_arrivalOf_0 : decode cX4_arrivalOf 0 = .ok (.iload_n 1, 1) := by decide +kernel
theorem dX4_arrivalOf_1 : decode cX4_arrivalOf 1 = .ok (.ifCond .lt 21, 3) := by decide +kernel
theorem dX4_arrivalOf_4 : decode cX4_arrivalOf 4 = .ok (.iload_n 1, 1) := by decide +kernel
theorem dX4_arrivalOf_5 : decode cX4_arrivalOf 5 = .ok (.aload_n 0, 1) := by decide +kernel
theorem dX4_arrivalOf_6 : decode cX4_arrivalOf 6 = .ok (.getfield 26, 3) := by decide +kernel
theorem dX4_arrivalOf_9 : decode cX4_arrivalOf 9 = .ok (.arraylength, 1) := by decide +kernel
theorem dX4_arrivalOf_10 : decode cX4_arrivalOf 10 = .ok (.if_icmp .ge 12, 3) := by decide +kernel
theorem dX4_arrivalOf_13 : decode cX4_arrivalOf 13 = .ok (.aload_n 0, 1) := by decide +kernel
theorem dX4_arrivalOf_14 : decode cX4_arrivalOf 14 = .ok (.getfield 26, 3) := by decide +kernel
theorem dX4_arrivalOf_17 : decode cX4_arrivalOf 17 = .ok (.iload_n 1, 1) := by decide +kernel
theorem dX4_arrivalOf_18 : decode cX4_arrivalOf 18 = .ok (.iaload, 1) := by decide +kernel
theorem dX4_arrivalOf_19 : decode cX4_arrivalOf 19 = .ok (.goto 4, 3) := by decide +kernel
theorem dX4_arrivalOf_22 : decode cX4_arrivalOf 22 = .ok (.iconst 0, 1) := by decide +kernel
theorem dX4_arrivalOf_23 : decode cX4_arrivalOf 23 = .ok (.ireturn, 1) := by decide +kernel
theorem dX4_minutesOf_0 : decode cX4_minutesOf 0 = .ok (.iload_n 1, 1) := by decide +kernel
theorem dX4_minutesOf_1 : decode cX4_minutesOf 1 = .ok (.ifCond .lt 37, 3) := by decide +kernel
theorem dX4_minutesOf_4 : decode cX4_minutesOf 4 = .ok (.iload_n 1, 1) := by decide +kernel
theorem dX4_minutesOf_5 : decode cX4_minutesOf 5 = .ok (.aload_n 0, 1) := by decide +kernel
theorem dX4_minutesOf_6 : decode cX4_minutesOf 6 = .ok (.getfield 23, 3) := by decide +kernel
theorem dX4_minutesOf_9 : decode cX4_minutesOf 9 = .ok (.arraylength, 1) := by decide +kernel
theorem dX4_minutesOf_10 : decode cX4_minutesOf 10 = .ok (.if_icmp .ge 28, 3) := by decide +kernel
theorem dX4_minutesOf_13 : decode cX4_minutesOf 13 = .ok (.iload_n 1, 1) := by decide +kernel
theorem dX4_minutesOf_14 : decode cX4_minutesOf 14 = .ok (.aload_n 0, 1) := by decide +kernel
theorem dX4_minutesOf_15 : decode cX4_minutesOf 15 = .ok (.getfield 26, 3) := by decide +kernel
theorem dX4_minutesOf_18 : decode cX4_minutesOf 18 = .ok (.arraylength, 1) := by decide +kernel
theorem dX4_minutesOf_19 : decode cX4_minutesOf 19 = .ok (.if_icmp .ge 19, 3) := by decide +kernel
theorem dX4_minutesOf_22 : decode cX4_minutesOf 22 = .ok (.aload_n 0, 1) := by decide +kernel
theorem dX4_minutesOf_23 : decode cX4_minutesOf 23 = .ok (.getfield 26, 3) := by decide +kernel
theorem dX4_minutesOf_26 : decode cX4_minutesOf 26 = .ok (.iload_n 1, 1) := by decide +kernel
theorem dX4_minutesOf_27 : decode cX4_minutesOf 27 = .ok (.iaload, 1) := by decide +kernel
theorem dX4_minutesOf_28 : decode cX4_minutesOf 28 = .ok (.aload_n 0, 1) := by decide +kernel
theorem dX4_minutesOf_29 : decode cX4_minutesOf 29 = .ok (.getfield 23, 3) := by decide +kernel
theorem dX4_minutesOf_32 : decode cX4_minutesOf 32 = .ok (.iload_n 1, 1) := by decide +kernel
theorem dX4_minutesOf_33 : decode cX4_minutesOf 33 = .ok (.iaload, 1) := by decide +kernel
theorem dX4_minutesOf_34 : decode cX4_minutesOf 34 = .ok (.isub, 1) := by decide +kernel
theorem dX4_minutesOf_35 : decode cX4_minutesOf 35 = .ok (.goto 4, 3) := by decide +kernel
theorem dX4_minutesOf_38 : decode cX4_minutesOf 38 = .ok (.iconst 0, 1) := by decide +kernel
theorem dX4_minutesOf_39 : decode cX4_minutesOf 39 = .ok (.ireturn, 1) := by decide +kernel
theorem dJ9_max_7cf53_0 : decode cJ9_max_7cf53 0 = .ok (.iload_n 0, 1) := by decide +kernel
theorem dJ9_max_7cf53_1 : decode cJ9_max_7cf53 1 = .ok (.iload_n 1, 1) := by decide +kernel
theorem dJ9_max_7cf53_2 : decode cJ9_max_7cf53 2 = .ok (.if_icmp .lt 7, 3) := by decide +kernel
theorem dJ9_max_7cf53_5 : decode cJ9_max_7cf53 5 = .ok (.iload_n 0, 1) := by decide +kernel
theorem dJ9_max_7cf53_6 : decode cJ9_max_7cf53 6 = .ok (.goto 4, 3) := by decide +kernel
theorem dJ9_max_7cf53_9 : decode cJ9_max_7cf53 9 = .ok (.iload_n 1, 1) := by decide +kernel
theorem dJ9_max_7cf53_10 : decode cJ9_max_7cf53 10 = .ok (.ireturn, 1) := by decide +kernel
theorem dL_setWay_0 : decode cL_setWay 0 = .ok (.aload 4, 2) := by decide +kernel
theorem dL_setWay_2 : decode cL_setWay 2 = .ok (.iconst 0, 1) := by decide +kernel
theorem dL_setWay_3 : decode cL_setWay 3 = .ok (.aload_n 0, 1) := by decide +kernel
theorem dL_setWay_4 : decode cL_setWay 4 = .ok (.iload_n 1, 1) := by decide +kernel
theorem dL_setWay_5 : decode cL_setWay 5 = .ok (.iload_n 2, 1) := by decide +kernel
theorem dL_setWay_6 : decode cL_setWay 6 = .ok (.iload_n 3, 1) := by decide +kernel
theorem dL_setWay_7 : decode cL_setWay 7 = .ok (.invokevirtual 7, 3) := by decide +kernel
theorem dL_setWay_10 : decode cL_setWay 10 = .ok (.i2l, 1) := by decide +kernel
theorem dL_setWay_11 : decode cL_setWay 11 = .ok (.lastore, 1) := by decide +kernel
theorem dL_setWay_12 : decode cL_setWay 12 = .ok (.goto 11, 3) := by decide +kernel
theorem dL_setWay_15 : decode cL_setWay 15 = .ok (.astore 5, 2) := by decide +kernel
theorem dL_setWay_17 : decode cL_setWay 17 = .ok (.iconst 1, 1) := by decide +kernel
theorem dL_setWay_18 : decode cL_setWay 18 = .ok (.ireturn, 1) := by decide +kernel
theorem dL_setWay_19 : decode cL_setWay 19 = .ok (.astore 5, 2) := by decide +kernel
theorem dL_setWay_21 : decode cL_setWay 21 = .ok (.iconst 2, 1) := by decide +kernel
theorem dL_setWay_22 : decode cL_setWay 22 = .ok (.ireturn, 1) := by decide +kernel
theorem dL_setWay_23 : decode cL_setWay 23 = .ok (.iconst 0, 1) := by decide +kernel
theorem dL_setWay_24 : decode cL_setWay 24 = .ok (.ireturn, 1) := by decide +kernel
theorem dL_addTrip_0 : decode cL_addTrip 0 = .ok (.aload 5, 2) := by decide +kernel
theorem dL_addTrip_2 : decode cL_addTrip 2 = .ok (.iconst 0, 1) := by decide +kernel
theorem dL_addTrip_3 : decode cL_addTrip 3 = .ok (.aload_n 0, 1) := by decide +kernel
theorem dL_addTrip_4 : decode cL_addTrip 4 = .ok (.iload_n 1, 1) := by decide +kernel
theorem dL_addTrip_5 : decode cL_addTrip 5 = .ok (.iload_n 2, 1) := by decide +kernel
theorem dL_addTrip_6 : decode cL_addTrip 6 = .ok (.iload_n 3, 1) := by decide +kernel
theorem dL_addTrip_7 : decode cL_addTrip 7 = .ok (.iload 4, 2) := by decide +kernel
theorem dL_addTrip_9 : decode cL_addTrip 9 = .ok (.invokevirtual 17, 3) := by decide +kernel
theorem dL_addTrip_12 : decode cL_addTrip 12 = .ok (.i2l, 1) := by decide +kernel
theorem dL_addTrip_13 : decode cL_addTrip 13 = .ok (.lastore, 1) := by decide +kernel
theorem dL_addTrip_14 : decode cL_addTrip 14 = .ok (.goto 15, 3) := by decide +kernel
theorem dL_addTrip_17 : decode cL_addTrip 17 = .ok (.astore 6, 2) := by decide +kernel
theorem dL_addTrip_19 : decode cL_addTrip 19 = .ok (.iconst 1, 1) := by decide +kernel
theorem dL_addTrip_20 : decode cL_addTrip 20 = .ok (.ireturn, 1) := by decide +kernel
theorem dL_addTrip_21 : decode cL_addTrip 21 = .ok (.astore 6, 2) := by decide +kernel
theorem dL_addTrip_23 : decode cL_addTrip 23 = .ok (.iconst 2, 1) := by decide +kernel
theorem dL_addTrip_24 : decode cL_addTrip 24 = .ok (.ireturn, 1) := by decide +kernel
theorem dL_addTrip_25 : decode cL_addTrip 25 = .ok (.astore 6, 2) := by decide +kernel
theorem dL_addTrip_27 : decode cL_addTrip 27 = .ok (.iconst 3, 1) := by decide +kernel
theorem dL_addTrip_28 : decode cL_addTrip 28 = .ok (.ireturn, 1) := by decide +kernel
theorem dL_addTrip_29 : decode cL_addTrip 29 = .ok (.iconst 0, 1) := by decide +kernel
theorem dL_addTrip_30 : decode cL_addTrip 30 = .ok (.ireturn, 1) := by decide +kernel
theorem dL_trip_0 : decode cL_trip 0 = .ok (.aload_n 3, 1) := by decide +kernel
theorem dL_trip_1 : decode cL_trip 1 = .ok (.iconst 0, 1) := by decide +kernel
theorem dL_trip_2 : decode cL_trip 2 = .ok (.aload_n 0, 1) := by decide +kernel
theorem dL_trip_3 : decode cL_trip 3 = .ok (.iload_n 1, 1) := by decide +kernel
theorem dL_trip_4 : decode cL_trip 4 = .ok (.iload_n 2, 1) := by decide +kernel
theorem dL_trip_5 : decode cL_trip 5 = .ok (.invokevirtual 23, 3) := by decide +kernel
theorem dL_trip_8 : decode cL_trip 8 = .ok (.i2l, 1) := by decide +kernel
theorem dL_trip_9 : decode cL_trip 9 = .ok (.lastore, 1) := by decide +kernel
theorem dL_trip_10 : decode cL_trip 10 = .ok (.goto 7, 3) := by decide +kernel
theorem dL_trip_13 : decode cL_trip 13 = .ok (.astore 4, 2) := by decide +kernel
theorem dL_trip_15 : decode cL_trip 15 = .ok (.iconst 1, 1) := by decide +kernel
theorem dL_trip_16 : decode cL_trip 16 = .ok (.ireturn, 1) := by decide +kernel
theorem dL_trip_17 : decode cL_trip 17 = .ok (.iconst 0, 1) := by decide +kernel
theorem dL_trip_18 : decode cL_trip 18 = .ok (.ireturn, 1) := by decide +kernel
theorem dL_setRules_0 : decode cL_setRules 0 = .ok (.aload 5, 2) := by decide +kernel
theorem dL_setRules_2 : decode cL_setRules 2 = .ok (.iconst 0, 1) := by decide +kernel
theorem dL_setRules_3 : decode cL_setRules 3 = .ok (.aload_n 0, 1) := by decide +kernel
theorem dL_setRules_4 : decode cL_setRules 4 = .ok (.iload_n 1, 1) := by decide +kernel
theorem dL_setRules_5 : decode cL_setRules 5 = .ok (.iload_n 2, 1) := by decide +kernel
theorem dL_setRules_6 : decode cL_setRules 6 = .ok (.iload_n 3, 1) := by decide +kernel
theorem dL_setRules_7 : decode cL_setRules 7 = .ok (.iload 4, 2) := by decide +kernel
theorem dL_setRules_9 : decode cL_setRules 9 = .ok (.invokevirtual 27, 3) := by decide +kernel
theorem dL_setRules_12 : decode cL_setRules 12 = .ok (.i2l, 1) := by decide +kernel
theorem dL_setRules_13 : decode cL_setRules 13 = .ok (.lastore, 1) := by decide +kernel
theorem dL_setRules_14 : decode cL_setRules 14 = .ok (.goto 7, 3) := by decide +kernel
theorem dL_setRules_17 : decode cL_setRules 17 = .ok (.astore 6, 2) := by decide +kernel
theorem dL_setRules_19 : decode cL_setRules 19 = .ok (.iconst 1, 1) := by decide +kernel
theorem dL_setRules_20 : decode cL_setRules 20 = .ok (.ireturn, 1) := by decide +kernel
theorem dL_setRules_21 : decode cL_setRules 21 = .ok (.iconst 0, 1) := by decide +kernel
theorem dL_setRules_22 : decode cL_setRules 22 = .ok (.ireturn, 1) := by decide +kernel
theorem dL_count_0 : decode cL_count 0 = .ok (.aload_n 2, 1) := by decide +kernel
theorem dL_count_1 : decode cL_count 1 = .ok (.iconst 0, 1) := by decide +kernel
theorem dL_count_2 : decode cL_count 2 = .ok (.aload_n 0, 1) := by decide +kernel
theorem dL_count_3 : decode cL_count 3 = .ok (.iload_n 1, 1) := by decide +kernel
theorem dL_count_4 : decode cL_count 4 = .ok (.invokevirtual 30, 3) := by decide +kernel
theorem dL_count_7 : decode cL_count 7 = .ok (.i2l, 1) := by decide +kernel
theorem dL_count_8 : decode cL_count 8 = .ok (.lastore, 1) := by decide +kernel
theorem dL_count_9 : decode cL_count 9 = .ok (.goto 6, 3) := by decide +kernel
theorem dL_count_12 : decode cL_count 12 = .ok (.astore_n 3, 1) := by decide +kernel
theorem dL_count_13 : decode cL_count 13 = .ok (.iconst 1, 1) := by decide +kernel
theorem dL_count_14 : decode cL_count 14 = .ok (.ireturn, 1) := by decide +kernel
theorem dL_count_15 : decode cL_count 15 = .ok (.iconst 0, 1) := by decide +kernel
theorem dL_count_16 : decode cL_count 16 = .ok (.ireturn, 1) := by decide +kernel
theorem dL_addDuty_0 : decode cL_addDuty 0 = .ok (.aload_n 1, 1) := by decide +kernel
theorem dL_addDuty_1 : decode cL_addDuty 1 = .ok (.iconst 0, 1) := by decide +kernel
theorem dL_addDuty_2 : decode cL_addDuty 2 = .ok (.aload_n 0, 1) := by decide +kernel
theorem dL_addDuty_3 : decode cL_addDuty 3 = .ok (.invokevirtual 34, 3) := by decide +kernel
theorem dL_addDuty_6 : decode cL_addDuty 6 = .ok (.i2l, 1) := by decide +kernel
theorem dL_addDuty_7 : decode cL_addDuty 7 = .ok (.lastore, 1) := by decide +kernel
theorem dL_addDuty_8 : decode cL_addDuty 8 = .ok (.goto 6, 3) := by decide +kernel
theorem dL_addDuty_11 : decode cL_addDuty 11 = .ok (.astore_n 2, 1) := by decide +kernel
theorem dL_addDuty_12 : decode cL_addDuty 12 = .ok (.iconst 1, 1) := by decide +kernel
theorem dL_addDuty_13 : decode cL_addDuty 13 = .ok (.ireturn, 1) := by decide +kernel
theorem dL_addDuty_14 : decode cL_addDuty 14 = .ok (.iconst 0, 1) := by decide +kernel
theorem dL_addDuty_15 : decode cL_addDuty 15 = .ok (.ireturn, 1) := by decide +kernel
theorem dL_put_0 : decode cL_put 0 = .ok (.aload_n 3, 1) := by decide +kernel
theorem dL_put_1 : decode cL_put 1 = .ok (.iconst 0, 1) := by decide +kernel
theorem dL_put_2 : decode cL_put 2 = .ok (.aload_n 0, 1) := by decide +kernel
theorem dL_put_3 : decode cL_put 3 = .ok (.iload_n 1, 1) := by decide +kernel
theorem dL_put_4 : decode cL_put 4 = .ok (.iload_n 2, 1) := by decide +kernel
theorem dL_put_5 : decode cL_put 5 = .ok (.invokevirtual 38, 3) := by decide +kernel
theorem dL_put_8 : decode cL_put 8 = .ok (.i2l, 1) := by decide +kernel
theorem dL_put_9 : decode cL_put 9 = .ok (.lastore, 1) := by decide +kernel
theorem dL_put_10 : decode cL_put 10 = .ok (.goto 11, 3) := by decide +kernel
theorem dL_put_13 : decode cL_put 13 = .ok (.astore 4, 2) := by decide +kernel
theorem dL_put_15 : decode cL_put 15 = .ok (.iconst 1, 1) := by decide +kernel
theorem dL_put_16 : decode cL_put 16 = .ok (.ireturn, 1) := by decide +kernel
theorem dL_put_17 : decode cL_put 17 = .ok (.astore 4, 2) := by decide +kernel
theorem dL_put_19 : decode cL_put 19 = .ok (.iconst 2, 1) := by decide +kernel
theorem dL_put_20 : decode cL_put 20 = .ok (.ireturn, 1) := by decide +kernel
theorem dL_put_21 : decode cL_put 21 = .ok (.iconst 0, 1) := by decide +kernel
theorem dL_put_22 : decode cL_put 22 = .ok (.ireturn, 1) := by decide +kernel
theorem dL_takeOut_0 : decode cL_takeOut 0 = .ok (.aload_n 2, 1) := by decide +kernel
theorem dL_takeOut_1 : decode cL_takeOut 1 = .ok (.iconst 0, 1) := by decide +kernel
theorem dL_takeOut_2 : decode cL_takeOut 2 = .ok (.aload_n 0, 1) := by decide +kernel
theorem dL_takeOut_3 : decode cL_takeOut 3 = .ok (.iload_n 1, 1) := by decide +kernel
theorem dL_takeOut_4 : decode cL_takeOut 4 = .ok (.invokevirtual 41, 3) := by decide +kernel
theorem dL_takeOut_7 : decode cL_takeOut 7 = .ok (.i2l, 1) := by decide +kernel
theorem dL_takeOut_8 : decode cL_takeOut 8 = .ok (.lastore, 1) := by decide +kernel
theorem dL_takeOut_9 : decode cL_takeOut 9 = .ok (.goto 9, 3) := by decide +kernel
theorem dL_takeOut_12 : decode cL_takeOut 12 = .ok (.astore_n 3, 1) := by decide +kernel
theorem dL_takeOut_13 : decode cL_takeOut 13 = .ok (.iconst 1, 1) := by decide +kernel
theorem dL_takeOut_14 : decode cL_takeOut 14 = .ok (.ireturn, 1) := by decide +kernel
theorem dL_takeOut_15 : decode cL_takeOut 15 = .ok (.astore_n 3, 1) := by decide +kernel
theorem dL_takeOut_16 : decode cL_takeOut 16 = .ok (.iconst 2, 1) := by decide +kernel
theorem dL_takeOut_17 : decode cL_takeOut 17 = .ok (.ireturn, 1) := by decide +kernel
theorem dL_takeOut_18 : decode cL_takeOut 18 = .ok (.iconst 0, 1) := by decide +kernel
theorem dL_takeOut_19 : decode cL_takeOut 19 = .ok (.ireturn, 1) := by decide +kernel
theorem dL_duty_0 : decode cL_duty 0 = .ok (.aload_n 3, 1) := by decide +kernel
theorem dL_duty_1 : decode cL_duty 1 = .ok (.iconst 0, 1) := by decide +kernel
theorem dL_duty_2 : decode cL_duty 2 = .ok (.aload_n 0, 1) := by decide +kernel
theorem dL_duty_3 : decode cL_duty 3 = .ok (.iload_n 1, 1) := by decide +kernel
theorem dL_duty_4 : decode cL_duty 4 = .ok (.iload_n 2, 1) := by decide +kernel
theorem dL_duty_5 : decode cL_duty 5 = .ok (.invokevirtual 44, 3) := by decide +kernel
theorem dL_duty_8 : decode cL_duty 8 = .ok (.i2l, 1) := by decide +kernel
theorem dL_duty_9 : decode cL_duty 9 = .ok (.lastore, 1) := by decide +kernel
theorem dL_duty_10 : decode cL_duty 10 = .ok (.goto 7, 3) := by decide +kernel
theorem dL_duty_13 : decode cL_duty 13 = .ok (.astore 4, 2) := by decide +kernel
theorem dL_duty_15 : decode cL_duty 15 = .ok (.iconst 1, 1) := by decide +kernel
theorem dL_duty_16 : decode cL_duty 16 = .ok (.ireturn, 1) := by decide +kernel
theorem dL_duty_17 : decode cL_duty 17 = .ok (.iconst 0, 1) := by decide +kernel
theorem dL_duty_18 : decode cL_duty 18 = .ok (.ireturn, 1) := by decide +kernel
theorem dL_tripAt_0 : decode cL_tripAt 0 = .ok (.aload_n 3, 1) := by decide +kernel
theorem dL_tripAt_1 : decode cL_tripAt 1 = .ok (.iconst 0, 1) := by decide +kernel
theorem dL_tripAt_2 : decode cL_tripAt 2 = .ok (.aload_n 0, 1) := by decide +kernel
theorem dL_tripAt_3 : decode cL_tripAt 3 = .ok (.iload_n 1, 1) := by decide +kernel
theorem dL_tripAt_4 : decode cL_tripAt 4 = .ok (.iload_n 2, 1) := by decide +kernel
theorem dL_tripAt_5 : decode cL_tripAt 5 = .ok (.invokevirtual 47, 3) := by decide +kernel
theorem dL_tripAt_8 : decode cL_tripAt 8 = .ok (.i2l, 1) := by decide +kernel
theorem dL_tripAt_9 : decode cL_tripAt 9 = .ok (.lastore, 1) := by decide +kernel
theorem dL_tripAt_10 : decode cL_tripAt 10 = .ok (.goto 7, 3) := by decide +kernel
theorem dL_tripAt_13 : decode cL_tripAt 13 = .ok (.astore 4, 2) := by decide +kernel
theorem dL_tripAt_15 : decode cL_tripAt 15 = .ok (.iconst 1, 1) := by decide +kernel
theorem dL_tripAt_16 : decode cL_tripAt 16 = .ok (.ireturn, 1) := by decide +kernel
theorem dL_tripAt_17 : decode cL_tripAt 17 = .ok (.iconst 0, 1) := by decide +kernel
theorem dL_tripAt_18 : decode cL_tripAt 18 = .ok (.ireturn, 1) := by decide +kernel
theorem dL_bestFor_0 : decode cL_bestFor 0 = .ok (.aload_n 2, 1) := by decide +kernel
theorem dL_bestFor_1 : decode cL_bestFor 1 = .ok (.iconst 0, 1) := by decide +kernel
theorem dL_bestFor_2 : decode cL_bestFor 2 = .ok (.aload_n 0, 1) := by decide +kernel
theorem dL_bestFor_3 : decode cL_bestFor 3 = .ok (.iload_n 1, 1) := by decide +kernel
theorem dL_bestFor_4 : decode cL_bestFor 4 = .ok (.invokevirtual 50, 3) := by decide +kernel
theorem dL_bestFor_7 : decode cL_bestFor 7 = .ok (.i2l, 1) := by decide +kernel
theorem dL_bestFor_8 : decode cL_bestFor 8 = .ok (.lastore, 1) := by decide +kernel
theorem dL_bestFor_9 : decode cL_bestFor 9 = .ok (.goto 6, 3) := by decide +kernel
theorem dL_bestFor_12 : decode cL_bestFor 12 = .ok (.astore_n 3, 1) := by decide +kernel
theorem dL_bestFor_13 : decode cL_bestFor 13 = .ok (.iconst 1, 1) := by decide +kernel
theorem dL_bestFor_14 : decode cL_bestFor 14 = .ok (.ireturn, 1) := by decide +kernel
theorem dL_bestFor_15 : decode cL_bestFor 15 = .ok (.iconst 0, 1) := by decide +kernel
theorem dL_bestFor_16 : decode cL_bestFor 16 = .ok (.ireturn, 1) := by decide +kernel
theorem dL_swap_0 : decode cL_swap 0 = .ok (.aload 4, 2) := by decide +kernel
theorem dL_swap_2 : decode cL_swap 2 = .ok (.iconst 0, 1) := by decide +kernel
theorem dL_swap_3 : decode cL_swap 3 = .ok (.aload_n 0, 1) := by decide +kernel
theorem dL_swap_4 : decode cL_swap 4 = .ok (.iload_n 1, 1) := by decide +kernel
theorem dL_swap_5 : decode cL_swap 5 = .ok (.iload_n 2, 1) := by decide +kernel
theorem dL_swap_6 : decode cL_swap 6 = .ok (.iload_n 3, 1) := by decide +kernel
theorem dL_swap_7 : decode cL_swap 7 = .ok (.invokevirtual 53, 3) := by decide +kernel
theorem dL_swap_10 : decode cL_swap 10 = .ok (.i2l, 1) := by decide +kernel
theorem dL_swap_11 : decode cL_swap 11 = .ok (.lastore, 1) := by decide +kernel
theorem dL_swap_12 : decode cL_swap 12 = .ok (.goto 15, 3) := by decide +kernel
theorem dL_swap_15 : decode cL_swap 15 = .ok (.astore 5, 2) := by decide +kernel
theorem dL_swap_17 : decode cL_swap 17 = .ok (.iconst 1, 1) := by decide +kernel
theorem dL_swap_18 : decode cL_swap 18 = .ok (.ireturn, 1) := by decide +kernel
theorem dL_swap_19 : decode cL_swap 19 = .ok (.astore 5, 2) := by decide +kernel
theorem dL_swap_21 : decode cL_swap 21 = .ok (.iconst 2, 1) := by decide +kernel
theorem dL_swap_22 : decode cL_swap 22 = .ok (.ireturn, 1) := by decide +kernel
theorem dL_swap_23 : decode cL_swap 23 = .ok (.astore 5, 2) := by decide +kernel
theorem dL_swap_25 : decode cL_swap 25 = .ok (.iconst 3, 1) := by decide +kernel
theorem dL_swap_26 : decode cL_swap 26 = .ok (.ireturn, 1) := by decide +kernel
theorem dL_swap_27 : decode cL_swap 27 = .ok (.iconst 0, 1) := by decide +kernel
theorem dL_swap_28 : decode cL_swap 28 = .ok (.ireturn, 1) := by decide +kernel
theorem dL_addDriver_0 : decode cL_addDriver 0 = .ok (.aload_n 1, 1) := by decide +kernel
theorem dL_addDriver_1 : decode cL_addDriver 1 = .ok (.iconst 0, 1) := by decide +kernel
theorem dL_addDriver_2 : decode cL_addDriver 2 = .ok (.aload_n 0, 1) := by decide +kernel
theorem dL_addDriver_3 : decode cL_addDriver 3 = .ok (.invokevirtual 56, 3) := by decide +kernel
theorem dL_addDriver_6 : decode cL_addDriver 6 = .ok (.i2l, 1) := by decide +kernel
theorem dL_addDriver_7 : decode cL_addDriver 7 = .ok (.lastore, 1) := by decide +kernel
theorem dL_addDriver_8 : decode cL_addDriver 8 = .ok (.goto 6, 3) := by decide +kernel
theorem dL_addDriver_11 : decode cL_addDriver 11 = .ok (.astore_n 2, 1) := by decide +kernel
theorem dL_addDriver_12 : decode cL_addDriver 12 = .ok (.iconst 1, 1) := by decide +kernel
theorem dL_addDriver_13 : decode cL_addDriver 13 = .ok (.ireturn, 1) := by decide +kernel
theorem dL_addDriver_14 : decode cL_addDriver 14 = .ok (.iconst 0, 1) := by decide +kernel
theorem dL_addDriver_15 : decode cL_addDriver 15 = .ok (.ireturn, 1) := by decide +kernel
theorem dL_reason_0 : decode cL_reason 0 = .ok (.aload 4, 2) := by decide +kernel
theorem dL_reason_2 : decode cL_reason 2 = .ok (.iconst 0, 1) := by decide +kernel
theorem dL_reason_3 : decode cL_reason 3 = .ok (.aload_n 0, 1) := by decide +kernel
theorem dL_reason_4 : decode cL_reason 4 = .ok (.iload_n 1, 1) := by decide +kernel
theorem dL_reason_5 : decode cL_reason 5 = .ok (.iload_n 2, 1) := by decide +kernel
theorem dL_reason_6 : decode cL_reason 6 = .ok (.iload_n 3, 1) := by decide +kernel
theorem dL_reason_7 : decode cL_reason 7 = .ok (.invokevirtual 59, 3) := by decide +kernel
theorem dL_reason_10 : decode cL_reason 10 = .ok (.i2l, 1) := by decide +kernel
theorem dL_reason_11 : decode cL_reason 11 = .ok (.lastore, 1) := by decide +kernel
theorem dL_reason_12 : decode cL_reason 12 = .ok (.goto 7, 3) := by decide +kernel
theorem dL_reason_15 : decode cL_reason 15 = .ok (.astore 5, 2) := by decide +kernel
theorem dL_reason_17 : decode cL_reason 17 = .ok (.iconst 1, 1) := by decide +kernel
theorem dL_reason_18 : decode cL_reason 18 = .ok (.ireturn, 1) := by decide +kernel
theorem dL_reason_19 : decode cL_reason 19 = .ok (.iconst 0, 1) := by decide +kernel
theorem dL_reason_20 : decode cL_reason 20 = .ok (.ireturn, 1) := by decide +kernel
theorem dL_give_0 : decode cL_give 0 = .ok (.aload 4, 2) := by decide +kernel
theorem dL_give_2 : decode cL_give 2 = .ok (.iconst 0, 1) := by decide +kernel
theorem dL_give_3 : decode cL_give 3 = .ok (.aload_n 0, 1) := by decide +kernel
theorem dL_give_4 : decode cL_give 4 = .ok (.iload_n 1, 1) := by decide +kernel
theorem dL_give_5 : decode cL_give 5 = .ok (.iload_n 2, 1) := by decide +kernel
theorem dL_give_6 : decode cL_give 6 = .ok (.iload_n 3, 1) := by decide +kernel
theorem dL_give_7 : decode cL_give 7 = .ok (.invokevirtual 62, 3) := by decide +kernel
theorem dL_give_10 : decode cL_give 10 = .ok (.i2l, 1) := by decide +kernel
theorem dL_give_11 : decode cL_give 11 = .ok (.lastore, 1) := by decide +kernel
theorem dL_give_12 : decode cL_give 12 = .ok (.goto 11, 3) := by decide +kernel
theorem dL_give_15 : decode cL_give 15 = .ok (.astore 5, 2) := by decide +kernel
theorem dL_give_17 : decode cL_give 17 = .ok (.iconst 1, 1) := by decide +kernel
theorem dL_give_18 : decode cL_give 18 = .ok (.ireturn, 1) := by decide +kernel
theorem dL_give_19 : decode cL_give 19 = .ok (.astore 5, 2) := by decide +kernel
theorem dL_give_21 : decode cL_give 21 = .ok (.iconst 2, 1) := by decide +kernel
theorem dL_give_22 : decode cL_give 22 = .ok (.ireturn, 1) := by decide +kernel
theorem dL_give_23 : decode cL_give 23 = .ok (.iconst 0, 1) := by decide +kernel
theorem dL_give_24 : decode cL_give 24 = .ok (.ireturn, 1) := by decide +kernel
theorem dL_takeBack_0 : decode cL_takeBack 0 = .ok (.aload_n 3, 1) := by decide +kernel
theorem dL_takeBack_1 : decode cL_takeBack 1 = .ok (.iconst 0, 1) := by decide +kernel
theorem dL_takeBack_2 : decode cL_takeBack 2 = .ok (.aload_n 0, 1) := by decide +kernel
theorem dL_takeBack_3 : decode cL_takeBack 3 = .ok (.iload_n 1, 1) := by decide +kernel
theorem dL_takeBack_4 : decode cL_takeBack 4 = .ok (.iload_n 2, 1) := by decide +kernel
theorem dL_takeBack_5 : decode cL_takeBack 5 = .ok (.invokevirtual 65, 3) := by decide +kernel
theorem dL_takeBack_8 : decode cL_takeBack 8 = .ok (.i2l, 1) := by decide +kernel
theorem dL_takeBack_9 : decode cL_takeBack 9 = .ok (.lastore, 1) := by decide +kernel
theorem dL_takeBack_10 : decode cL_takeBack 10 = .ok (.goto 11, 3) := by decide +kernel
theorem dL_takeBack_13 : decode cL_takeBack 13 = .ok (.astore 4, 2) := by decide +kernel
theorem dL_takeBack_15 : decode cL_takeBack 15 = .ok (.iconst 1, 1) := by decide +kernel
theorem dL_takeBack_16 : decode cL_takeBack 16 = .ok (.ireturn, 1) := by decide +kernel
theorem dL_takeBack_17 : decode cL_takeBack 17 = .ok (.astore 4, 2) := by decide +kernel
theorem dL_takeBack_19 : decode cL_takeBack 19 = .ok (.iconst 2, 1) := by decide +kernel
theorem dL_takeBack_20 : decode cL_takeBack 20 = .ok (.ireturn, 1) := by decide +kernel
theorem dL_takeBack_21 : decode cL_takeBack 21 = .ok (.iconst 0, 1) := by decide +kernel
theorem dL_takeBack_22 : decode cL_takeBack 22 = .ok (.ireturn, 1) := by decide +kernel
theorem dL_given_0 : decode cL_given 0 = .ok (.aload_n 3, 1) := by decide +kernel
theorem dL_given_1 : decode cL_given 1 = .ok (.iconst 0, 1) := by decide +kernel
theorem dL_given_2 : decode cL_given 2 = .ok (.aload_n 0, 1) := by decide +kernel
theorem dL_given_3 : decode cL_given 3 = .ok (.iload_n 1, 1) := by decide +kernel
theorem dL_given_4 : decode cL_given 4 = .ok (.iload_n 2, 1) := by decide +kernel
theorem dL_given_5 : decode cL_given 5 = .ok (.invokevirtual 68, 3) := by decide +kernel
theorem dL_given_8 : decode cL_given 8 = .ok (.i2l, 1) := by decide +kernel
theorem dL_given_9 : decode cL_given 9 = .ok (.lastore, 1) := by decide +kernel
theorem dL_given_10 : decode cL_given 10 = .ok (.goto 7, 3) := by decide +kernel
theorem dL_given_13 : decode cL_given 13 = .ok (.astore 4, 2) := by decide +kernel
theorem dL_given_15 : decode cL_given 15 = .ok (.iconst 1, 1) := by decide +kernel
theorem dL_given_16 : decode cL_given 16 = .ok (.ireturn, 1) := by decide +kernel
theorem dL_given_17 : decode cL_given 17 = .ok (.iconst 0, 1) := by decide +kernel
theorem dL_given_18 : decode cL_given 18 = .ok (.ireturn, 1) := by decide +kernel
theorem dL_fill_0 : decode cL_fill 0 = .ok (.aload_n 2, 1) := by decide +kernel
theorem dL_fill_1 : decode cL_fill 1 = .ok (.iconst 0, 1) := by decide +kernel
theorem dL_fill_2 : decode cL_fill 2 = .ok (.aload_n 0, 1) := by decide +kernel
theorem dL_fill_3 : decode cL_fill 3 = .ok (.iload_n 1, 1) := by decide +kernel
theorem dL_fill_4 : decode cL_fill 4 = .ok (.invokevirtual 71, 3) := by decide +kernel
theorem dL_fill_7 : decode cL_fill 7 = .ok (.i2l, 1) := by decide +kernel
theorem dL_fill_8 : decode cL_fill 8 = .ok (.lastore, 1) := by decide +kernel
theorem dL_fill_9 : decode cL_fill 9 = .ok (.goto 6, 3) := by decide +kernel
theorem dL_fill_12 : decode cL_fill 12 = .ok (.astore_n 3, 1) := by decide +kernel
theorem dL_fill_13 : decode cL_fill 13 = .ok (.iconst 1, 1) := by decide +kernel
theorem dL_fill_14 : decode cL_fill 14 = .ok (.ireturn, 1) := by decide +kernel
theorem dL_fill_15 : decode cL_fill 15 = .ok (.iconst 0, 1) := by decide +kernel
theorem dL_fill_16 : decode cL_fill 16 = .ok (.ireturn, 1) := by decide +kernel
theorem dL_week_0 : decode cL_week 0 = .ok (.aload_n 2, 1) := by decide +kernel
theorem dL_week_1 : decode cL_week 1 = .ok (.iconst 0, 1) := by decide +kernel
theorem dL_week_2 : decode cL_week 2 = .ok (.aload_n 0, 1) := by decide +kernel
theorem dL_week_3 : decode cL_week 3 = .ok (.iload_n 1, 1) := by decide +kernel
theorem dL_week_4 : decode cL_week 4 = .ok (.invokevirtual 74, 3) := by decide +kernel
theorem dL_week_7 : decode cL_week 7 = .ok (.i2l, 1) := by decide +kernel
theorem dL_week_8 : decode cL_week 8 = .ok (.lastore, 1) := by decide +kernel
theorem dL_week_9 : decode cL_week 9 = .ok (.goto 6, 3) := by decide +kernel
theorem dL_week_12 : decode cL_week 12 = .ok (.astore_n 3, 1) := by decide +kernel
theorem dL_week_13 : decode cL_week 13 = .ok (.iconst 1, 1) := by decide +kernel
theorem dL_week_14 : decode cL_week 14 = .ok (.ireturn, 1) := by decide +kernel
theorem dL_week_15 : decode cL_week 15 = .ok (.iconst 0, 1) := by decide +kernel
theorem dL_week_16 : decode cL_week 16 = .ok (.ireturn, 1) := by decide +kernel
theorem dL_rest_0 : decode cL_rest 0 = .ok (.aload_n 3, 1) := by decide +kernel
theorem dL_rest_1 : decode cL_rest 1 = .ok (.iconst 0, 1) := by decide +kernel
theorem dL_rest_2 : decode cL_rest 2 = .ok (.aload_n 0, 1) := by decide +kernel
theorem dL_rest_3 : decode cL_rest 3 = .ok (.iload_n 1, 1) := by decide +kernel
theorem dL_rest_4 : decode cL_rest 4 = .ok (.iload_n 2, 1) := by decide +kernel
theorem dL_rest_5 : decode cL_rest 5 = .ok (.invokevirtual 77, 3) := by decide +kernel
theorem dL_rest_8 : decode cL_rest 8 = .ok (.i2l, 1) := by decide +kernel
theorem dL_rest_9 : decode cL_rest 9 = .ok (.lastore, 1) := by decide +kernel
theorem dL_rest_10 : decode cL_rest 10 = .ok (.goto 7, 3) := by decide +kernel
theorem dL_rest_13 : decode cL_rest 13 = .ok (.astore 4, 2) := by decide +kernel
theorem dL_rest_15 : decode cL_rest 15 = .ok (.iconst 1, 1) := by decide +kernel
theorem dL_rest_16 : decode cL_rest 16 = .ok (.ireturn, 1) := by decide +kernel
theorem dL_rest_17 : decode cL_rest 17 = .ok (.iconst 0, 1) := by decide +kernel
theorem dL_rest_18 : decode cL_rest 18 = .ok (.ireturn, 1) := by decide +kernel
