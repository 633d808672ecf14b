theorem dX0_init_0 : decode cX0_init 0 = .ok (.aload_n 0, 1) := by decide +kernel
theorem dX0_init_1 : decode cX0_init 1 = .ok (.invokespecial 3, 3) := by decide +kernel
theorem dX0_init_4 : decode cX0_init 4 = .ok (.aload_n 0, 1) := by decide +kernel
theorem dX0_init_5 : decode cX0_init 5 = .ok (.bipush 40, 2) := by decide +kernel
theorem dX0_init_7 : decode cX0_init 7 = .ok (.newarray .int, 2) := by decide +kernel
theorem dX0_init_9 : decode cX0_init 9 = .ok (.putfield 9, 3) := by decide +kernel
theorem dX0_init_12 : decode cX0_init 12 = .ok (.aload_n 0, 1) := by decide +kernel
theorem dX0_init_13 : decode cX0_init 13 = .ok (.iconst 1, 1) := by decide +kernel
theorem dX0_init_14 : decode cX0_init 14 = .ok (.putfield 15, 3) := by decide +kernel
theorem dX0_init_17 : decode cX0_init 17 = .ok (.return_, 1) := by decide +kernel
theorem dX0_tripIn_0 : decode cX0_tripIn 0 = .ok (.iload_n 1, 1) := by decide +kernel
theorem dX0_tripIn_1 : decode cX0_tripIn 1 = .ok (.ifCond .lt 21, 3) := by decide +kernel
theorem dX0_tripIn_4 : decode cX0_tripIn 4 = .ok (.iload_n 1, 1) := by decide +kernel
theorem dX0_tripIn_5 : decode cX0_tripIn 5 = .ok (.aload_n 0, 1) := by decide +kernel
theorem dX0_tripIn_6 : decode cX0_tripIn 6 = .ok (.getfield 9, 3) := by decide +kernel
theorem dX0_tripIn_9 : decode cX0_tripIn 9 = .ok (.arraylength, 1) := by decide +kernel
theorem dX0_tripIn_10 : decode cX0_tripIn 10 = .ok (.if_icmp .ge 12, 3) := by decide +kernel
theorem dX0_tripIn_13 : decode cX0_tripIn 13 = .ok (.aload_n 0, 1) := by decide +kernel
theorem dX0_tripIn_14 : decode cX0_tripIn 14 = .ok (.getfield 9, 3) := by decide +kernel
theorem dX0_tripIn_17 : decode cX0_tripIn 17 = .ok (.iload_n 1, 1) := by decide +kernel
theorem dX0_tripIn_18 : decode cX0_tripIn 18 = .ok (.iaload, 1) := by decide +kernel
theorem dX0_tripIn_19 : decode cX0_tripIn 19 = .ok (.goto 4, 3) := by decide +kernel
theorem dX0_tripIn_22 : decode cX0_tripIn 22 = .ok (.iconst (-1), 1) := by decide +kernel
theorem dX0_tripIn_23 : decode cX0_tripIn 23 = .ok (.ireturn, 1) := by decide +kernel
theorem dX0_append_0 : decode cX0_append 0 = .ok (.aload_n 0, 1) := by decide +kernel
theorem dX0_append_1 : decode cX0_append 1 = .ok (.getfield 19, 3) := by decide +kernel
theorem dX0_append_4 : decode cX0_append 4 = .ok (.ifCond .lt 35, 3) := by decide +kernel
theorem dX0_append_7 : decode cX0_append 7 = .ok (.aload_n 0, 1) := by decide +kernel
theorem dX0_append_8 : decode cX0_append 8 = .ok (.getfield 19, 3) := by decide +kernel
theorem dX0_append_11 : decode cX0_append 11 = .ok (.aload_n 0, 1) := by decide +kernel
theorem dX0_append_12 : decode cX0_append 12 = .ok (.getfield 9, 3) := by decide +kernel
theorem dX0_append_15 : decode cX0_append 15 = .ok (.arraylength, 1) := by decide +kernel
theorem dX0_append_16 : decode cX0_append 16 = .ok (.if_icmp .ge 23, 3) := by decide +kernel
theorem dX0_append_19 : decode cX0_append 19 = .ok (.aload_n 0, 1) := by decide +kernel
theorem dX0_append_20 : decode cX0_append 20 = .ok (.getfield 9, 3) := by decide +kernel
theorem dX0_append_23 : decode cX0_append 23 = .ok (.aload_n 0, 1) := by decide +kernel
theorem dX0_append_24 : decode cX0_append 24 = .ok (.getfield 19, 3) := by decide +kernel
theorem dX0_append_27 : decode cX0_append 27 = .ok (.iload_n 1, 1) := by decide +kernel
theorem dX0_append_28 : decode cX0_append 28 = .ok (.iastore, 1) := by decide +kernel
theorem dX0_append_29 : decode cX0_append 29 = .ok (.aload_n 0, 1) := by decide +kernel
theorem dX0_append_30 : decode cX0_append 30 = .ok (.dup, 1) := by decide +kernel
theorem dX0_append_31 : decode cX0_append 31 = .ok (.getfield 19, 3) := by decide +kernel
theorem dX0_append_34 : decode cX0_append 34 = .ok (.iconst 1, 1) := by decide +kernel
theorem dX0_append_35 : decode cX0_append 35 = .ok (.iadd, 1) := by decide +kernel
theorem dX0_append_36 : decode cX0_append 36 = .ok (.putfield 19, 3) := by decide +kernel
theorem dX0_append_39 : decode cX0_append 39 = .ok (.return_, 1) := by decide +kernel
theorem dX0_insert_0 : decode cX0_insert 0 = .ok (.aload_n 2, 1) := by decide +kernel
theorem dX0_insert_1 : decode cX0_insert 1 = .ok (.iload_n 1, 1) := by decide +kernel
theorem dX0_insert_2 : decode cX0_insert 2 = .ok (.invokevirtual 27, 3) := by decide +kernel
theorem dX0_insert_5 : decode cX0_insert 5 = .ok (.istore_n 3, 1) := by decide +kernel
theorem dX0_insert_6 : decode cX0_insert 6 = .ok (.aload_n 0, 1) := by decide +kernel
theorem dX0_insert_7 : decode cX0_insert 7 = .ok (.getfield 19, 3) := by decide +kernel
theorem dX0_insert_10 : decode cX0_insert 10 = .ok (.istore 4, 2) := by decide +kernel
theorem dX0_insert_12 : decode cX0_insert 12 = .ok (.iload 4, 2) := by decide +kernel
theorem dX0_insert_14 : decode cX0_insert 14 = .ok (.ifCond .le 25, 3) := by decide +kernel
theorem dX0_insert_17 : decode cX0_insert 17 = .ok (.aload_n 2, 1) := by decide +kernel
theorem dX0_insert_18 : decode cX0_insert 18 = .ok (.aload_n 0, 1) := by decide +kernel
theorem dX0_insert_19 : decode cX0_insert 19 = .ok (.iload 4, 2) := by decide +kernel
theorem dX0_insert_21 : decode cX0_insert 21 = .ok (.iconst 1, 1) := by decide +kernel
theorem dX0_insert_22 : decode cX0_insert 22 = .ok (.isub, 1) := by decide +kernel
theorem dX0_insert_23 : decode cX0_insert 23 = .ok (.invokevirtual 23, 3) := by decide +kernel
theorem dX0_insert_26 : decode cX0_insert 26 = .ok (.invokevirtual 27, 3) := by decide +kernel
theorem dX0_insert_29 : decode cX0_insert 29 = .ok (.iload_n 3, 1) := by decide +kernel
theorem dX0_insert_30 : decode cX0_insert 30 = .ok (.if_icmp .lt 9, 3) := by decide +kernel
theorem dX0_insert_33 : decode cX0_insert 33 = .ok (.iinc 4 (-1), 3) := by decide +kernel
theorem dX0_insert_36 : decode cX0_insert 36 = .ok (.goto (-24), 3) := by decide +kernel
theorem dX0_insert_39 : decode cX0_insert 39 = .ok (.iload 4, 2) := by decide +kernel
theorem dX0_insert_41 : decode cX0_insert 41 = .ok (.aload_n 0, 1) := by decide +kernel
theorem dX0_insert_42 : decode cX0_insert 42 = .ok (.getfield 19, 3) := by decide +kernel
theorem dX0_insert_45 : decode cX0_insert 45 = .ok (.if_icmp .ge 21, 3) := by decide +kernel
theorem dX0_insert_48 : decode cX0_insert 48 = .ok (.aload_n 2, 1) := by decide +kernel
theorem dX0_insert_49 : decode cX0_insert 49 = .ok (.aload_n 0, 1) := by decide +kernel
theorem dX0_insert_50 : decode cX0_insert 50 = .ok (.iload 4, 2) := by decide +kernel
theorem dX0_insert_52 : decode cX0_insert 52 = .ok (.invokevirtual 23, 3) := by decide +kernel
theorem dX0_insert_55 : decode cX0_insert 55 = .ok (.invokevirtual 27, 3) := by decide +kernel
theorem dX0_insert_58 : decode cX0_insert 58 = .ok (.iload_n 3, 1) := by decide +kernel
theorem dX0_insert_59 : decode cX0_insert 59 = .ok (.if_icmp .ne 7, 3) := by decide +kernel
theorem dX0_insert_62 : decode cX0_insert 62 = .ok (.iconst 1, 1) := by decide +kernel
theorem dX0_insert_63 : decode cX0_insert 63 = .ok (.goto 4, 3) := by decide +kernel
theorem dX0_insert_66 : decode cX0_insert 66 = .ok (.iconst 0, 1) := by decide +kernel
theorem dX0_insert_67 : decode cX0_insert 67 = .ok (.istore 5, 2) := by decide +kernel
theorem dX0_insert_69 : decode cX0_insert 69 = .ok (.iload 5, 2) := by decide +kernel
theorem dX0_insert_71 : decode cX0_insert 71 = .ok (.ifCond .ne 15, 3) := by decide +kernel
theorem dX0_insert_74 : decode cX0_insert 74 = .ok (.aload_n 0, 1) := by decide +kernel
theorem dX0_insert_75 : decode cX0_insert 75 = .ok (.getfield 19, 3) := by decide +kernel
theorem dX0_insert_78 : decode cX0_insert 78 = .ok (.aload_n 0, 1) := by decide +kernel
theorem dX0_insert_79 : decode cX0_insert 79 = .ok (.getfield 9, 3) := by decide +kernel
theorem dX0_insert_82 : decode cX0_insert 82 = .ok (.arraylength, 1) := by decide +kernel
theorem dX0_insert_83 : decode cX0_insert 83 = .ok (.if_icmp .lt 5, 3) := by decide +kernel
theorem dX0_insert_86 : decode cX0_insert 86 = .ok (.iconst 0, 1) := by decide +kernel
theorem dX0_insert_87 : decode cX0_insert 87 = .ok (.ireturn, 1) := by decide +kernel
theorem dX0_insert_88 : decode cX0_insert 88 = .ok (.aload_n 0, 1) := by decide +kernel
theorem dX0_insert_89 : decode cX0_insert 89 = .ok (.getfield 19, 3) := by decide +kernel
theorem dX0_insert_92 : decode cX0_insert 92 = .ok (.istore 6, 2) := by decide +kernel
theorem dX0_insert_94 : decode cX0_insert 94 = .ok (.iload 6, 2) := by decide +kernel
theorem dX0_insert_96 : decode cX0_insert 96 = .ok (.iload 4, 2) := by decide +kernel
theorem dX0_insert_98 : decode cX0_insert 98 = .ok (.if_icmp .le 25, 3) := by decide +kernel
theorem dX0_insert_101 : decode cX0_insert 101 = .ok (.aload_n 0, 1) := by decide +kernel
theorem dX0_insert_102 : decode cX0_insert 102 = .ok (.getfield 9, 3) := by decide +kernel
theorem dX0_insert_105 : decode cX0_insert 105 = .ok (.iload 6, 2) := by decide +kernel
theorem dX0_insert_107 : decode cX0_insert 107 = .ok (.aload_n 0, 1) := by decide +kernel
theorem dX0_insert_108 : decode cX0_insert 108 = .ok (.getfield 9, 3) := by decide +kernel
theorem dX0_insert_111 : decode cX0_insert 111 = .ok (.iload 6, 2) := by decide +kernel
theorem dX0_insert_113 : decode cX0_insert 113 = .ok (.iconst 1, 1) := by decide +kernel
theorem dX0_insert_114 : decode cX0_insert 114 = .ok (.isub, 1) := by decide +kernel
theorem dX0_insert_115 : decode cX0_insert 115 = .ok (.iaload, 1) := by decide +kernel
theorem dX0_insert_116 : decode cX0_insert 116 = .ok (.iastore, 1) := by decide +kernel
theorem dX0_insert_117 : decode cX0_insert 117 = .ok (.iinc 6 (-1), 3) := by decide +kernel
theorem dX0_insert_120 : decode cX0_insert 120 = .ok (.goto (-26), 3) := by decide +kernel
theorem dX0_insert_123 : decode cX0_insert 123 = .ok (.aload_n 0, 1) := by decide +kernel
theorem dX0_insert_124 : decode cX0_insert 124 = .ok (.getfield 9, 3) := by decide +kernel
theorem dX0_insert_127 : decode cX0_insert 127 = .ok (.iload 4, 2) := by decide +kernel
theorem dX0_insert_129 : decode cX0_insert 129 = .ok (.iload_n 1, 1) := by decide +kernel
theorem dX0_insert_130 : decode cX0_insert 130 = .ok (.iastore, 1) := by decide +kernel
theorem dX0_insert_131 : decode cX0_insert 131 = .ok (.aload_n 0, 1) := by decide +kernel
theorem dX0_insert_132 : decode cX0_insert 132 = .ok (.dup, 1) := by decide +kernel
theorem dX0_insert_133 : decode cX0_insert 133 = .ok (.getfield 19, 3) := by decide +kernel
theorem dX0_insert_136 : decode cX0_insert 136 = .ok (.iconst 1, 1) := by decide +kernel
theorem dX0_insert_137 : decode cX0_insert 137 = .ok (.iadd, 1) := by decide +kernel
theorem dX0_insert_138 : decode cX0_insert 138 = .ok (.putfield 19, 3) := by decide +kernel
theorem dX0_insert_141 : decode cX0_insert 141 = .ok (.iconst 1, 1) := by decide +kernel
theorem dX0_insert_142 : decode cX0_insert 142 = .ok (.ireturn, 1) := by decide +kernel
theorem dX0_copy_0 : decode cX0_copy 0 = .ok (.aload_n 0, 1) := by decide +kernel
theorem dX0_copy_1 : decode cX0_copy 1 = .ok (.iconst 0, 1) := by decide +kernel
theorem dX0_copy_2 : decode cX0_copy 2 = .ok (.putfield 19, 3) := by decide +kernel
theorem dX0_copy_5 : decode cX0_copy 5 = .ok (.iconst 0, 1) := by decide +kernel
theorem dX0_copy_6 : decode cX0_copy 6 = .ok (.istore_n 2, 1) := by decide +kernel
theorem dX0_copy_7 : decode cX0_copy 7 = .ok (.iload_n 2, 1) := by decide +kernel
theorem dX0_copy_8 : decode cX0_copy 8 = .ok (.aload_n 1, 1) := by decide +kernel
theorem dX0_copy_9 : decode cX0_copy 9 = .ok (.getfield 19, 3) := by decide +kernel
theorem dX0_copy_12 : decode cX0_copy 12 = .ok (.if_icmp .ge 18, 3) := by decide +kernel
theorem dX0_copy_15 : decode cX0_copy 15 = .ok (.aload_n 0, 1) := by decide +kernel
theorem dX0_copy_16 : decode cX0_copy 16 = .ok (.aload_n 1, 1) := by decide +kernel
theorem dX0_copy_17 : decode cX0_copy 17 = .ok (.iload_n 2, 1) := by decide +kernel
theorem dX0_copy_18 : decode cX0_copy 18 = .ok (.invokevirtual 23, 3) := by decide +kernel
theorem dX0_copy_21 : decode cX0_copy 21 = .ok (.invokevirtual 32, 3) := by decide +kernel
theorem dX0_copy_24 : decode cX0_copy 24 = .ok (.iinc 2 1, 3) := by decide +kernel
theorem dX0_copy_27 : decode cX0_copy 27 = .ok (.goto (-20), 3) := by decide +kernel
theorem dX0_copy_30 : decode cX0_copy 30 = .ok (.aload_n 0, 1) := by decide +kernel
theorem dX0_copy_31 : decode cX0_copy 31 = .ok (.aload_n 1, 1) := by decide +kernel
theorem dX0_copy_32 : decode cX0_copy 32 = .ok (.getfield 36, 3) := by decide +kernel
theorem dX0_copy_35 : decode cX0_copy 35 = .ok (.putfield 36, 3) := by decide +kernel
theorem dX0_copy_38 : decode cX0_copy 38 = .ok (.aload_n 0, 1) := by decide +kernel
theorem dX0_copy_39 : decode cX0_copy 39 = .ok (.aload_n 1, 1) := by decide +kernel
theorem dX0_copy_40 : decode cX0_copy 40 = .ok (.getfield 39, 3) := by decide +kernel
theorem dX0_copy_43 : decode cX0_copy 43 = .ok (.putfield 39, 3) := by decide +kernel
theorem dX0_copy_46 : decode cX0_copy 46 = .ok (.aload_n 0, 1) := by decide +kernel
theorem dX0_copy_47 : decode cX0_copy 47 = .ok (.aload_n 1, 1) := by decide +kernel
theorem dX0_copy_48 : decode cX0_copy 48 = .ok (.getfield 42, 3) := by decide +kernel
theorem dX0_copy_51 : decode cX0_copy 51 = .ok (.putfield 42, 3) := by decide +kernel
theorem dX0_copy_54 : decode cX0_copy 54 = .ok (.aload_n 0, 1) := by decide +kernel
theorem dX0_copy_55 : decode cX0_copy 55 = .ok (.aload_n 1, 1) := by decide +kernel
theorem dX0_copy_56 : decode cX0_copy 56 = .ok (.getfield 45, 3) := by decide +kernel
theorem dX0_copy_59 : decode cX0_copy 59 = .ok (.putfield 45, 3) := by decide +kernel
theorem dX0_copy_62 : decode cX0_copy 62 = .ok (.aload_n 0, 1) := by decide +kernel
theorem dX0_copy_63 : decode cX0_copy 63 = .ok (.aload_n 1, 1) := by decide +kernel
theorem dX0_copy_64 : decode cX0_copy 64 = .ok (.getfield 48, 3) := by decide +kernel
theorem dX0_copy_67 : decode cX0_copy 67 = .ok (.putfield 48, 3) := by decide +kernel
theorem dX0_copy_70 : decode cX0_copy 70 = .ok (.aload_n 0, 1) := by decide +kernel
theorem dX0_copy_71 : decode cX0_copy 71 = .ok (.aload_n 1, 1) := by decide +kernel
theorem dX0_copy_72 : decode cX0_copy 72 = .ok (.getfield 51, 3) := by decide +kernel
theorem dX0_copy_75 : decode cX0_copy 75 = .ok (.putfield 51, 3) := by decide +kernel
theorem dX0_copy_78 : decode cX0_copy 78 = .ok (.aload_n 0, 1) := by decide +kernel
theorem dX0_copy_79 : decode cX0_copy 79 = .ok (.aload_n 1, 1) := by decide +kernel
theorem dX0_copy_80 : decode cX0_copy 80 = .ok (.getfield 15, 3) := by decide +kernel
theorem dX0_copy_83 : decode cX0_copy 83 = .ok (.putfield 15, 3) := by decide +kernel
theorem dX0_copy_86 : decode cX0_copy 86 = .ok (.return_, 1) := by decide +kernel
theorem dX0_join_0 : decode cX0_join 0 = .ok (.aload_n 0, 1) := by decide +kernel
theorem dX0_join_1 : decode cX0_join 1 = .ok (.iconst 0, 1) := by decide +kernel
theorem dX0_join_2 : decode cX0_join 2 = .ok (.putfield 19, 3) := by decide +kernel
theorem dX0_join_5 : decode cX0_join 5 = .ok (.iconst 0, 1) := by decide +kernel
theorem dX0_join_6 : decode cX0_join 6 = .ok (.istore 5, 2) := by decide +kernel
theorem dX0_join_8 : decode cX0_join 8 = .ok (.iload 5, 2) := by decide +kernel
theorem dX0_join_10 : decode cX0_join 10 = .ok (.aload_n 1, 1) := by decide +kernel
theorem dX0_join_11 : decode cX0_join 11 = .ok (.getfield 19, 3) := by decide +kernel
theorem dX0_join_14 : decode cX0_join 14 = .ok (.if_icmp .ge 34, 3) := by decide +kernel
theorem dX0_join_17 : decode cX0_join 17 = .ok (.aload 4, 2) := by decide +kernel
theorem dX0_join_19 : decode cX0_join 19 = .ok (.aload_n 1, 1) := by decide +kernel
theorem dX0_join_20 : decode cX0_join 20 = .ok (.iload 5, 2) := by decide +kernel
theorem dX0_join_22 : decode cX0_join 22 = .ok (.invokevirtual 23, 3) := by decide +kernel
theorem dX0_join_25 : decode cX0_join 25 = .ok (.invokevirtual 27, 3) := by decide +kernel
theorem dX0_join_28 : decode cX0_join 28 = .ok (.iload_n 3, 1) := by decide +kernel
theorem dX0_join_29 : decode cX0_join 29 = .ok (.if_icmp .ge 13, 3) := by decide +kernel
theorem dX0_join_32 : decode cX0_join 32 = .ok (.aload_n 0, 1) := by decide +kernel
theorem dX0_join_33 : decode cX0_join 33 = .ok (.aload_n 1, 1) := by decide +kernel
theorem dX0_join_34 : decode cX0_join 34 = .ok (.iload 5, 2) := by decide +kernel
theorem dX0_join_36 : decode cX0_join 36 = .ok (.invokevirtual 23, 3) := by decide +kernel
theorem dX0_join_39 : decode cX0_join 39 = .ok (.invokevirtual 32, 3) := by decide +kernel
theorem dX0_join_42 : decode cX0_join 42 = .ok (.iinc 5 1, 3) := by decide +kernel
theorem dX0_join_45 : decode cX0_join 45 = .ok (.goto (-37), 3) := by decide +kernel
theorem dX0_join_48 : decode cX0_join 48 = .ok (.iconst 0, 1) := by decide +kernel
theorem dX0_join_49 : decode cX0_join 49 = .ok (.istore 5, 2) := by decide +kernel
theorem dX0_join_51 : decode cX0_join 51 = .ok (.iload 5, 2) := by decide +kernel
theorem dX0_join_53 : decode cX0_join 53 = .ok (.aload_n 2, 1) := by decide +kernel
theorem dX0_join_54 : decode cX0_join 54 = .ok (.getfield 19, 3) := by decide +kernel
theorem dX0_join_57 : decode cX0_join 57 = .ok (.if_icmp .ge 34, 3) := by decide +kernel
theorem dX0_join_60 : decode cX0_join 60 = .ok (.aload 4, 2) := by decide +kernel
theorem dX0_join_62 : decode cX0_join 62 = .ok (.aload_n 2, 1) := by decide +kernel
theorem dX0_join_63 : decode cX0_join 63 = .ok (.iload 5, 2) := by decide +kernel
theorem dX0_join_65 : decode cX0_join 65 = .ok (.invokevirtual 23, 3) := by decide +kernel
theorem dX0_join_68 : decode cX0_join 68 = .ok (.invokevirtual 27, 3) := by decide +kernel
theorem dX0_join_71 : decode cX0_join 71 = .ok (.iload_n 3, 1) := by decide +kernel
theorem dX0_join_72 : decode cX0_join 72 = .ok (.if_icmp .lt 13, 3) := by decide +kernel
theorem dX0_join_75 : decode cX0_join 75 = .ok (.aload_n 0, 1) := by decide +kernel
theorem dX0_join_76 : decode cX0_join 76 = .ok (.aload_n 2, 1) := by decide +kernel
theorem dX0_join_77 : decode cX0_join 77 = .ok (.iload 5, 2) := by decide +kernel
theorem dX0_join_79 : decode cX0_join 79 = .ok (.invokevirtual 23, 3) := by decide +kernel
theorem dX0_join_82 : decode cX0_join 82 = .ok (.invokevirtual 32, 3) := by decide +kernel
theorem dX0_join_85 : decode cX0_join 85 = .ok (.iinc 5 1, 3) := by decide +kernel
theorem dX0_join_88 : decode cX0_join 88 = .ok (.goto (-37), 3) := by decide +kernel
theorem dX0_join_91 : decode cX0_join 91 = .ok (.return_, 1) := by decide +kernel
theorem dX0_measure_0 : decode cX0_measure 0 = .ok (.aload_n 0, 1) := by decide +kernel
theorem dX0_measure_1 : decode cX0_measure 1 = .ok (.iconst 0, 1) := by decide +kernel
theorem dX0_measure_2 : decode cX0_measure 2 = .ok (.putfield 36, 3) := by decide +kernel
theorem dX0_measure_5 : decode cX0_measure 5 = .ok (.aload_n 0, 1) := by decide +kernel
theorem dX0_measure_6 : decode cX0_measure 6 = .ok (.iconst 0, 1) := by decide +kernel
theorem dX0_measure_7 : decode cX0_measure 7 = .ok (.putfield 39, 3) := by decide +kernel
theorem dX0_measure_10 : decode cX0_measure 10 = .ok (.aload_n 0, 1) := by decide +kernel
theorem dX0_measure_11 : decode cX0_measure 11 = .ok (.iconst 0, 1) := by decide +kernel
theorem dX0_measure_12 : decode cX0_measure 12 = .ok (.putfield 42, 3) := by decide +kernel
theorem dX0_measure_15 : decode cX0_measure 15 = .ok (.aload_n 0, 1) := by decide +kernel
theorem dX0_measure_16 : decode cX0_measure 16 = .ok (.iconst 0, 1) := by decide +kernel
theorem dX0_measure_17 : decode cX0_measure 17 = .ok (.putfield 45, 3) := by decide +kernel
theorem dX0_measure_20 : decode cX0_measure 20 = .ok (.aload_n 0, 1) := by decide +kernel
theorem dX0_measure_21 : decode cX0_measure 21 = .ok (.iconst 0, 1) := by decide +kernel
theorem dX0_measure_22 : decode cX0_measure 22 = .ok (.putfield 48, 3) := by decide +kernel
theorem dX0_measure_25 : decode cX0_measure 25 = .ok (.aload_n 0, 1) := by decide +kernel
theorem dX0_measure_26 : decode cX0_measure 26 = .ok (.iconst 0, 1) := by decide +kernel
theorem dX0_measure_27 : decode cX0_measure 27 = .ok (.putfield 51, 3) := by decide +kernel
theorem dX0_measure_30 : decode cX0_measure 30 = .ok (.aload_n 0, 1) := by decide +kernel
theorem dX0_measure_31 : decode cX0_measure 31 = .ok (.iconst 1, 1) := by decide +kernel
theorem dX0_measure_32 : decode cX0_measure 32 = .ok (.putfield 15, 3) := by decide +kernel
theorem dX0_measure_35 : decode cX0_measure 35 = .ok (.aload_n 0, 1) := by decide +kernel
theorem dX0_measure_36 : decode cX0_measure 36 = .ok (.getfield 19, 3) := by decide +kernel
theorem dX0_measure_39 : decode cX0_measure 39 = .ok (.ifCond .le 57, 3) := by decide +kernel
theorem dX0_measure_42 : decode cX0_measure 42 = .ok (.aload_n 0, 1) := by decide +kernel
theorem dX0_measure_43 : decode cX0_measure 43 = .ok (.aload_n 1, 1) := by decide +kernel
theorem dX0_measure_44 : decode cX0_measure 44 = .ok (.invokevirtual 54, 3) := by decide +kernel
theorem dX0_measure_47 : decode cX0_measure 47 = .ok (.aload_n 0, 1) := by decide +kernel
theorem dX0_measure_48 : decode cX0_measure 48 = .ok (.aload_n 1, 1) := by decide +kernel
theorem dX0_measure_49 : decode cX0_measure 49 = .ok (.aload_n 2, 1) := by decide +kernel
theorem dX0_measure_50 : decode cX0_measure 50 = .ok (.invokevirtual 58, 3) := by decide +kernel
theorem dX0_measure_53 : decode cX0_measure 53 = .ok (.aload_n 0, 1) := by decide +kernel
theorem dX0_measure_54 : decode cX0_measure 54 = .ok (.aload_n 0, 1) := by decide +kernel
theorem dX0_measure_55 : decode cX0_measure 55 = .ok (.getfield 42, 3) := by decide +kernel
theorem dX0_measure_58 : decode cX0_measure 58 = .ok (.invokestatic 62, 3) := by decide +kernel
theorem dX0_measure_61 : decode cX0_measure 61 = .ok (.putfield 45, 3) := by decide +kernel
theorem dX0_measure_64 : decode cX0_measure 64 = .ok (.aload_n 0, 1) := by decide +kernel
theorem dX0_measure_65 : decode cX0_measure 65 = .ok (.getfield 51, 3) := by decide +kernel
theorem dX0_measure_68 : decode cX0_measure 68 = .ok (.aload_n 2, 1) := by decide +kernel
theorem dX0_measure_69 : decode cX0_measure 69 = .ok (.getfield 65, 3) := by decide +kernel
theorem dX0_measure_72 : decode cX0_measure 72 = .ok (.if_icmp .gt 19, 3) := by decide +kernel
theorem dX0_measure_75 : decode cX0_measure 75 = .ok (.aload_n 0, 1) := by decide +kernel
theorem dX0_measure_76 : decode cX0_measure 76 = .ok (.getfield 39, 3) := by decide +kernel
theorem dX0_measure_79 : decode cX0_measure 79 = .ok (.aload_n 0, 1) := by decide +kernel
theorem dX0_measure_80 : decode cX0_measure 80 = .ok (.getfield 36, 3) := by decide +kernel
theorem dX0_measure_83 : decode cX0_measure 83 = .ok (.isub, 1) := by decide +kernel
theorem dX0_measure_84 : decode cX0_measure 84 = .ok (.aload_n 2, 1) := by decide +kernel
theorem dX0_measure_85 : decode cX0_measure 85 = .ok (.getfield 70, 3) := by decide +kernel
theorem dX0_measure_88 : decode cX0_measure 88 = .ok (.if_icmp .le 8, 3) := by decide +kernel
theorem dX0_measure_91 : decode cX0_measure 91 = .ok (.aload_n 0, 1) := by decide +kernel
theorem dX0_measure_92 : decode cX0_measure 92 = .ok (.iconst 0, 1) := by decide +kernel
theorem dX0_measure_93 : decode cX0_measure 93 = .ok (.putfield 15, 3) := by decide +kernel
theorem dX0_measure_96 : decode cX0_measure 96 = .ok (.return_, 1) := by decide +kernel
theorem dX0_measureSpread_0 : decode cX0_measureSpread 0 = .ok (.aload_n 0, 1) := by decide +kernel
theorem dX0_measureSpread_1 : decode cX0_measureSpread 1 = .ok (.iconst 0, 1) := by decide +kernel
theorem dX0_measureSpread_2 : decode cX0_measureSpread 2 = .ok (.invokevirtual 23, 3) := by decide +kernel
theorem dX0_measureSpread_5 : decode cX0_measureSpread 5 = .ok (.istore_n 2, 1) := by decide +kernel
theorem dX0_measureSpread_6 : decode cX0_measureSpread 6 = .ok (.aload_n 0, 1) := by decide +kernel
theorem dX0_measureSpread_7 : decode cX0_measureSpread 7 = .ok (.aload_n 0, 1) := by decide +kernel
theorem dX0_measureSpread_8 : decode cX0_measureSpread 8 = .ok (.getfield 19, 3) := by decide +kernel
theorem dX0_measureSpread_11 : decode cX0_measureSpread 11 = .ok (.iconst 1, 1) := by decide +kernel
theorem dX0_measureSpread_12 : decode cX0_measureSpread 12 = .ok (.isub, 1) := by decide +kernel
theorem dX0_measureSpread_13 : decode cX0_measureSpread 13 = .ok (.invokevirtual 23, 3) := by decide +kernel
theorem dX0_measureSpread_16 : decode cX0_measureSpread 16 = .ok (.istore_n 3, 1) := by decide +kernel
theorem dX0_measureSpread_17 : decode cX0_measureSpread 17 = .ok (.aload_n 1, 1) := by decide +kernel
theorem dX0_measureSpread_18 : decode cX0_measureSpread 18 = .ok (.iconst 0, 1) := by decide +kernel
theorem dX0_measureSpread_19 : decode cX0_measureSpread 19 = .ok (.aload_n 1, 1) := by decide +kernel
theorem dX0_measureSpread_20 : decode cX0_measureSpread 20 = .ok (.iload_n 2, 1) := by decide +kernel
theorem dX0_measureSpread_21 : decode cX0_measureSpread 21 = .ok (.invokevirtual 73, 3) := by decide +kernel
theorem dX0_measureSpread_24 : decode cX0_measureSpread 24 = .ok (.invokevirtual 76, 3) := by decide +kernel
theorem dX0_measureSpread_27 : decode cX0_measureSpread 27 = .ok (.istore 4, 2) := by decide +kernel
theorem dX0_measureSpread_29 : decode cX0_measureSpread 29 = .ok (.aload_n 1, 1) := by decide +kernel
theorem dX0_measureSpread_30 : decode cX0_measureSpread 30 = .ok (.aload_n 1, 1) := by decide +kernel
theorem dX0_measureSpread_31 : decode cX0_measureSpread 31 = .ok (.iload_n 3, 1) := by decide +kernel
theorem dX0_measureSpread_32 : decode cX0_measureSpread 32 = .ok (.invokevirtual 80, 3) := by decide +kernel
theorem dX0_measureSpread_35 : decode cX0_measureSpread 35 = .ok (.iconst 0, 1) := by decide +kernel
theorem dX0_measureSpread_36 : decode cX0_measureSpread 36 = .ok (.invokevirtual 76, 3) := by decide +kernel
theorem dX0_measureSpread_39 : decode cX0_measureSpread 39 = .ok (.istore 5, 2) := by decide +kernel
theorem dX0_measureSpread_41 : decode cX0_measureSpread 41 = .ok (.aload_n 0, 1) := by decide +kernel
theorem dX0_measureSpread_42 : decode cX0_measureSpread 42 = .ok (.aload_n 1, 1) := by decide +kernel
theorem dX0_measureSpread_43 : decode cX0_measureSpread 43 = .ok (.iload_n 2, 1) := by decide +kernel
theorem dX0_measureSpread_44 : decode cX0_measureSpread 44 = .ok (.invokevirtual 27, 3) := by decide +kernel
theorem dX0_measureSpread_47 : decode cX0_measureSpread 47 = .ok (.iload 4, 2) := by decide +kernel
theorem dX0_measureSpread_49 : decode cX0_measureSpread 49 = .ok (.isub, 1) := by decide +kernel
theorem dX0_measureSpread_50 : decode cX0_measureSpread 50 = .ok (.bipush 10, 2) := by decide +kernel
theorem dX0_measureSpread_52 : decode cX0_measureSpread 52 = .ok (.isub, 1) := by decide +kernel
theorem dX0_measureSpread_53 : decode cX0_measureSpread 53 = .ok (.putfield 36, 3) := by decide +kernel
theorem dX0_measureSpread_56 : decode cX0_measureSpread 56 = .ok (.aload_n 0, 1) := by decide +kernel
theorem dX0_measureSpread_57 : decode cX0_measureSpread 57 = .ok (.aload_n 1, 1) := by decide +kernel
theorem dX0_measureSpread_58 : decode cX0_measureSpread 58 = .ok (.iload_n 3, 1) := by decide +kernel
theorem dX0_measureSpread_59 : decode cX0_measureSpread 59 = .ok (.invokevirtual 83, 3) := by decide +kernel
theorem dX0_measureSpread_62 : decode cX0_measureSpread 62 = .ok (.iload 5, 2) := by decide +kernel
theorem dX0_measureSpread_64 : decode cX0_measureSpread 64 = .ok (.iadd, 1) := by decide +kernel
theorem dX0_measureSpread_65 : decode cX0_measureSpread 65 = .ok (.iconst 5, 1) := by decide +kernel
theorem dX0_measureSpread_66 : decode cX0_measureSpread 66 = .ok (.iadd, 1) := by decide +kernel
theorem dX0_measureSpread_67 : decode cX0_measureSpread 67 = .ok (.putfield 39, 3) := by decide +kernel
theorem dX0_measureSpread_70 : decode cX0_measureSpread 70 = .ok (.aload_n 0, 1) := by decide +kernel
theorem dX0_measureSpread_71 : decode cX0_measureSpread 71 = .ok (.aload_n 0, 1) := by decide +kernel
theorem dX0_measureSpread_72 : decode cX0_measureSpread 72 = .ok (.getfield 39, 3) := by decide +kernel
theorem dX0_measureSpread_75 : decode cX0_measureSpread 75 = .ok (.aload_n 0, 1) := by decide +kernel
theorem dX0_measureSpread_76 : decode cX0_measureSpread 76 = .ok (.getfield 36, 3) := by decide +kernel
theorem dX0_measureSpread_79 : decode cX0_measureSpread 79 = .ok (.isub, 1) := by decide +kernel
theorem dX0_measureSpread_80 : decode cX0_measureSpread 80 = .ok (.putfield 42, 3) := by decide +kernel
theorem dX0_measureSpread_83 : decode cX0_measureSpread 83 = .ok (.return_, 1) := by decide +kernel
theorem dX0_measureStretches_0 : decode cX0_measureStretches 0 = .ok (.aload_n 0, 1) := by decide +kernel
theorem dX0_measureStretches_1 : decode cX0_measureStretches 1 = .ok (.iconst 0, 1) := by decide +kernel
theorem dX0_measureStretches_2 : decode cX0_measureStretches 2 = .ok (.invokevirtual 23, 3) := by decide +kernel
theorem dX0_measureStretches_5 : decode cX0_measureStretches 5 = .ok (.istore_n 3, 1) := by decide +kernel
theorem dX0_measureStretches_6 : decode cX0_measureStretches 6 = .ok (.aload_n 1, 1) := by decide +kernel
theorem dX0_measureStretches_7 : decode cX0_measureStretches 7 = .ok (.iconst 0, 1) := by decide +kernel
theorem dX0_measureStretches_8 : decode cX0_measureStretches 8 = .ok (.aload_n 1, 1) := by decide +kernel
theorem dX0_measureStretches_9 : decode cX0_measureStretches 9 = .ok (.iload_n 3, 1) := by decide +kernel
theorem dX0_measureStretches_10 : decode cX0_measureStretches 10 = .ok (.invokevirtual 73, 3) := by decide +kernel
theorem dX0_measureStretches_13 : decode cX0_measureStretches 13 = .ok (.invokevirtual 76, 3) := by decide +kernel
theorem dX0_measureStretches_16 : decode cX0_measureStretches 16 = .ok (.aload_n 1, 1) := by decide +kernel
theorem dX0_measureStretches_17 : decode cX0_measureStretches 17 = .ok (.iload_n 3, 1) := by decide +kernel
theorem dX0_measureStretches_18 : decode cX0_measureStretches 18 = .ok (.invokevirtual 86, 3) := by decide +kernel
theorem dX0_measureStretches_21 : decode cX0_measureStretches 21 = .ok (.iadd, 1) := by decide +kernel
theorem dX0_measureStretches_22 : decode cX0_measureStretches 22 = .ok (.istore 4, 2) := by decide +kernel
theorem dX0_measureStretches_24 : decode cX0_measureStretches 24 = .ok (.iconst 1, 1) := by decide +kernel
theorem dX0_measureStretches_25 : decode cX0_measureStretches 25 = .ok (.istore 5, 2) := by decide +kernel
theorem dX0_measureStretches_27 : decode cX0_measureStretches 27 = .ok (.iload 5, 2) := by decide +kernel
theorem dX0_measureStretches_29 : decode cX0_measureStretches 29 = .ok (.aload_n 0, 1) := by decide +kernel
theorem dX0_measureStretches_30 : decode cX0_measureStretches 30 = .ok (.getfield 19, 3) := by decide +kernel
theorem dX0_measureStretches_33 : decode cX0_measureStretches 33 = .ok (.if_icmp .ge 117, 3) := by decide +kernel
theorem dX0_measureStretches_36 : decode cX0_measureStretches 36 = .ok (.aload_n 0, 1) := by decide +kernel
theorem dX0_measureStretches_37 : decode cX0_measureStretches 37 = .ok (.iload 5, 2) := by decide +kernel
theorem dX0_measureStretches_39 : decode cX0_measureStretches 39 = .ok (.invokevirtual 23, 3) := by decide +kernel
theorem dX0_measureStretches_42 : decode cX0_measureStretches 42 = .ok (.istore 6, 2) := by decide +kernel
theorem dX0_measureStretches_44 : decode cX0_measureStretches 44 = .ok (.aload_n 1, 1) := by decide +kernel
theorem dX0_measureStretches_45 : decode cX0_measureStretches 45 = .ok (.aload_n 1, 1) := by decide +kernel
theorem dX0_measureStretches_46 : decode cX0_measureStretches 46 = .ok (.iload_n 3, 1) := by decide +kernel
theorem dX0_measureStretches_47 : decode cX0_measureStretches 47 = .ok (.invokevirtual 80, 3) := by decide +kernel
theorem dX0_measureStretches_50 : decode cX0_measureStretches 50 = .ok (.aload_n 1, 1) := by decide +kernel
theorem dX0_measureStretches_51 : decode cX0_measureStretches 51 = .ok (.iload 6, 2) := by decide +kernel
theorem dX0_measureStretches_53 : decode cX0_measureStretches 53 = .ok (.invokevirtual 73, 3) := by decide +kernel
theorem dX0_measureStretches_56 : decode cX0_measureStretches 56 = .ok (.invokevirtual 76, 3) := by decide +kernel
theorem dX0_measureStretches_59 : decode cX0_measureStretches 59 = .ok (.istore 7, 2) := by decide +kernel
theorem dX0_measureStretches_61 : decode cX0_measureStretches 61 = .ok (.aload_n 1, 1) := by decide +kernel
theorem dX0_measureStretches_62 : decode cX0_measureStretches 62 = .ok (.iload 6, 2) := by decide +kernel
theorem dX0_measureStretches_64 : decode cX0_measureStretches 64 = .ok (.invokevirtual 27, 3) := by decide +kernel
theorem dX0_measureStretches_67 : decode cX0_measureStretches 67 = .ok (.aload_n 1, 1) := by decide +kernel
theorem dX0_measureStretches_68 : decode cX0_measureStretches 68 = .ok (.iload_n 3, 1) := by decide +kernel
theorem dX0_measureStretches_69 : decode cX0_measureStretches 69 = .ok (.invokevirtual 83, 3) := by decide +kernel
theorem dX0_measureStretches_72 : decode cX0_measureStretches 72 = .ok (.isub, 1) := by decide +kernel
theorem dX0_measureStretches_73 : decode cX0_measureStretches 73 = .ok (.iload 7, 2) := by decide +kernel
theorem dX0_measureStretches_75 : decode cX0_measureStretches 75 = .ok (.isub, 1) := by decide +kernel
theorem dX0_measureStretches_76 : decode cX0_measureStretches 76 = .ok (.istore 8, 2) := by decide +kernel
theorem dX0_measureStretches_78 : decode cX0_measureStretches 78 = .ok (.iload 8, 2) := by decide +kernel
theorem dX0_measureStretches_80 : decode cX0_measureStretches 80 = .ok (.ifCond .ge 8, 3) := by decide +kernel
theorem dX0_measureStretches_83 : decode cX0_measureStretches 83 = .ok (.aload_n 0, 1) := by decide +kernel
theorem dX0_measureStretches_84 : decode cX0_measureStretches 84 = .ok (.iconst 0, 1) := by decide +kernel
theorem dX0_measureStretches_85 : decode cX0_measureStretches 85 = .ok (.putfield 15, 3) := by decide +kernel
theorem dX0_measureStretches_88 : decode cX0_measureStretches 88 = .ok (.iload 8, 2) := by decide +kernel
theorem dX0_measureStretches_90 : decode cX0_measureStretches 90 = .ok (.aload_n 2, 1) := by decide +kernel
theorem dX0_measureStretches_91 : decode cX0_measureStretches 91 = .ok (.getfield 89, 3) := by decide +kernel
theorem dX0_measureStretches_94 : decode cX0_measureStretches 94 = .ok (.if_icmp .lt 33, 3) := by decide +kernel
theorem dX0_measureStretches_97 : decode cX0_measureStretches 97 = .ok (.aload_n 0, 1) := by decide +kernel
theorem dX0_measureStretches_98 : decode cX0_measureStretches 98 = .ok (.dup, 1) := by decide +kernel
theorem dX0_measureStretches_99 : decode cX0_measureStretches 99 = .ok (.getfield 48, 3) := by decide +kernel
theorem dX0_measureStretches_102 : decode cX0_measureStretches 102 = .ok (.iconst 1, 1) := by decide +kernel
theorem dX0_measureStretches_103 : decode cX0_measureStretches 103 = .ok (.iadd, 1) := by decide +kernel
theorem dX0_measureStretches_104 : decode cX0_measureStretches 104 = .ok (.putfield 48, 3) := by decide +kernel
theorem dX0_measureStretches_107 : decode cX0_measureStretches 107 = .ok (.aload_n 0, 1) := by decide +kernel
theorem dX0_measureStretches_108 : decode cX0_measureStretches 108 = .ok (.dup, 1) := by decide +kernel
theorem dX0_measureStretches_109 : decode cX0_measureStretches 109 = .ok (.getfield 42, 3) := by decide +kernel
theorem dX0_measureStretches_112 : decode cX0_measureStretches 112 = .ok (.iload 8, 2) := by decide +kernel
theorem dX0_measureStretches_114 : decode cX0_measureStretches 114 = .ok (.isub, 1) := by decide +kernel
theorem dX0_measureStretches_115 : decode cX0_measureStretches 115 = .ok (.putfield 42, 3) := by decide +kernel
theorem dX0_measureStretches_118 : decode cX0_measureStretches 118 = .ok (.aload_n 0, 1) := by decide +kernel
theorem dX0_measureStretches_119 : decode cX0_measureStretches 119 = .ok (.iload 4, 2) := by decide +kernel
theorem dX0_measureStretches_121 : decode cX0_measureStretches 121 = .ok (.invokevirtual 92, 3) := by decide +kernel
theorem dX0_measureStretches_124 : decode cX0_measureStretches 124 = .ok (.iconst 0, 1) := by decide +kernel
theorem dX0_measureStretches_125 : decode cX0_measureStretches 125 = .ok (.istore 4, 2) := by decide +kernel
theorem dX0_measureStretches_127 : decode cX0_measureStretches 127 = .ok (.iload 4, 2) := by decide +kernel
theorem dX0_measureStretches_129 : decode cX0_measureStretches 129 = .ok (.iload 7, 2) := by decide +kernel
theorem dX0_measureStretches_131 : decode cX0_measureStretches 131 = .ok (.aload_n 1, 1) := by decide +kernel
theorem dX0_measureStretches_132 : decode cX0_measureStretches 132 = .ok (.iload 6, 2) := by decide +kernel
theorem dX0_measureStretches_134 : decode cX0_measureStretches 134 = .ok (.invokevirtual 86, 3) := by decide +kernel
theorem dX0_measureStretches_137 : decode cX0_measureStretches 137 = .ok (.iadd, 1) := by decide +kernel
theorem dX0_measureStretches_138 : decode cX0_measureStretches 138 = .ok (.iadd, 1) := by decide +kernel
theorem dX0_measureStretches_139 : decode cX0_measureStretches 139 = .ok (.istore 4, 2) := by decide +kernel
theorem dX0_measureStretches_141 : decode cX0_measureStretches 141 = .ok (.iload 6, 2) := by decide +kernel
theorem dX0_measureStretches_143 : decode cX0_measureStretches 143 = .ok (.istore_n 3, 1) := by decide +kernel
theorem dX0_measureStretches_144 : decode cX0_measureStretches 144 = .ok (.iinc 5 1, 3) := by decide +kernel
theorem dX0_measureStretches_147 : decode cX0_measureStretches 147 = .ok (.goto (-120), 3) := by decide +kernel
theorem dX0_measureStretches_150 : decode cX0_measureStretches 150 = .ok (.aload_n 0, 1) := by decide +kernel
theorem dX0_measureStretches_151 : decode cX0_measureStretches 151 = .ok (.iload 4, 2) := by decide +kernel
theorem dX0_measureStretches_153 : decode cX0_measureStretches 153 = .ok (.aload_n 1, 1) := by decide +kernel
theorem dX0_measureStretches_154 : decode cX0_measureStretches 154 = .ok (.aload_n 1, 1) := by decide +kernel
theorem dX0_measureStretches_155 : decode cX0_measureStretches 155 = .ok (.iload_n 3, 1) := by decide +kernel
theorem dX0_measureStretches_156 : decode cX0_measureStretches 156 = .ok (.invokevirtual 80, 3) := by decide +kernel
theorem dX0_measureStretches_159 : decode cX0_measureStretches 159 = .ok (.iconst 0, 1) := by decide +kernel
theorem dX0_measureStretches_160 : decode cX0_measureStretches 160 = .ok (.invokevirtual 76, 3) := by decide +kernel
theorem dX0_measureStretches_163 : decode cX0_measureStretches 163 = .ok (.iadd, 1) := by decide +kernel
theorem dX0_measureStretches_164 : decode cX0_measureStretches 164 = .ok (.invokevirtual 92, 3) := by decide +kernel
theorem dX0_measureStretches_167 : decode cX0_measureStretches 167 = .ok (.return_, 1) := by decide +kernel
theorem dX0_endStretch_0 : decode cX0_endStretch 0 = .ok (.iload_n 1, 1) := by decide +kernel
theorem dX0_endStretch_1 : decode cX0_endStretch 1 = .ok (.aload_n 0, 1) := by decide +kernel
theorem dX0_endStretch_2 : decode cX0_endStretch 2 = .ok (.getfield 51, 3) := by decide +kernel
theorem dX0_endStretch_5 : decode cX0_endStretch 5 = .ok (.if_icmp .le 8, 3) := by decide +kernel
theorem dX0_endStretch_8 : decode cX0_endStretch 8 = .ok (.aload_n 0, 1) := by decide +kernel
theorem dX0_endStretch_9 : decode cX0_endStretch 9 = .ok (.iload_n 1, 1) := by decide +kernel
theorem dX0_endStretch_10 : decode cX0_endStretch 10 = .ok (.putfield 51, 3) := by decide +kernel
theorem dX0_endStretch_13 : decode cX0_endStretch 13 = .ok (.return_, 1) := by decide +kernel
theorem dX0_payFor_0 : decode cX0_payFor 0 = .ok (.iload_n 0, 1) := by decide +kernel
theorem dX0_payFor_1 : decode cX0_payFor 1 = .ok (.sipush 360, 3) := by decide +kernel
theorem dX0_payFor_4 : decode cX0_payFor 4 = .ok (.if_icmp .ge 9, 3) := by decide +kernel
theorem dX0_payFor_7 : decode cX0_payFor 7 = .ok (.sipush 360, 3) := by decide +kernel
theorem dX0_payFor_10 : decode cX0_payFor 10 = .ok (.goto 4, 3) := by decide +kernel
theorem dX0_payFor_13 : decode cX0_payFor 13 = .ok (.iload_n 0, 1) := by decide +kernel
theorem dX0_payFor_14 : decode cX0_payFor 14 = .ok (.istore_n 1, 1) := by decide +kernel
theorem dX0_payFor_15 : decode cX0_payFor 15 = .ok (.iload_n 0, 1) := by decide +kernel
theorem dX0_payFor_16 : decode cX0_payFor 16 = .ok (.sipush 480, 3) := by decide +kernel
theorem dX0_payFor_19 : decode cX0_payFor 19 = .ok (.if_icmp .le 15, 3) := by decide +kernel
theorem dX0_payFor_22 : decode cX0_payFor 22 = .ok (.iload_n 1, 1) := by decide +kernel
theorem dX0_payFor_23 : decode cX0_payFor 23 = .ok (.iload_n 0, 1) := by decide +kernel
theorem dX0_payFor_24 : decode cX0_payFor 24 = .ok (.sipush 480, 3) := by decide +kernel
theorem dX0_payFor_27 : decode cX0_payFor 27 = .ok (.isub, 1) := by decide +kernel
theorem dX0_payFor_28 : decode cX0_payFor 28 = .ok (.iconst 2, 1) := by decide +kernel
theorem dX0_payFor_29 : decode cX0_payFor 29 = .ok (.idiv, 1) := by decide +kernel
theorem dX0_payFor_30 : decode cX0_payFor 30 = .ok (.iadd, 1) := by decide +kernel
theorem dX0_payFor_31 : decode cX0_payFor 31 = .ok (.goto 4, 3) := by decide +kernel
theorem dX0_payFor_34 : decode cX0_payFor 34 = .ok (.iload_n 1, 1) := by decide +kernel
theorem dX0_payFor_35 : decode cX0_payFor 35 = .ok (.ireturn, 1) := by decide +kernel
theorem dX1_init_0 : decode cX1_init 0 = .ok (.aload_n 0, 1) := by decide +kernel
theorem dX1_init_1 : decode cX1_init 1 = .ok (.invokespecial 3, 3) := by decide +kernel
theorem dX1_init_4 : decode cX1_init 4 = .ok (.return_, 1) := by decide +kernel
theorem dX1_clear_0 : decode cX1_clear 0 = .ok (.aload_n 0, 1) := by decide +kernel
theorem dX1_clear_1 : decode cX1_clear 1 = .ok (.iconst (-1), 1) := by decide +kernel
theorem dX1_clear_2 : decode cX1_clear 2 = .ok (.putfield 9, 3) := by decide +kernel
theorem dX1_clear_5 : decode cX1_clear 5 = .ok (.aload_n 0, 1) := by decide +kernel
theorem dX1_clear_6 : decode cX1_clear 6 = .ok (.iconst (-1), 1) := by decide +kernel
theorem dX1_clear_7 : decode cX1_clear 7 = .ok (.putfield 15, 3) := by decide +kernel
theorem dX1_clear_10 : decode cX1_clear 10 = .ok (.aload_n 0, 1) := by decide +kernel
theorem dX1_clear_11 : decode cX1_clear 11 = .ok (.iconst 0, 1) := by decide +kernel
theorem dX1_clear_12 : decode cX1_clear 12 = .ok (.putfield 18, 3) := by decide +kernel
theorem dX1_clear_15 : decode cX1_clear 15 = .ok (.aload_n 0, 1) := by decide +kernel
theorem dX1_clear_16 : decode cX1_clear 16 = .ok (.iconst 0, 1) := by decide +kernel
theorem dX1_clear_17 : decode cX1_clear 17 = .ok (.putfield 21, 3) := by decide +kernel
theorem dX1_clear_20 : decode cX1_clear 20 = .ok (.return_, 1) := by decide +kernel
theorem dX1_offer_0 : decode cX1_offer 0 = .ok (.iload 4, 2) := by decide +kernel
theorem dX1_offer_2 : decode cX1_offer 2 = .ok (.aload_n 0, 1) := by decide +kernel
theorem dX1_offer_3 : decode cX1_offer 3 = .ok (.getfield 21, 3) := by decide +kernel
theorem dX1_offer_6 : decode cX1_offer 6 = .ok (.if_icmp .ne 31, 3) := by decide +kernel
theorem dX1_offer_9 : decode cX1_offer 9 = .ok (.iload_n 1, 1) := by decide +kernel
theorem dX1_offer_10 : decode cX1_offer 10 = .ok (.aload_n 0, 1) := by decide +kernel
theorem dX1_offer_11 : decode cX1_offer 11 = .ok (.getfield 9, 3) := by decide +kernel
theorem dX1_offer_14 : decode cX1_offer 14 = .ok (.if_icmp .ne 23, 3) := by decide +kernel
theorem dX1_offer_17 : decode cX1_offer 17 = .ok (.iload_n 2, 1) := by decide +kernel
theorem dX1_offer_18 : decode cX1_offer 18 = .ok (.aload_n 0, 1) := by decide +kernel
theorem dX1_offer_19 : decode cX1_offer 19 = .ok (.getfield 15, 3) := by decide +kernel
theorem dX1_offer_22 : decode cX1_offer 22 = .ok (.if_icmp .ne 15, 3) := by decide +kernel
theorem dX1_offer_25 : decode cX1_offer 25 = .ok (.iload_n 3, 1) := by decide +kernel
theorem dX1_offer_26 : decode cX1_offer 26 = .ok (.aload_n 0, 1) := by decide +kernel
theorem dX1_offer_27 : decode cX1_offer 27 = .ok (.getfield 18, 3) := by decide +kernel
theorem dX1_offer_30 : decode cX1_offer 30 = .ok (.if_icmp .ge 7, 3) := by decide +kernel
theorem dX1_offer_33 : decode cX1_offer 33 = .ok (.iconst 1, 1) := by decide +kernel
theorem dX1_offer_34 : decode cX1_offer 34 = .ok (.goto 4, 3) := by decide +kernel
theorem dX1_offer_37 : decode cX1_offer 37 = .ok (.iconst 0, 1) := by decide +kernel
theorem dX1_offer_38 : decode cX1_offer 38 = .ok (.istore 5, 2) := by decide +kernel
theorem dX1_offer_40 : decode cX1_offer 40 = .ok (.iload 4, 2) := by decide +kernel
theorem dX1_offer_42 : decode cX1_offer 42 = .ok (.aload_n 0, 1) := by decide +kernel
theorem dX1_offer_43 : decode cX1_offer 43 = .ok (.getfield 21, 3) := by decide +kernel
theorem dX1_offer_46 : decode cX1_offer 46 = .ok (.if_icmp .lt 8, 3) := by decide +kernel
theorem dX1_offer_49 : decode cX1_offer 49 = .ok (.iload 5, 2) := by decide +kernel
theorem dX1_offer_51 : decode cX1_offer 51 = .ok (.ifCond .eq 24, 3) := by decide +kernel
theorem dX1_offer_54 : decode cX1_offer 54 = .ok (.aload_n 0, 1) := by decide +kernel
theorem dX1_offer_55 : decode cX1_offer 55 = .ok (.iload_n 1, 1) := by decide +kernel
theorem dX1_offer_56 : decode cX1_offer 56 = .ok (.putfield 9, 3) := by decide +kernel
theorem dX1_offer_59 : decode cX1_offer 59 = .ok (.aload_n 0, 1) := by decide +kernel
theorem dX1_offer_60 : decode cX1_offer 60 = .ok (.iload_n 2, 1) := by decide +kernel
theorem dX1_offer_61 : decode cX1_offer 61 = .ok (.putfield 15, 3) := by decide +kernel
theorem dX1_offer_64 : decode cX1_offer 64 = .ok (.aload_n 0, 1) := by decide +kernel
theorem dX1_offer_65 : decode cX1_offer 65 = .ok (.iload_n 3, 1) := by decide +kernel
theorem dX1_offer_66 : decode cX1_offer 66 = .ok (.putfield 18, 3) := by decide +kernel
theorem dX1_offer_69 : decode cX1_offer 69 = .ok (.aload_n 0, 1) := by decide +kernel
theorem dX1_offer_70 : decode cX1_offer 70 = .ok (.iload 4, 2) := by decide +kernel
theorem dX1_offer_72 : decode cX1_offer 72 = .ok (.putfield 21, 3) := by decide +kernel
theorem dX1_offer_75 : decode cX1_offer 75 = .ok (.return_, 1) := by decide +kernel
theorem dX2_init_0 : decode cX2_init 0 = .ok (.aload_n 0, 1) := by decide +kernel
theorem dX2_init_1 : decode cX2_init 1 = .ok (.invokespecial 3, 3) := by decide +kernel
theorem dX2_init_4 : decode cX2_init 4 = .ok (.aload_n 0, 1) := by decide +kernel
theorem dX2_init_5 : decode cX2_init 5 = .ok (.bipush 40, 2) := by decide +kernel
theorem dX2_init_7 : decode cX2_init 7 = .ok (.newarray .int, 2) := by decide +kernel
theorem dX2_init_9 : decode cX2_init 9 = .ok (.putfield 9, 3) := by decide +kernel
theorem dX2_init_12 : decode cX2_init 12 = .ok (.aload_n 0, 1) := by decide +kernel
theorem dX2_init_13 : decode cX2_init 13 = .ok (.bipush 40, 2) := by decide +kernel
theorem dX2_init_15 : decode cX2_init 15 = .ok (.newarray .int, 2) := by decide +kernel
theorem dX2_init_17 : decode cX2_init 17 = .ok (.putfield 15, 3) := by decide +kernel
theorem dX2_init_20 : decode cX2_init 20 = .ok (.return_, 1) := by decide +kernel
theorem dX2_clear_0 : decode cX2_clear 0 = .ok (.aload_n 0, 1) := by decide +kernel
theorem dX2_clear_1 : decode cX2_clear 1 = .ok (.iconst 0, 1) := by decide +kernel
theorem dX2_clear_2 : decode cX2_clear 2 = .ok (.putfield 18, 3) := by decide +kernel
theorem dX2_clear_5 : decode cX2_clear 5 = .ok (.return_, 1) := by decide +kernel
theorem dX2_numberIn_0 : decode cX2_numberIn 0 = .ok (.iload_n 1, 1) := by decide +kernel
theorem dX2_numberIn_1 : decode cX2_numberIn 1 = .ok (.ifCond .lt 21, 3) := by decide +kernel
theorem dX2_numberIn_4 : decode cX2_numberIn 4 = .ok (.iload_n 1, 1) := by decide +kernel
theorem dX2_numberIn_5 : decode cX2_numberIn 5 = .ok (.aload_n 0, 1) := by decide +kernel
theorem dX2_numberIn_6 : decode cX2_numberIn 6 = .ok (.getfield 15, 3) := by decide +kernel
theorem dX2_numberIn_9 : decode cX2_numberIn 9 = .ok (.arraylength, 1) := by decide +kernel
theorem dX2_numberIn_10 : decode cX2_numberIn 10 = .ok (.if_icmp .ge 12, 3) := by decide +kernel
theorem dX2_numberIn_13 : decode cX2_numberIn 13 = .ok (.aload_n 0, 1) := by decide +kernel
theorem dX2_numberIn_14 : decode cX2_numberIn 14 = .ok (.getfield 15, 3) := by decide +kernel
theorem dX2_numberIn_17 : decode cX2_numberIn 17 = .ok (.iload_n 1, 1) := by decide +kernel
theorem dX2_numberIn_18 : decode cX2_numberIn 18 = .ok (.iaload, 1) := by decide +kernel
theorem dX2_numberIn_19 : decode cX2_numberIn 19 = .ok (.goto 4, 3) := by decide +kernel
theorem dX2_numberIn_22 : decode cX2_numberIn 22 = .ok (.iconst (-1), 1) := by decide +kernel
theorem dX2_numberIn_23 : decode cX2_numberIn 23 = .ok (.ireturn, 1) := by decide +kernel
theorem dX2_insert_0 : decode cX2_insert 0 = .ok (.aload_n 0, 1) := by decide +kernel
theorem dX2_insert_1 : decode cX2_insert 1 = .ok (.getfield 18, 3) := by decide +kernel
theorem dX2_insert_4 : decode cX2_insert 4 = .ok (.aload_n 0, 1) := by decide +kernel
theorem dX2_insert_5 : decode cX2_insert 5 = .ok (.getfield 9, 3) := by decide +kernel
theorem dX2_insert_8 : decode cX2_insert 8 = .ok (.arraylength, 1) := by decide +kernel
theorem dX2_insert_9 : decode cX2_insert 9 = .ok (.if_icmp .lt 4, 3) := by decide +kernel
theorem dX2_insert_12 : decode cX2_insert 12 = .ok (.return_, 1) := by decide +kernel
theorem dX2_insert_13 : decode cX2_insert 13 = .ok (.aload_n 0, 1) := by decide +kernel
theorem dX2_insert_14 : decode cX2_insert 14 = .ok (.getfield 18, 3) := by decide +kernel
theorem dX2_insert_17 : decode cX2_insert 17 = .ok (.istore_n 3, 1) := by decide +kernel
theorem dX2_insert_18 : decode cX2_insert 18 = .ok (.iload_n 3, 1) := by decide +kernel
theorem dX2_insert_19 : decode cX2_insert 19 = .ok (.ifCond .le 49, 3) := by decide +kernel
theorem dX2_insert_22 : decode cX2_insert 22 = .ok (.aload_n 0, 1) := by decide +kernel
theorem dX2_insert_23 : decode cX2_insert 23 = .ok (.getfield 9, 3) := by decide +kernel
theorem dX2_insert_26 : decode cX2_insert 26 = .ok (.iload_n 3, 1) := by decide +kernel
theorem dX2_insert_27 : decode cX2_insert 27 = .ok (.iconst 1, 1) := by decide +kernel
theorem dX2_insert_28 : decode cX2_insert 28 = .ok (.isub, 1) := by decide +kernel
theorem dX2_insert_29 : decode cX2_insert 29 = .ok (.iaload, 1) := by decide +kernel
theorem dX2_insert_30 : decode cX2_insert 30 = .ok (.iload_n 1, 1) := by decide +kernel
theorem dX2_insert_31 : decode cX2_insert 31 = .ok (.if_icmp .le 37, 3) := by decide +kernel
theorem dX2_insert_34 : decode cX2_insert 34 = .ok (.aload_n 0, 1) := by decide +kernel
theorem dX2_insert_35 : decode cX2_insert 35 = .ok (.getfield 9, 3) := by decide +kernel
theorem dX2_insert_38 : decode cX2_insert 38 = .ok (.iload_n 3, 1) := by decide +kernel
theorem dX2_insert_39 : decode cX2_insert 39 = .ok (.aload_n 0, 1) := by decide +kernel
theorem dX2_insert_40 : decode cX2_insert 40 = .ok (.getfield 9, 3) := by decide +kernel
theorem dX2_insert_43 : decode cX2_insert 43 = .ok (.iload_n 3, 1) := by decide +kernel
theorem dX2_insert_44 : decode cX2_insert 44 = .ok (.iconst 1, 1) := by decide +kernel
theorem dX2_insert_45 : decode cX2_insert 45 = .ok (.isub, 1) := by decide +kernel
theorem dX2_insert_46 : decode cX2_insert 46 = .ok (.iaload, 1) := by decide +kernel
theorem dX2_insert_47 : decode cX2_insert 47 = .ok (.iastore, 1) := by decide +kernel
theorem dX2_insert_48 : decode cX2_insert 48 = .ok (.aload_n 0, 1) := by decide +kernel
theorem dX2_insert_49 : decode cX2_insert 49 = .ok (.getfield 15, 3) := by decide +kernel
theorem dX2_insert_52 : decode cX2_insert 52 = .ok (.iload_n 3, 1) := by decide +kernel
theorem dX2_insert_53 : decode cX2_insert 53 = .ok (.aload_n 0, 1) := by decide +kernel
theorem dX2_insert_54 : decode cX2_insert 54 = .ok (.getfield 15, 3) := by decide +kernel
theorem dX2_insert_57 : decode cX2_insert 57 = .ok (.iload_n 3, 1) := by decide +kernel
theorem dX2_insert_58 : decode cX2_insert 58 = .ok (.iconst 1, 1) := by decide +kernel
theorem dX2_insert_59 : decode cX2_insert 59 = .ok (.isub, 1) := by decide +kernel
theorem dX2_insert_60 : decode cX2_insert 60 = .ok (.iaload, 1) := by decide +kernel
theorem dX2_insert_61 : decode cX2_insert 61 = .ok (.iastore, 1) := by decide +kernel
theorem dX2_insert_62 : decode cX2_insert 62 = .ok (.iinc 3 (-1), 3) := by decide +kernel
theorem dX2_insert_65 : decode cX2_insert 65 = .ok (.goto (-47), 3) := by decide +kernel
theorem dX2_insert_68 : decode cX2_insert 68 = .ok (.aload_n 0, 1) := by decide +kernel
theorem dX2_insert_69 : decode cX2_insert 69 = .ok (.getfield 9, 3) := by decide +kernel
theorem dX2_insert_72 : decode cX2_insert 72 = .ok (.iload_n 3, 1) := by decide +kernel
theorem dX2_insert_73 : decode cX2_insert 73 = .ok (.iload_n 1, 1) := by decide +kernel
theorem dX2_insert_74 : decode cX2_insert 74 = .ok (.iastore, 1) := by decide +kernel
theorem dX2_insert_75 : decode cX2_insert 75 = .ok (.aload_n 0, 1) := by decide +kernel
theorem dX2_insert_76 : decode cX2_insert 76 = .ok (.getfield 15, 3) := by decide +kernel
theorem dX2_insert_79 : decode cX2_insert 79 = .ok (.iload_n 3, 1) := by decide +kernel
theorem dX2_insert_80 : decode cX2_insert 80 = .ok (.iload_n 2, 1) := by decide +kernel
theorem dX2_insert_81 : decode cX2_insert 81 = .ok (.iastore, 1) := by decide +kernel
theorem dX2_insert_82 : decode cX2_insert 82 = .ok (.aload_n 0, 1) := by decide +kernel
theorem dX2_insert_83 : decode cX2_insert 83 = .ok (.dup, 1) := by decide +kernel
theorem dX2_insert_84 : decode cX2_insert 84 = .ok (.getfield 18, 3) := by decide +kernel
theorem dX2_insert_87 : decode cX2_insert 87 = .ok (.iconst 1, 1) := by decide +kernel
theorem dX2_insert_88 : decode cX2_insert 88 = .ok (.iadd, 1) := by decide +kernel
theorem dX2_insert_89 : decode cX2_insert 89 = .ok (.putfield 18, 3) := by decide +kernel
theorem dX2_insert_92 : decode cX2_insert 92 = .ok (.return_, 1) := by decide +kernel
theorem dX3_init_0 : decode cX3_init 0 = .ok (.aload_n 0, 1) := by decide +kernel
theorem dX3_init_1 : decode cX3_init 1 = .ok (.invokespecial 1, 3) := by decide +kernel
theorem dX3_init_4 : decode cX3_init 4 = .ok (.aload_n 0, 1) := by decide +kernel
theorem dX3_init_5 : decode cX3_init 5 = .ok (.sipush 270, 3) := by decide +kernel
theorem dX3_init_8 : decode cX3_init 8 = .ok (.putfield 7, 3) := by decide +kernel
theorem dX3_init_11 : decode cX3_init 11 = .ok (.aload_n 0, 1) := by decide +kernel
theorem dX3_init_12 : decode cX3_init 12 = .ok (.sipush 720, 3) := by decide +kernel
theorem dX3_init_15 : decode cX3_init 15 = .ok (.putfield 13, 3) := by decide +kernel
theorem dX3_init_18 : decode cX3_init 18 = .ok (.aload_n 0, 1) := by decide +kernel
theorem dX3_init_19 : decode cX3_init 19 = .ok (.bipush 30, 2) := by decide +kernel
theorem dX3_init_21 : decode cX3_init 21 = .ok (.putfield 16, 3) := by decide +kernel
theorem dX3_init_24 : decode cX3_init 24 = .ok (.aload_n 0, 1) := by decide +kernel
theorem dX3_init_25 : decode cX3_init 25 = .ok (.sipush 660, 3) := by decide +kernel
theorem dX3_init_28 : decode cX3_init 28 = .ok (.putfield 19, 3) := by decide +kernel
theorem dX3_init_31 : decode cX3_init 31 = .ok (.return_, 1) := by decide +kernel
theorem dX4_init_0 : decode cX4_init 0 = .ok (.aload_n 0, 1) := by decide +kernel
theorem dX4_init_1 : decode cX4_init 1 = .ok (.invokespecial 3, 3) := by decide +kernel
theorem dX4_init_4 : decode cX4_init 4 = .ok (.aload_n 0, 1) := by decide +kernel
theorem dX4_init_5 : decode cX4_init 5 = .ok (.bipush 6, 2) := by decide +kernel
theorem dX4_init_7 : decode cX4_init 7 = .ok (.bipush 6, 2) := by decide +kernel
theorem dX4_init_9 : decode cX4_init 9 = .ok (.multianewarray 9 2, 4) := by decide +kernel
theorem dX4_init_13 : decode cX4_init 13 = .ok (.putfield 11, 3) := by decide +kernel
theorem dX4_init_16 : decode cX4_init 16 = .ok (.aload_n 0, 1) := by decide +kernel
theorem dX4_init_17 : decode cX4_init 17 = .ok (.bipush 40, 2) := by decide +kernel
theorem dX4_init_19 : decode cX4_init 19 = .ok (.newarray .int, 2) := by decide +kernel
theorem dX4_init_21 : decode cX4_init 21 = .ok (.putfield 16, 3) := by decide +kernel
theorem dX4_init_24 : decode cX4_init 24 = .ok (.aload_n 0, 1) := by decide +kernel
theorem dX4_init_25 : decode cX4_init 25 = .ok (.bipush 40, 2) := by decide +kernel
theorem dX4_init_27 : decode cX4_init 27 = .ok (.newarray .int, 2) := by decide +kernel
theorem dX4_init_29 : decode cX4_init 29 = .ok (.putfield 20, 3) := by decide +kernel
theorem dX4_init_32 : decode cX4_init 32 = .ok (.aload_n 0, 1) := by decide +kernel
theorem dX4_init_33 : decode cX4_init 33 = .ok (.bipush 40, 2) := by decide +kernel
theorem dX4_init_35 : decode cX4_init 35 = .ok (.newarray .int, 2) := by decide +kernel
theorem dX4_init_37 : decode cX4_init 37 = .ok (.putfield 23, 3) := by decide +kernel
theorem dX4_init_40 : decode cX4_init 40 = .ok (.aload_n 0, 1) := by decide +kernel
theorem dX4_init_41 : decode cX4_init 41 = .ok (.bipush 40, 2) := by decide +kernel
theorem dX4_init_43 : decode cX4_init 43 = .ok (.newarray .int, 2) := by decide +kernel
theorem dX4_init_45 : decode cX4_init 45 = .ok (.putfield 26, 3) := by decide +kernel
theorem dX4_init_48 : decode cX4_init 48 = .ok (.iconst 0, 1) := by decide +kernel
theorem dX4_init_49 : decode cX4_init 49 = .ok (.istore_n 1, 1) := by decide +kernel
theorem dX4_init_50 : decode cX4_init 50 = .ok (.iload_n 1, 1) := by decide +kernel
theorem dX4_init_51 : decode cX4_init 51 = .ok (.bipush 6, 2) := by decide +kernel
theorem dX4_init_53 : decode cX4_init 53 = .ok (.if_icmp .ge 42, 3) := by decide +kernel
theorem dX4_init_56 : decode cX4_init 56 = .ok (.iconst 0, 1) := by decide +kernel
theorem dX4_init_57 : decode cX4_init 57 = .ok (.istore_n 2, 1) := by decide +kernel
theorem dX4_init_58 : decode cX4_init 58 = .ok (.iload_n 2, 1) := by decide +kernel
theorem dX4_init_59 : decode cX4_init 59 = .ok (.bipush 6, 2) := by decide +kernel
theorem dX4_init_61 : decode cX4_init 61 = .ok (.if_icmp .ge 28, 3) := by decide +kernel
theorem dX4_init_64 : decode cX4_init 64 = .ok (.aload_n 0, 1) := by decide +kernel
theorem dX4_init_65 : decode cX4_init 65 = .ok (.getfield 11, 3) := by decide +kernel
theorem dX4_init_68 : decode cX4_init 68 = .ok (.iload_n 1, 1) := by decide +kernel
theorem dX4_init_69 : decode cX4_init 69 = .ok (.aaload, 1) := by decide +kernel
theorem dX4_init_70 : decode cX4_init 70 = .ok (.iload_n 2, 1) := by decide +kernel
theorem dX4_init_71 : decode cX4_init 71 = .ok (.iload_n 1, 1) := by decide +kernel
theorem dX4_init_72 : decode cX4_init 72 = .ok (.iload_n 2, 1) := by decide +kernel
theorem dX4_init_73 : decode cX4_init 73 = .ok (.if_icmp .ne 7, 3) := by decide +kernel
theorem dX4_init_76 : decode cX4_init 76 = .ok (.iconst 0, 1) := by decide +kernel
theorem dX4_init_77 : decode cX4_init 77 = .ok (.goto 5, 3) := by decide +kernel
theorem dX4_init_80 : decode cX4_init 80 = .ok (.bipush 15, 2) := by decide +kernel
theorem dX4_init_82 : decode cX4_init 82 = .ok (.iastore, 1) := by decide +kernel
theorem dX4_init_83 : decode cX4_init 83 = .ok (.iinc 2 1, 3) := by decide +kernel
theorem dX4_init_86 : decode cX4_init 86 = .ok (.goto (-28), 3) := by decide +kernel
theorem dX4_init_89 : decode cX4_init 89 = .ok (.iinc 1 1, 3) := by decide +kernel
theorem dX4_init_92 : decode cX4_init 92 = .ok (.goto (-42), 3) := by decide +kernel
theorem dX4_init_95 : decode cX4_init 95 = .ok (.return_, 1) := by decide +kernel
theorem dX4_wayFrom_0 : decode cX4_wayFrom 0 = .ok (.iload_n 1, 1) := by decide +kernel
theorem dX4_wayFrom_1 : decode cX4_wayFrom 1 = .ok (.ifCond .lt 30, 3) := by decide +kernel
theorem dX4_wayFrom_4 : decode cX4_wayFrom 4 = .ok (.iload_n 1, 1) := by decide +kernel
theorem dX4_wayFrom_5 : decode cX4_wayFrom 5 = .ok (.bipush 6, 2) := by decide +kernel
theorem dX4_wayFrom_7 : decode cX4_wayFrom 7 = .ok (.if_icmp .ge 24, 3) := by decide +kernel
theorem dX4_wayFrom_10 : decode cX4_wayFrom 10 = .ok (.iload_n 2, 1) := by decide +kernel
theorem dX4_wayFrom_11 : decode cX4_wayFrom 11 = .ok (.ifCond .lt 20, 3) := by decide +kernel
theorem dX4_wayFrom_14 : decode cX4_wayFrom 14 = .ok (.iload_n 2, 1) := by decide +kernel
theorem dX4_wayFrom_15 : decode cX4_wayFrom 15 = .ok (.bipush 6, 2) := by decide +kernel
theorem dX4_wayFrom_17 : decode cX4_wayFrom 17 = .ok (.if_icmp .ge 14, 3) := by decide +kernel
theorem dX4_wayFrom_20 : decode cX4_wayFrom 20 = .ok (.aload_n 0, 1) := by decide +kernel
theorem dX4_wayFrom_21 : decode cX4_wayFrom 21 = .ok (.getfield 11, 3) := by decide +kernel
theorem dX4_wayFrom_24 : decode cX4_wayFrom 24 = .ok (.iload_n 1, 1) := by decide +kernel
theorem dX4_wayFrom_25 : decode cX4_wayFrom 25 = .ok (.aaload, 1) := by decide +kernel
theorem dX4_wayFrom_26 : decode cX4_wayFrom 26 = .ok (.iload_n 2, 1) := by decide +kernel
theorem dX4_wayFrom_27 : decode cX4_wayFrom 27 = .ok (.iaload, 1) := by decide +kernel
theorem dX4_wayFrom_28 : decode cX4_wayFrom 28 = .ok (.goto 4, 3) := by decide +kernel
theorem dX4_wayFrom_31 : decode cX4_wayFrom 31 = .ok (.iconst 0, 1) := by decide +kernel
theorem dX4_wayFrom_32 : decode cX4_wayFrom 32 = .ok (.ireturn, 1) := by decide +kernel
theorem dX4_append_0 : decode cX4_append 0 = .ok (.aload_n 0, 1) := by decide +kernel
theorem dX4_append_1 : decode cX4_append 1 = .ok (.getfield 29, 3) := by decide +kernel
theorem dX4_append_4 : decode cX4_append 4 = .ok (.bipush 40, 2) := by decide +kernel
theorem dX4_append_6 : decode cX4_append 6 = .ok (.if_icmp .lt 5, 3) := by decide +kernel
theorem dX4_append_9 : decode cX4_append 9 = .ok (.iconst (-1), 1) := by decide +kernel
theorem dX4_append_10 : decode cX4_append 10 = .ok (.ireturn, 1) := by decide +kernel
theorem dX4_append_11 : decode cX4_append 11 = .ok (.aload_n 0, 1) := by decide +kernel
theorem dX4_append_12 : decode cX4_append 12 = .ok (.getfield 16, 3) := by decide +kernel
theorem dX4_append_15 : decode cX4_append 15 = .ok (.aload_n 0, 1) := by decide +kernel
theorem dX4_append_16 : decode cX4_append 16 = .ok (.getfield 29, 3) := by decide +kernel
theorem dX4_append_19 : decode cX4_append 19 = .ok (.iload_n 1, 1) := by decide +kernel
theorem dX4_append_20 : decode cX4_append 20 = .ok (.iastore, 1) := by decide +kernel
theorem dX4_append_21 : decode cX4_append 21 = .ok (.aload_n 0, 1) := by decide +kernel
theorem dX4_append_22 : decode cX4_append 22 = .ok (.getfield 20, 3) := by decide +kernel
theorem dX4_append_25 : decode cX4_append 25 = .ok (.aload_n 0, 1) := by decide +kernel
theorem dX4_append_26 : decode cX4_append 26 = .ok (.getfield 29, 3) := by decide +kernel
theorem dX4_append_29 : decode cX4_append 29 = .ok (.iload_n 2, 1) := by decide +kernel
theorem dX4_append_30 : decode cX4_append 30 = .ok (.iastore, 1) := by decide +kernel
theorem dX4_append_31 : decode cX4_append 31 = .ok (.aload_n 0, 1) := by decide +kernel
theorem dX4_append_32 : decode cX4_append 32 = .ok (.getfield 23, 3) := by decide +kernel
theorem dX4_append_35 : decode cX4_append 35 = .ok (.aload_n 0, 1) := by decide +kernel
theorem dX4_append_36 : decode cX4_append 36 = .ok (.getfield 29, 3) := by decide +kernel
theorem dX4_append_39 : decode cX4_append 39 = .ok (.iload_n 3, 1) := by decide +kernel
theorem dX4_append_40 : decode cX4_append 40 = .ok (.iastore, 1) := by decide +kernel
theorem dX4_append_41 : decode cX4_append 41 = .ok (.aload_n 0, 1) := by decide +kernel
theorem dX4_append_42 : decode cX4_append 42 = .ok (.getfield 26, 3) := by decide +kernel
theorem dX4_append_45 : decode cX4_append 45 = .ok (.aload_n 0, 1) := by decide +kernel
theorem dX4_append_46 : decode cX4_append 46 = .ok (.getfield 29, 3) := by decide +kernel
theorem dX4_append_49 : decode cX4_append 49 = .ok (.iload 4, 2) := by decide +kernel
theorem dX4_append_51 : decode cX4_append 51 = .ok (.iastore, 1) := by decide +kernel
theorem dX4_append_52 : decode cX4_append 52 = .ok (.aload_n 0, 1) := by decide +kernel
theorem dX4_append_53 : decode cX4_append 53 = .ok (.dup, 1) := by decide +kernel
theorem dX4_append_54 : decode cX4_append 54 = .ok (.getfield 29, 3) := by decide +kernel
theorem dX4_append_57 : decode cX4_append 57 = .ok (.dup_x1, 1) := by decide +kernel
theorem dX4_append_58 : decode cX4_append 58 = .ok (.iconst 1, 1) := by decide +kernel
theorem dX4_append_59 : decode cX4_append 59 = .ok (.iadd, 1) := by decide +kernel
theorem dX4_append_60 : decode cX4_append 60 = .ok (.putfield 29, 3) := by decide +kernel
theorem dX4_append_63 : decode cX4_append 63 = .ok (.ireturn, 1) := by decide +kernel
theorem dX4_fromOf_0 : decode cX4_fromOf 0 = .ok (.iload_n 1, 1) := by decide +kernel
theorem dX4_fromOf_1 : decode cX4_fromOf 1 = .ok (.ifCond .lt 21, 3) := by decide +kernel
theorem dX4_fromOf_4 : decode cX4_fromOf 4 = .ok (.iload_n 1, 1) := by decide +kernel
theorem dX4_fromOf_5 : decode cX4_fromOf 5 = .ok (.aload_n 0, 1) := by decide +kernel
theorem dX4_fromOf_6 : decode cX4_fromOf 6 = .ok (.getfield 16, 3) := by decide +kernel
theorem dX4_fromOf_9 : decode cX4_fromOf 9 = .ok (.arraylength, 1) := by decide +kernel
theorem dX4_fromOf_10 : decode cX4_fromOf 10 = .ok (.if_icmp .ge 12, 3) := by decide +kernel
theorem dX4_fromOf_13 : decode cX4_fromOf 13 = .ok (.aload_n 0, 1) := by decide +kernel
theorem dX4_fromOf_14 : decode cX4_fromOf 14 = .ok (.getfield 16, 3) := by decide +kernel
theorem dX4_fromOf_17 : decode cX4_fromOf 17 = .ok (.iload_n 1, 1) := by decide +kernel
theorem dX4_fromOf_18 : decode cX4_fromOf 18 = .ok (.iaload, 1) := by decide +kernel
theorem dX4_fromOf_19 : decode cX4_fromOf 19 = .ok (.goto 4, 3) := by decide +kernel
theorem dX4_fromOf_22 : decode cX4_fromOf 22 = .ok (.iconst 0, 1) := by decide +kernel
theorem dX4_fromOf_23 : decode cX4_fromOf 23 = .ok (.ireturn, 1) := by decide +kernel
theorem dX4_toOf_0 : decode cX4_toOf 0 = .ok (.iload_n 1, 1) := by decide +kernel
theorem dX4_toOf_1 : decode cX4_toOf 1 = .ok (.ifCond .lt 21, 3) := by decide +kernel
theorem dX4_toOf_4 : decode cX4_toOf 4 = .ok (.iload_n 1, 1) := by decide +kernel
theorem dX4_toOf_5 : decode cX4_toOf 5 = .ok (.aload_n 0, 1) := by decide +kernel
theorem dX4_toOf_6 : decode cX4_toOf 6 = .ok (.getfield 20, 3) := by decide +kernel
theorem dX4_toOf_9 : decode cX4_toOf 9 = .ok (.arraylength, 1) := by decide +kernel
theorem dX4_toOf_10 : decode cX4_toOf 10 = .ok (.if_icmp .ge 12, 3) := by decide +kernel
theorem dX4_toOf_13 : decode cX4_toOf 13 = .ok (.aload_n 0, 1) := by decide +kernel
theorem dX4_toOf_14 : decode cX4_toOf 14 = .ok (.getfield 20, 3) := by decide +kernel
theorem dX4_toOf_17 : decode cX4_toOf 17 = .ok (.iload_n 1, 1) := by decide +kernel
theorem dX4_toOf_18 : decode cX4_toOf 18 = .ok (.iaload, 1) := by decide +kernel
theorem dX4_toOf_19 : decode cX4_toOf 19 = .ok (.goto 4, 3) := by decide +kernel
theorem dX4_toOf_22 : decode cX4_toOf 22 = .ok (.iconst 0, 1) := by decide +kernel
theorem dX4_toOf_23 : decode cX4_toOf 23 = .ok (.ireturn, 1) := by decide +kernel
theorem dX4_departureOf_0 : decode cX4_departureOf 0 = .ok (.iload_n 1, 1) := by decide +kernel
theorem dX4_departureOf_1 : decode cX4_departureOf 1 = .ok (.ifCond .lt 21, 3) := by decide +kernel
theorem dX4_departureOf_4 : decode cX4_departureOf 4 = .ok (.iload_n 1, 1) := by decide +kernel
theorem dX4_departureOf_5 : decode cX4_departureOf 5 = .ok (.aload_n 0, 1) := by decide +kernel
theorem dX4_departureOf_6 : decode cX4_departureOf 6 = .ok (.getfield 23, 3) := by decide +kernel
theorem dX4_departureOf_9 : decode cX4_departureOf 9 = .ok (.arraylength, 1) := by decide +kernel
theorem dX4_departureOf_10 : decode cX4_departureOf 10 = .ok (.if_icmp .ge 12, 3) := by decide +kernel
theorem dX4_departureOf_13 : decode cX4_departureOf 13 = .ok (.aload_n 0, 1) := by decide +kernel
theorem dX4_departureOf_14 : decode cX4_departureOf 14 = .ok (.getfield 23, 3) := by decide +kernel
theorem dX4_departureOf_17 : decode cX4_departureOf 17 = .ok (.iload_n 1, 1) := by decide +kernel
theorem dX4_departureOf_18 : decode cX4_departureOf 18 = .ok (.iaload, 1) := by decide +kernel
theorem dX4_departureOf_19 : decode cX4_departureOf 19 = .ok (.goto 4, 3) := by decide +kernel
theorem dX4_departureOf_22 : decode cX4_departureOf 22 = .ok (.iconst 0, 1) := by decide +kernel
theorem dX4_departureOf_23 : decode cX4_departureOf 23 = .ok (.ireturn, 1) := by decide +kernel
theorem dX4_arrivalOf_0 : decode cX4_arrivalOf 0 = .ok (.iload_n 1, 1) := by decide +kernel
theorem dX4_arrivalOf_1 : decode cX4_arrivalOf 1 = .ok (.ifCond .lt 21, 3) := by decide +kernel
theorem dX4_arrivalOf_4 : decode cX4_arrivalOf 4 = .ok (.iload_n 1, 1) := by decide +kernel
theorem dX4_arrivalOf_5 : decode cX4_arrivalOf 5 = .ok (.aload_n 0, 1) := by decide +kernel
theorem dX4_arrivalOf_6 : decode cX4_arrivalOf 6 = .ok (.getfield 26, 3) := by decide +kernel
theorem dX4_arrivalOf_9 : decode cX4_arrivalOf 9 = .ok (.arraylength, 1) := by decide +kernel
theorem dX4_arrivalOf_10 : decode cX4_arrivalOf 10 = .ok (.if_icmp .ge 12, 3) := by decide +kernel
theorem dX4_arrivalOf_13 : decode cX4_arrivalOf 13 = .ok (.aload_n 0, 1) := by decide +kernel
theorem dX4_arrivalOf_14 : decode cX4_arrivalOf 14 = .ok (.getfield 26, 3) := by decide +kernel
theorem dX4_arrivalOf_17 : decode cX4_arrivalOf 17 = .ok (.iload_n 1, 1) := by decide +kernel
theorem dX4_arrivalOf_18 : decode cX4_arrivalOf 18 = .ok (.iaload, 1) := by decide +kernel
theorem dX4_arrivalOf_19 : decode cX4_arrivalOf 19 = .ok (.goto 4, 3) := by decide +kernel
theorem dX4_arrivalOf_22 : decode cX4_arrivalOf 22 = .ok (.iconst 0, 1) := by decide +kernel
theorem dX4_arrivalOf_23 : decode cX4_arrivalOf 23 = .ok (.ireturn, 1) := by decide +kernel
theorem dX4_minutesOf_0 : decode cX4_minutesOf 0 = .ok (.iload_n 1, 1) := by decide +kernel
theorem dX4_minutesOf_1 : decode cX4_minutesOf 1 = .ok (.ifCond .lt 37, 3) := by decide +kernel
theorem dX4_minutesOf_4 : decode cX4_minutesOf 4 = .ok (.iload_n 1, 1) := by decide +kernel
theorem dX4_minutesOf_5 : decode cX4_minutesOf 5 = .ok (.aload_n 0, 1) := by decide +kernel
theorem dX4_minutesOf_6 : decode cX4_minutesOf 6 = .ok (.getfield 23, 3) := by decide +kernel
theorem dX4_minutesOf_9 : decode cX4_minutesOf 9 = .ok (.arraylength, 1) := by decide +kernel
theorem dX4_minutesOf_10 : decode cX4_minutesOf 10 = .ok (.if_icmp .ge 28, 3) := by decide +kernel
theorem dX4_minutesOf_13 : decode cX4_minutesOf 13 = .ok (.iload_n 1, 1) := by decide +kernel
theorem dX4_minutesOf_14 : decode cX4_minutesOf 14 = .ok (.aload_n 0, 1) := by decide +kernel
theorem dX4_minutesOf_15 : decode cX4_minutesOf 15 = .ok (.getfield 26, 3) := by decide +kernel
theorem dX4_minutesOf_18 : decode cX4_minutesOf 18 = .ok (.arraylength, 1) := by decide +kernel
theorem dX4_minutesOf_19 : decode cX4_minutesOf 19 = .ok (.if_icmp .ge 19, 3) := by decide +kernel
theorem dX4_minutesOf_22 : decode cX4_minutesOf 22 = .ok (.aload_n 0, 1) := by decide +kernel
theorem dX4_minutesOf_23 : decode cX4_minutesOf 23 = .ok (.getfield 26, 3) := by decide +kernel
theorem dX4_minutesOf_26 : decode cX4_minutesOf 26 = .ok (.iload_n 1, 1) := by decide +kernel
theorem dX4_minutesOf_27 : decode cX4_minutesOf 27 = .ok (.iaload, 1) := by decide +kernel
theorem dX4_minutesOf_28 : decode cX4_minutesOf 28 = .ok (.aload_n 0, 1) := by decide +kernel
theorem dX4_minutesOf_29 : decode cX4_minutesOf 29 = .ok (.getfield 23, 3) := by decide +kernel
theorem dX4_minutesOf_32 : decode cX4_minutesOf 32 = .ok (.iload_n 1, 1) := by decide +kernel
theorem dX4_minutesOf_33 : decode cX4_minutesOf 33 = .ok (.iaload, 1) := by decide +kernel
theorem dX4_minutesOf_34 : decode cX4_minutesOf 34 = .ok (.isub, 1) := by decide +kernel
theorem dX4_minutesOf_35 : decode cX4_minutesOf 35 = .ok (.goto 4, 3) := by decide +kernel
theorem dX4_minutesOf_38 : decode cX4_minutesOf 38 = .ok (.iconst 0, 1) := by decide +kernel
theorem dX4_minutesOf_39 : decode cX4_minutesOf 39 = .ok (.ireturn, 1) := by decide +kernel
theorem dL_below_0 : decode cL_below 0 = .ok (.iload_n 0, 1) := by decide +kernel
theorem dL_below_1 : decode cL_below 1 = .ok (.ldc 7, 2) := by decide +kernel
theorem dL_below_3 : decode cL_below 3 = .ok (.iand, 1) := by decide +kernel
theorem dL_below_4 : decode cL_below 4 = .ok (.iload_n 1, 1) := by decide +kernel
theorem dL_below_5 : decode cL_below 5 = .ok (.irem, 1) := by decide +kernel
theorem dL_below_6 : decode cL_below 6 = .ok (.ireturn, 1) := by decide +kernel
theorem dL_cell_0 : decode cL_cell 0 = .ok (.iload_n 1, 1) := by decide +kernel
theorem dL_cell_1 : decode cL_cell 1 = .ok (.aload_n 0, 1) := by decide +kernel
theorem dL_cell_2 : decode cL_cell 2 = .ok (.arraylength, 1) := by decide +kernel
theorem dL_cell_3 : decode cL_cell 3 = .ok (.if_icmp .ge 9, 3) := by decide +kernel
theorem dL_cell_6 : decode cL_cell 6 = .ok (.aload_n 0, 1) := by decide +kernel
theorem dL_cell_7 : decode cL_cell 7 = .ok (.iload_n 1, 1) := by decide +kernel
theorem dL_cell_8 : decode cL_cell 8 = .ok (.iaload, 1) := by decide +kernel
theorem dL_cell_9 : decode cL_cell 9 = .ok (.goto 9, 3) := by decide +kernel
theorem dL_cell_12 : decode cL_cell 12 = .ok (.ldc 8, 2) := by decide +kernel
theorem dL_cell_14 : decode cL_cell 14 = .ok (.iload_n 1, 1) := by decide +kernel
theorem dL_cell_15 : decode cL_cell 15 = .ok (.iconst 3, 1) := by decide +kernel
theorem dL_cell_16 : decode cL_cell 16 = .ok (.iadd, 1) := by decide +kernel
theorem dL_cell_17 : decode cL_cell 17 = .ok (.imul, 1) := by decide +kernel
theorem dL_cell_18 : decode cL_cell 18 = .ok (.ireturn, 1) := by decide +kernel
theorem dL_trips_0 : decode cL_trips 0 = .ok (.iconst 0, 1) := by decide +kernel
theorem dL_trips_1 : decode cL_trips 1 = .ok (.istore 5, 2) := by decide +kernel
theorem dL_trips_3 : decode cL_trips 3 = .ok (.iload 5, 2) := by decide +kernel
theorem dL_trips_5 : decode cL_trips 5 = .ok (.iload_n 3, 1) := by decide +kernel
theorem dL_trips_6 : decode cL_trips 6 = .ok (.if_icmp .ge 173, 3) := by decide +kernel
theorem dL_trips_9 : decode cL_trips 9 = .ok (.aload_n 1, 1) := by decide +kernel
theorem dL_trips_10 : decode cL_trips 10 = .ok (.iload_n 2, 1) := by decide +kernel
theorem dL_trips_11 : decode cL_trips 11 = .ok (.iload 5, 2) := by decide +kernel
theorem dL_trips_13 : decode cL_trips 13 = .ok (.bipush 6, 2) := by decide +kernel
theorem dL_trips_15 : decode cL_trips 15 = .ok (.irem, 1) := by decide +kernel
theorem dL_trips_16 : decode cL_trips 16 = .ok (.iadd, 1) := by decide +kernel
theorem dL_trips_17 : decode cL_trips 17 = .ok (.invokestatic 9, 3) := by decide +kernel
theorem dL_trips_20 : decode cL_trips 20 = .ok (.iload 5, 2) := by decide +kernel
theorem dL_trips_22 : decode cL_trips 22 = .ok (.bipush 6, 2) := by decide +kernel
theorem dL_trips_24 : decode cL_trips 24 = .ok (.idiv, 1) := by decide +kernel
theorem dL_trips_25 : decode cL_trips 25 = .ok (.iconst 4, 1) := by decide +kernel
theorem dL_trips_26 : decode cL_trips 26 = .ok (.imul, 1) := by decide +kernel
theorem dL_trips_27 : decode cL_trips 27 = .ok (.ishr, 1) := by decide +kernel
theorem dL_trips_28 : decode cL_trips 28 = .ok (.iload 5, 2) := by decide +kernel
theorem dL_trips_30 : decode cL_trips 30 = .ok (.sipush 911, 3) := by decide +kernel
theorem dL_trips_33 : decode cL_trips 33 = .ok (.imul, 1) := by decide +kernel
theorem dL_trips_34 : decode cL_trips 34 = .ok (.ixor, 1) := by decide +kernel
theorem dL_trips_35 : decode cL_trips 35 = .ok (.istore 6, 2) := by decide +kernel
theorem dL_trips_37 : decode cL_trips 37 = .ok (.aload 4, 2) := by decide +kernel
theorem dL_trips_39 : decode cL_trips 39 = .ok (.iconst 4, 1) := by decide +kernel
theorem dL_trips_40 : decode cL_trips 40 = .ok (.iload 5, 2) := by decide +kernel
theorem dL_trips_42 : decode cL_trips 42 = .ok (.imul, 1) := by decide +kernel
theorem dL_trips_43 : decode cL_trips 43 = .ok (.iload 6, 2) := by decide +kernel
theorem dL_trips_45 : decode cL_trips 45 = .ok (.iconst 3, 1) := by decide +kernel
theorem dL_trips_46 : decode cL_trips 46 = .ok (.invokestatic 15, 3) := by decide +kernel
theorem dL_trips_49 : decode cL_trips 49 = .ok (.iastore, 1) := by decide +kernel
theorem dL_trips_50 : decode cL_trips 50 = .ok (.aload 4, 2) := by decide +kernel
theorem dL_trips_52 : decode cL_trips 52 = .ok (.iconst 4, 1) := by decide +kernel
theorem dL_trips_53 : decode cL_trips 53 = .ok (.iload 5, 2) := by decide +kernel
theorem dL_trips_55 : decode cL_trips 55 = .ok (.imul, 1) := by decide +kernel
theorem dL_trips_56 : decode cL_trips 56 = .ok (.iconst 1, 1) := by decide +kernel
theorem dL_trips_57 : decode cL_trips 57 = .ok (.iadd, 1) := by decide +kernel
theorem dL_trips_58 : decode cL_trips 58 = .ok (.iload 6, 2) := by decide +kernel
theorem dL_trips_60 : decode cL_trips 60 = .ok (.iconst 3, 1) := by decide +kernel
theorem dL_trips_61 : decode cL_trips 61 = .ok (.ishr, 1) := by decide +kernel
theorem dL_trips_62 : decode cL_trips 62 = .ok (.iconst 3, 1) := by decide +kernel
theorem dL_trips_63 : decode cL_trips 63 = .ok (.invokestatic 15, 3) := by decide +kernel
theorem dL_trips_66 : decode cL_trips 66 = .ok (.iastore, 1) := by decide +kernel
theorem dL_trips_67 : decode cL_trips 67 = .ok (.aload 4, 2) := by decide +kernel
theorem dL_trips_69 : decode cL_trips 69 = .ok (.iconst 4, 1) := by decide +kernel
theorem dL_trips_70 : decode cL_trips 70 = .ok (.iload 5, 2) := by decide +kernel
theorem dL_trips_72 : decode cL_trips 72 = .ok (.imul, 1) := by decide +kernel
theorem dL_trips_73 : decode cL_trips 73 = .ok (.iconst 2, 1) := by decide +kernel
theorem dL_trips_74 : decode cL_trips 74 = .ok (.iadd, 1) := by decide +kernel
theorem dL_trips_75 : decode cL_trips 75 = .ok (.sipush 300, 3) := by decide +kernel
theorem dL_trips_78 : decode cL_trips 78 = .ok (.bipush 20, 2) := by decide +kernel
theorem dL_trips_80 : decode cL_trips 80 = .ok (.iload 6, 2) := by decide +kernel
theorem dL_trips_82 : decode cL_trips 82 = .ok (.bipush 6, 2) := by decide +kernel
theorem dL_trips_84 : decode cL_trips 84 = .ok (.ishr, 1) := by decide +kernel
theorem dL_trips_85 : decode cL_trips 85 = .ok (.bipush 30, 2) := by decide +kernel
theorem dL_trips_87 : decode cL_trips 87 = .ok (.invokestatic 15, 3) := by decide +kernel
theorem dL_trips_90 : decode cL_trips 90 = .ok (.imul, 1) := by decide +kernel
theorem dL_trips_91 : decode cL_trips 91 = .ok (.iadd, 1) := by decide +kernel
theorem dL_trips_92 : decode cL_trips 92 = .ok (.iastore, 1) := by decide +kernel
theorem dL_trips_93 : decode cL_trips 93 = .ok (.aload 4, 2) := by decide +kernel
theorem dL_trips_95 : decode cL_trips 95 = .ok (.iconst 4, 1) := by decide +kernel
theorem dL_trips_96 : decode cL_trips 96 = .ok (.iload 5, 2) := by decide +kernel
theorem dL_trips_98 : decode cL_trips 98 = .ok (.imul, 1) := by decide +kernel
theorem dL_trips_99 : decode cL_trips 99 = .ok (.iconst 3, 1) := by decide +kernel
theorem dL_trips_100 : decode cL_trips 100 = .ok (.iadd, 1) := by decide +kernel
theorem dL_trips_101 : decode cL_trips 101 = .ok (.aload 4, 2) := by decide +kernel
theorem dL_trips_103 : decode cL_trips 103 = .ok (.iconst 4, 1) := by decide +kernel
theorem dL_trips_104 : decode cL_trips 104 = .ok (.iload 5, 2) := by decide +kernel
theorem dL_trips_106 : decode cL_trips 106 = .ok (.imul, 1) := by decide +kernel
theorem dL_trips_107 : decode cL_trips 107 = .ok (.iconst 2, 1) := by decide +kernel
theorem dL_trips_108 : decode cL_trips 108 = .ok (.iadd, 1) := by decide +kernel
theorem dL_trips_109 : decode cL_trips 109 = .ok (.iaload, 1) := by decide +kernel
theorem dL_trips_110 : decode cL_trips 110 = .ok (.bipush 10, 2) := by decide +kernel
theorem dL_trips_112 : decode cL_trips 112 = .ok (.iadd, 1) := by decide +kernel
theorem dL_trips_113 : decode cL_trips 113 = .ok (.bipush 10, 2) := by decide +kernel
theorem dL_trips_115 : decode cL_trips 115 = .ok (.iload 6, 2) := by decide +kernel
theorem dL_trips_117 : decode cL_trips 117 = .ok (.bipush 12, 2) := by decide +kernel
theorem dL_trips_119 : decode cL_trips 119 = .ok (.ishr, 1) := by decide +kernel
theorem dL_trips_120 : decode cL_trips 120 = .ok (.bipush 12, 2) := by decide +kernel
theorem dL_trips_122 : decode cL_trips 122 = .ok (.invokestatic 15, 3) := by decide +kernel
theorem dL_trips_125 : decode cL_trips 125 = .ok (.imul, 1) := by decide +kernel
theorem dL_trips_126 : decode cL_trips 126 = .ok (.iadd, 1) := by decide +kernel
theorem dL_trips_127 : decode cL_trips 127 = .ok (.iastore, 1) := by decide +kernel
theorem dL_trips_128 : decode cL_trips 128 = .ok (.aload_n 0, 1) := by decide +kernel
theorem dL_trips_129 : decode cL_trips 129 = .ok (.aload 4, 2) := by decide +kernel
theorem dL_trips_131 : decode cL_trips 131 = .ok (.iconst 4, 1) := by decide +kernel
theorem dL_trips_132 : decode cL_trips 132 = .ok (.iload 5, 2) := by decide +kernel
theorem dL_trips_134 : decode cL_trips 134 = .ok (.imul, 1) := by decide +kernel
theorem dL_trips_135 : decode cL_trips 135 = .ok (.iaload, 1) := by decide +kernel
theorem dL_trips_136 : decode cL_trips 136 = .ok (.aload 4, 2) := by decide +kernel
theorem dL_trips_138 : decode cL_trips 138 = .ok (.iconst 4, 1) := by decide +kernel
theorem dL_trips_139 : decode cL_trips 139 = .ok (.iload 5, 2) := by decide +kernel
theorem dL_trips_141 : decode cL_trips 141 = .ok (.imul, 1) := by decide +kernel
theorem dL_trips_142 : decode cL_trips 142 = .ok (.iconst 1, 1) := by decide +kernel
theorem dL_trips_143 : decode cL_trips 143 = .ok (.iadd, 1) := by decide +kernel
theorem dL_trips_144 : decode cL_trips 144 = .ok (.iaload, 1) := by decide +kernel
theorem dL_trips_145 : decode cL_trips 145 = .ok (.aload 4, 2) := by decide +kernel
theorem dL_trips_147 : decode cL_trips 147 = .ok (.iconst 4, 1) := by decide +kernel
theorem dL_trips_148 : decode cL_trips 148 = .ok (.iload 5, 2) := by decide +kernel
theorem dL_trips_150 : decode cL_trips 150 = .ok (.imul, 1) := by decide +kernel
theorem dL_trips_151 : decode cL_trips 151 = .ok (.iconst 2, 1) := by decide +kernel
theorem dL_trips_152 : decode cL_trips 152 = .ok (.iadd, 1) := by decide +kernel
theorem dL_trips_153 : decode cL_trips 153 = .ok (.iaload, 1) := by decide +kernel
theorem dL_trips_154 : decode cL_trips 154 = .ok (.aload 4, 2) := by decide +kernel
theorem dL_trips_156 : decode cL_trips 156 = .ok (.iconst 4, 1) := by decide +kernel
theorem dL_trips_157 : decode cL_trips 157 = .ok (.iload 5, 2) := by decide +kernel
theorem dL_trips_159 : decode cL_trips 159 = .ok (.imul, 1) := by decide +kernel
theorem dL_trips_160 : decode cL_trips 160 = .ok (.iconst 3, 1) := by decide +kernel
theorem dL_trips_161 : decode cL_trips 161 = .ok (.iadd, 1) := by decide +kernel
theorem dL_trips_162 : decode cL_trips 162 = .ok (.iaload, 1) := by decide +kernel
theorem dL_trips_163 : decode cL_trips 163 = .ok (.invokevirtual 19, 3) := by decide +kernel
theorem dL_trips_166 : decode cL_trips 166 = .ok (.iload 5, 2) := by decide +kernel
theorem dL_trips_168 : decode cL_trips 168 = .ok (.if_icmp .eq 5, 3) := by decide +kernel
theorem dL_trips_171 : decode cL_trips 171 = .ok (.iconst (-1), 1) := by decide +kernel
theorem dL_trips_172 : decode cL_trips 172 = .ok (.ireturn, 1) := by decide +kernel
theorem dL_trips_173 : decode cL_trips 173 = .ok (.iinc 5 1, 3) := by decide +kernel
theorem dL_trips_176 : decode cL_trips 176 = .ok (.goto (-173), 3) := by decide +kernel
theorem dL_trips_179 : decode cL_trips 179 = .ok (.iload_n 3, 1) := by decide +kernel
theorem dL_trips_180 : decode cL_trips 180 = .ok (.ireturn, 1) := by decide +kernel
