theorem dX7_init_0 : decode cX7_init 0 = .ok (.aload_n 0, 1) := by decide +kernel
theorem dX7_init_1 : decode cX7_init 1 = .ok (.invokespecial 1, 3) := by decide +kernel
theorem dX7_init_4 : decode cX7_init 4 = .ok (.aload_n 0, 1) := by decide +kernel
theorem dX7_init_5 : decode cX7_init 5 = .ok (.bipush 8, 2) := by decide +kernel
theorem dX7_init_7 : decode cX7_init 7 = .ok (.newarray .int, 2) := by decide +kernel
theorem dX7_init_9 : decode cX7_init 9 = .ok (.putfield 7, 3) := by decide +kernel
theorem dX7_init_12 : decode cX7_init 12 = .ok (.aload_n 0, 1) := by decide +kernel
theorem dX7_init_13 : decode cX7_init 13 = .ok (.bipush 8, 2) := by decide +kernel
theorem dX7_init_15 : decode cX7_init 15 = .ok (.newarray .int, 2) := by decide +kernel
theorem dX7_init_17 : decode cX7_init 17 = .ok (.putfield 13, 3) := by decide +kernel
theorem dX7_init_20 : decode cX7_init 20 = .ok (.aload_n 0, 1) := by decide +kernel
theorem dX7_init_21 : decode cX7_init 21 = .ok (.sipush 320, 3) := by decide +kernel
theorem dX7_init_24 : decode cX7_init 24 = .ok (.newarray .int, 2) := by decide +kernel
theorem dX7_init_26 : decode cX7_init 26 = .ok (.putfield 16, 3) := by decide +kernel
theorem dX7_init_29 : decode cX7_init 29 = .ok (.aload_n 0, 1) := by decide +kernel
theorem dX7_init_30 : decode cX7_init 30 = .ok (.bipush 40, 2) := by decide +kernel
theorem dX7_init_32 : decode cX7_init 32 = .ok (.newarray .int, 2) := by decide +kernel
theorem dX7_init_34 : decode cX7_init 34 = .ok (.putfield 19, 3) := by decide +kernel
theorem dX7_init_37 : decode cX7_init 37 = .ok (.aload_n 0, 1) := by decide +kernel
theorem dX7_init_38 : decode cX7_init 38 = .ok (.bipush 120, 2) := by decide +kernel
theorem dX7_init_40 : decode cX7_init 40 = .ok (.newarray .int, 2) := by decide +kernel
theorem dX7_init_42 : decode cX7_init 42 = .ok (.putfield 22, 3) := by decide +kernel
theorem dX7_init_45 : decode cX7_init 45 = .ok (.aload_n 0, 1) := by decide +kernel
theorem dX7_init_46 : decode cX7_init 46 = .ok (.bipush 71, 2) := by decide +kernel
theorem dX7_init_48 : decode cX7_init 48 = .ok (.newarray .int, 2) := by decide +kernel
theorem dX7_init_50 : decode cX7_init 50 = .ok (.putfield 25, 3) := by decide +kernel
theorem dX7_init_53 : decode cX7_init 53 = .ok (.aload_n 0, 1) := by decide +kernel
theorem dX7_init_54 : decode cX7_init 54 = .ok (.bipush 71, 2) := by decide +kernel
theorem dX7_init_56 : decode cX7_init 56 = .ok (.newarray .int, 2) := by decide +kernel
theorem dX7_init_58 : decode cX7_init 58 = .ok (.putfield 28, 3) := by decide +kernel
theorem dX7_init_61 : decode cX7_init 61 = .ok (.aload_n 0, 1) := by decide +kernel
theorem dX7_init_62 : decode cX7_init 62 = .ok (.sipush 1704, 3) := by decide +kernel
theorem dX7_init_65 : decode cX7_init 65 = .ok (.newarray .int, 2) := by decide +kernel
theorem dX7_init_67 : decode cX7_init 67 = .ok (.putfield 31, 3) := by decide +kernel
theorem dX7_init_70 : decode cX7_init 70 = .ok (.aload_n 0, 1) := by decide +kernel
theorem dX7_init_71 : decode cX7_init 71 = .ok (.sipush 142, 3) := by decide +kernel
theorem dX7_init_74 : decode cX7_init 74 = .ok (.newarray .int, 2) := by decide +kernel
theorem dX7_init_76 : decode cX7_init 76 = .ok (.putfield 34, 3) := by decide +kernel
theorem dX7_init_79 : decode cX7_init 79 = .ok (.aload_n 0, 1) := by decide +kernel
theorem dX7_init_80 : decode cX7_init 80 = .ok (.iconst 2, 1) := by decide +kernel
theorem dX7_init_81 : decode cX7_init 81 = .ok (.newarray .boolean, 2) := by decide +kernel
theorem dX7_init_83 : decode cX7_init 83 = .ok (.putfield 37, 3) := by decide +kernel
theorem dX7_init_86 : decode cX7_init 86 = .ok (.aload_n 0, 1) := by decide +kernel
theorem dX7_init_87 : decode cX7_init 87 = .ok (.bipush 16, 2) := by decide +kernel
theorem dX7_init_89 : decode cX7_init 89 = .ok (.newarray .int, 2) := by decide +kernel
theorem dX7_init_91 : decode cX7_init 91 = .ok (.putfield 41, 3) := by decide +kernel
theorem dX7_init_94 : decode cX7_init 94 = .ok (.aload_n 0, 1) := by decide +kernel
theorem dX7_init_95 : decode cX7_init 95 = .ok (.sipush 256, 3) := by decide +kernel
theorem dX7_init_98 : decode cX7_init 98 = .ok (.newarray .int, 2) := by decide +kernel
theorem dX7_init_100 : decode cX7_init 100 = .ok (.putfield 44, 3) := by decide +kernel
theorem dX7_init_103 : decode cX7_init 103 = .ok (.aload_n 0, 1) := by decide +kernel
theorem dX7_init_104 : decode cX7_init 104 = .ok (.sipush 256, 3) := by decide +kernel
theorem dX7_init_107 : decode cX7_init 107 = .ok (.newarray .int, 2) := by decide +kernel
theorem dX7_init_109 : decode cX7_init 109 = .ok (.putfield 47, 3) := by decide +kernel
theorem dX7_init_112 : decode cX7_init 112 = .ok (.aload_n 0, 1) := by decide +kernel
theorem dX7_init_113 : decode cX7_init 113 = .ok (.bipush 8, 2) := by decide +kernel
theorem dX7_init_115 : decode cX7_init 115 = .ok (.newarray .int, 2) := by decide +kernel
theorem dX7_init_117 : decode cX7_init 117 = .ok (.putfield 50, 3) := by decide +kernel
theorem dX7_init_120 : decode cX7_init 120 = .ok (.iconst 0, 1) := by decide +kernel
theorem dX7_init_121 : decode cX7_init 121 = .ok (.istore_n 1, 1) := by decide +kernel
theorem dX7_init_122 : decode cX7_init 122 = .ok (.iload_n 1, 1) := by decide +kernel
theorem dX7_init_123 : decode cX7_init 123 = .ok (.bipush 8, 2) := by decide +kernel
theorem dX7_init_125 : decode cX7_init 125 = .ok (.if_icmp .ge 17, 3) := by decide +kernel
theorem dX7_init_128 : decode cX7_init 128 = .ok (.aload_n 0, 1) := by decide +kernel
theorem dX7_init_129 : decode cX7_init 129 = .ok (.getfield 7, 3) := by decide +kernel
theorem dX7_init_132 : decode cX7_init 132 = .ok (.iload_n 1, 1) := by decide +kernel
theorem dX7_init_133 : decode cX7_init 133 = .ok (.ldc 53, 2) := by decide +kernel
theorem dX7_init_135 : decode cX7_init 135 = .ok (.iastore, 1) := by decide +kernel
theorem dX7_init_136 : decode cX7_init 136 = .ok (.iinc 1 1, 3) := by decide +kernel
theorem dX7_init_139 : decode cX7_init 139 = .ok (.goto (-17), 3) := by decide +kernel
theorem dX7_init_142 : decode cX7_init 142 = .ok (.aload_n 0, 1) := by decide +kernel
theorem dX7_init_143 : decode cX7_init 143 = .ok (.getfield 25, 3) := by decide +kernel
theorem dX7_init_146 : decode cX7_init 146 = .ok (.iconst 3, 1) := by decide +kernel
theorem dX7_init_147 : decode cX7_init 147 = .ok (.iconst (-1), 1) := by decide +kernel
theorem dX7_init_148 : decode cX7_init 148 = .ok (.iastore, 1) := by decide +kernel
theorem dX7_init_149 : decode cX7_init 149 = .ok (.return_, 1) := by decide +kernel
theorem dX7_in_0 : decode cX7_in 0 = .ok (.iload_n 0, 1) := by decide +kernel
theorem dX7_in_1 : decode cX7_in 1 = .ok (.iload_n 1, 1) := by decide +kernel
theorem dX7_in_2 : decode cX7_in 2 = .ok (.if_icmp .lt 12, 3) := by decide +kernel
theorem dX7_in_5 : decode cX7_in 5 = .ok (.iload_n 0, 1) := by decide +kernel
theorem dX7_in_6 : decode cX7_in 6 = .ok (.iload_n 2, 1) := by decide +kernel
theorem dX7_in_7 : decode cX7_in 7 = .ok (.if_icmp .gt 7, 3) := by decide +kernel
theorem dX7_in_10 : decode cX7_in 10 = .ok (.iconst 1, 1) := by decide +kernel
theorem dX7_in_11 : decode cX7_in 11 = .ok (.goto 4, 3) := by decide +kernel
theorem dX7_in_14 : decode cX7_in 14 = .ok (.iconst 0, 1) := by decide +kernel
theorem dX7_in_15 : decode cX7_in 15 = .ok (.ireturn, 1) := by decide +kernel
theorem dX7_has_0 : decode cX7_has 0 = .ok (.iload_n 0, 1) := by decide +kernel
theorem dX7_has_1 : decode cX7_has 1 = .ok (.iload_n 1, 1) := by decide +kernel
theorem dX7_has_2 : decode cX7_has 2 = .ok (.ishr, 1) := by decide +kernel
theorem dX7_has_3 : decode cX7_has 3 = .ok (.iconst 1, 1) := by decide +kernel
theorem dX7_has_4 : decode cX7_has 4 = .ok (.iand, 1) := by decide +kernel
theorem dX7_has_5 : decode cX7_has 5 = .ok (.iconst 1, 1) := by decide +kernel
theorem dX7_has_6 : decode cX7_has 6 = .ok (.if_icmp .ne 7, 3) := by decide +kernel
theorem dX7_has_9 : decode cX7_has 9 = .ok (.iconst 1, 1) := by decide +kernel
theorem dX7_has_10 : decode cX7_has 10 = .ok (.goto 4, 3) := by decide +kernel
theorem dX7_has_13 : decode cX7_has 13 = .ok (.iconst 0, 1) := by decide +kernel
theorem dX7_has_14 : decode cX7_has 14 = .ok (.ireturn, 1) := by decide +kernel
theorem dX7_ones_0 : decode cX7_ones 0 = .ok (.iconst 0, 1) := by decide +kernel
theorem dX7_ones_1 : decode cX7_ones 1 = .ok (.istore_n 1, 1) := by decide +kernel
theorem dX7_ones_2 : decode cX7_ones 2 = .ok (.iconst 0, 1) := by decide +kernel
theorem dX7_ones_3 : decode cX7_ones 3 = .ok (.istore_n 2, 1) := by decide +kernel
theorem dX7_ones_4 : decode cX7_ones 4 = .ok (.iload_n 2, 1) := by decide +kernel
theorem dX7_ones_5 : decode cX7_ones 5 = .ok (.bipush 8, 2) := by decide +kernel
theorem dX7_ones_7 : decode cX7_ones 7 = .ok (.if_icmp .ge 17, 3) := by decide +kernel
theorem dX7_ones_10 : decode cX7_ones 10 = .ok (.iload_n 1, 1) := by decide +kernel
theorem dX7_ones_11 : decode cX7_ones 11 = .ok (.iload_n 0, 1) := by decide +kernel
theorem dX7_ones_12 : decode cX7_ones 12 = .ok (.iload_n 2, 1) := by decide +kernel
theorem dX7_ones_13 : decode cX7_ones 13 = .ok (.ishr, 1) := by decide +kernel
theorem dX7_ones_14 : decode cX7_ones 14 = .ok (.iconst 1, 1) := by decide +kernel
theorem dX7_ones_15 : decode cX7_ones 15 = .ok (.iand, 1) := by decide +kernel
theorem dX7_ones_16 : decode cX7_ones 16 = .ok (.iadd, 1) := by decide +kernel
theorem dX7_ones_17 : decode cX7_ones 17 = .ok (.istore_n 1, 1) := by decide +kernel
theorem dX7_ones_18 : decode cX7_ones 18 = .ok (.iinc 2 1, 3) := by decide +kernel
theorem dX7_ones_21 : decode cX7_ones 21 = .ok (.goto (-17), 3) := by decide +kernel
theorem dX7_ones_24 : decode cX7_ones 24 = .ok (.iload_n 1, 1) := by decide +kernel
theorem dX7_ones_25 : decode cX7_ones 25 = .ok (.ireturn, 1) := by decide +kernel
theorem dX7_found_0 : decode cX7_found 0 = .ok (.aload_n 0, 1) := by decide +kernel
theorem dX7_found_1 : decode cX7_found 1 = .ok (.iload_n 1, 1) := by decide +kernel
theorem dX7_found_2 : decode cX7_found 2 = .ok (.putfield 54, 3) := by decide +kernel
theorem dX7_found_5 : decode cX7_found 5 = .ok (.ldc 58, 2) := by decide +kernel
theorem dX7_found_7 : decode cX7_found 7 = .ok (.iload_n 1, 1) := by decide +kernel
theorem dX7_found_8 : decode cX7_found 8 = .ok (.isub, 1) := by decide +kernel
theorem dX7_found_9 : decode cX7_found 9 = .ok (.ireturn, 1) := by decide +kernel
theorem dX7_well_0 : decode cX7_well 0 = .ok (.aload_n 0, 1) := by decide +kernel
theorem dX7_well_1 : decode cX7_well 1 = .ok (.iconst 0, 1) := by decide +kernel
theorem dX7_well_2 : decode cX7_well 2 = .ok (.putfield 54, 3) := by decide +kernel
theorem dX7_well_5 : decode cX7_well 5 = .ok (.iload_n 1, 1) := by decide +kernel
theorem dX7_well_6 : decode cX7_well 6 = .ok (.ireturn, 1) := by decide +kernel
theorem dX7_copies_0 : decode cX7_copies 0 = .ok (.iconst 0, 1) := by decide +kernel
theorem dX7_copies_1 : decode cX7_copies 1 = .ok (.istore 4, 2) := by decide +kernel
theorem dX7_copies_3 : decode cX7_copies 3 = .ok (.iload 4, 2) := by decide +kernel
theorem dX7_copies_5 : decode cX7_copies 5 = .ok (.bipush 71, 2) := by decide +kernel
theorem dX7_copies_7 : decode cX7_copies 7 = .ok (.if_icmp .ge 21, 3) := by decide +kernel
theorem dX7_copies_10 : decode cX7_copies 10 = .ok (.aload_n 2, 1) := by decide +kernel
theorem dX7_copies_11 : decode cX7_copies 11 = .ok (.iload_n 3, 1) := by decide +kernel
theorem dX7_copies_12 : decode cX7_copies 12 = .ok (.iload 4, 2) := by decide +kernel
theorem dX7_copies_14 : decode cX7_copies 14 = .ok (.iadd, 1) := by decide +kernel
theorem dX7_copies_15 : decode cX7_copies 15 = .ok (.aload_n 0, 1) := by decide +kernel
theorem dX7_copies_16 : decode cX7_copies 16 = .ok (.iload_n 1, 1) := by decide +kernel
theorem dX7_copies_17 : decode cX7_copies 17 = .ok (.iload 4, 2) := by decide +kernel
theorem dX7_copies_19 : decode cX7_copies 19 = .ok (.iadd, 1) := by decide +kernel
theorem dX7_copies_20 : decode cX7_copies 20 = .ok (.iaload, 1) := by decide +kernel
theorem dX7_copies_21 : decode cX7_copies 21 = .ok (.iastore, 1) := by decide +kernel
theorem dX7_copies_22 : decode cX7_copies 22 = .ok (.iinc 4 1, 3) := by decide +kernel
theorem dX7_copies_25 : decode cX7_copies 25 = .ok (.goto (-22), 3) := by decide +kernel
theorem dX7_copies_28 : decode cX7_copies 28 = .ok (.return_, 1) := by decide +kernel
theorem dX7_isRow_0 : decode cX7_isRow 0 = .ok (.iload_n 0, 1) := by decide +kernel
theorem dX7_isRow_1 : decode cX7_isRow 1 = .ok (.iconst 0, 1) := by decide +kernel
theorem dX7_isRow_2 : decode cX7_isRow 2 = .ok (.bipush 7, 2) := by decide +kernel
theorem dX7_isRow_4 : decode cX7_isRow 4 = .ok (.invokestatic 59, 3) := by decide +kernel
theorem dX7_isRow_7 : decode cX7_isRow 7 = .ok (.ireturn, 1) := by decide +kernel
theorem dX7_isMissing_0 : decode cX7_isMissing 0 = .ok (.aload_n 0, 1) := by decide +kernel
theorem dX7_isMissing_1 : decode cX7_isMissing 1 = .ok (.getfield 7, 3) := by decide +kernel
theorem dX7_isMissing_4 : decode cX7_isMissing 4 = .ok (.iload_n 1, 1) := by decide +kernel
theorem dX7_isMissing_5 : decode cX7_isMissing 5 = .ok (.iaload, 1) := by decide +kernel
theorem dX7_isMissing_6 : decode cX7_isMissing 6 = .ok (.ldc 53, 2) := by decide +kernel
theorem dX7_isMissing_8 : decode cX7_isMissing 8 = .ok (.if_icmp .ne 7, 3) := by decide +kernel
theorem dX7_isMissing_11 : decode cX7_isMissing 11 = .ok (.iconst 1, 1) := by decide +kernel
theorem dX7_isMissing_12 : decode cX7_isMissing 12 = .ok (.goto 4, 3) := by decide +kernel
theorem dX7_isMissing_15 : decode cX7_isMissing 15 = .ok (.iconst 0, 1) := by decide +kernel
theorem dX7_isMissing_16 : decode cX7_isMissing 16 = .ok (.ireturn, 1) := by decide +kernel
theorem dX7_cut_0 : decode cX7_cut 0 = .ok (.iload_n 0, 1) := by decide +kernel
theorem dX7_cut_1 : decode cX7_cut 1 = .ok (.ifCond .ne 13, 3) := by decide +kernel
theorem dX7_cut_4 : decode cX7_cut 4 = .ok (.iload_n 1, 1) := by decide +kernel
theorem dX7_cut_5 : decode cX7_cut 5 = .ok (.bipush 24, 2) := by decide +kernel
theorem dX7_cut_7 : decode cX7_cut 7 = .ok (.ishl, 1) := by decide +kernel
theorem dX7_cut_8 : decode cX7_cut 8 = .ok (.bipush 24, 2) := by decide +kernel
theorem dX7_cut_10 : decode cX7_cut 10 = .ok (.ishr, 1) := by decide +kernel
theorem dX7_cut_11 : decode cX7_cut 11 = .ok (.goto 19, 3) := by decide +kernel
theorem dX7_cut_14 : decode cX7_cut 14 = .ok (.iload_n 0, 1) := by decide +kernel
theorem dX7_cut_15 : decode cX7_cut 15 = .ok (.iconst 1, 1) := by decide +kernel
theorem dX7_cut_16 : decode cX7_cut 16 = .ok (.if_icmp .ne 13, 3) := by decide +kernel
theorem dX7_cut_19 : decode cX7_cut 19 = .ok (.iload_n 1, 1) := by decide +kernel
theorem dX7_cut_20 : decode cX7_cut 20 = .ok (.bipush 16, 2) := by decide +kernel
theorem dX7_cut_22 : decode cX7_cut 22 = .ok (.ishl, 1) := by decide +kernel
theorem dX7_cut_23 : decode cX7_cut 23 = .ok (.bipush 16, 2) := by decide +kernel
theorem dX7_cut_25 : decode cX7_cut 25 = .ok (.ishr, 1) := by decide +kernel
theorem dX7_cut_26 : decode cX7_cut 26 = .ok (.goto 4, 3) := by decide +kernel
theorem dX7_cut_29 : decode cX7_cut 29 = .ok (.iload_n 1, 1) := by decide +kernel
theorem dX7_cut_30 : decode cX7_cut 30 = .ok (.ireturn, 1) := by decide +kernel
theorem dX7_row_0 : decode cX7_row 0 = .ok (.iload_n 1, 1) := by decide +kernel
theorem dX7_row_1 : decode cX7_row 1 = .ok (.invokestatic 63, 3) := by decide +kernel
theorem dX7_row_4 : decode cX7_row 4 = .ok (.ifCond .eq 18, 3) := by decide +kernel
theorem dX7_row_7 : decode cX7_row 7 = .ok (.iload_n 2, 1) := by decide +kernel
theorem dX7_row_8 : decode cX7_row 8 = .ok (.iconst 0, 1) := by decide +kernel
theorem dX7_row_9 : decode cX7_row 9 = .ok (.iconst 2, 1) := by decide +kernel
theorem dX7_row_10 : decode cX7_row 10 = .ok (.invokestatic 59, 3) := by decide +kernel
theorem dX7_row_13 : decode cX7_row 13 = .ok (.ifCond .eq 9, 3) := by decide +kernel
theorem dX7_row_16 : decode cX7_row 16 = .ok (.iload_n 3, 1) := by decide +kernel
theorem dX7_row_17 : decode cX7_row 17 = .ok (.bipush 40, 2) := by decide +kernel
theorem dX7_row_19 : decode cX7_row 19 = .ok (.if_icmp .le 6, 3) := by decide +kernel
theorem dX7_row_22 : decode cX7_row 22 = .ok (.ldc 67, 2) := by decide +kernel
theorem dX7_row_24 : decode cX7_row 24 = .ok (.ireturn, 1) := by decide +kernel
theorem dX7_row_25 : decode cX7_row 25 = .ok (.iload_n 3, 1) := by decide +kernel
theorem dX7_row_26 : decode cX7_row 26 = .ok (.ifCond .ge 9, 3) := by decide +kernel
theorem dX7_row_29 : decode cX7_row 29 = .ok (.aload_n 0, 1) := by decide +kernel
theorem dX7_row_30 : decode cX7_row 30 = .ok (.iconst 4, 1) := by decide +kernel
theorem dX7_row_31 : decode cX7_row 31 = .ok (.invokevirtual 68, 3) := by decide +kernel
theorem dX7_row_34 : decode cX7_row 34 = .ok (.ireturn, 1) := by decide +kernel
theorem dX7_row_35 : decode cX7_row 35 = .ok (.aload_n 0, 1) := by decide +kernel
theorem dX7_row_36 : decode cX7_row 36 = .ok (.getfield 7, 3) := by decide +kernel
theorem dX7_row_39 : decode cX7_row 39 = .ok (.iload_n 1, 1) := by decide +kernel
theorem dX7_row_40 : decode cX7_row 40 = .ok (.iload_n 2, 1) := by decide +kernel
theorem dX7_row_41 : decode cX7_row 41 = .ok (.iastore, 1) := by decide +kernel
theorem dX7_row_42 : decode cX7_row 42 = .ok (.aload_n 0, 1) := by decide +kernel
theorem dX7_row_43 : decode cX7_row 43 = .ok (.getfield 13, 3) := by decide +kernel
theorem dX7_row_46 : decode cX7_row 46 = .ok (.iload_n 1, 1) := by decide +kernel
theorem dX7_row_47 : decode cX7_row 47 = .ok (.iload_n 3, 1) := by decide +kernel
theorem dX7_row_48 : decode cX7_row 48 = .ok (.iastore, 1) := by decide +kernel
theorem dX7_row_49 : decode cX7_row 49 = .ok (.iconst 0, 1) := by decide +kernel
theorem dX7_row_50 : decode cX7_row 50 = .ok (.istore 4, 2) := by decide +kernel
theorem dX7_row_52 : decode cX7_row 52 = .ok (.iload 4, 2) := by decide +kernel
theorem dX7_row_54 : decode cX7_row 54 = .ok (.bipush 40, 2) := by decide +kernel
theorem dX7_row_56 : decode cX7_row 56 = .ok (.if_icmp .ge 22, 3) := by decide +kernel
theorem dX7_row_59 : decode cX7_row 59 = .ok (.aload_n 0, 1) := by decide +kernel
theorem dX7_row_60 : decode cX7_row 60 = .ok (.getfield 16, 3) := by decide +kernel
theorem dX7_row_63 : decode cX7_row 63 = .ok (.bipush 40, 2) := by decide +kernel
theorem dX7_row_65 : decode cX7_row 65 = .ok (.iload_n 1, 1) := by decide +kernel
theorem dX7_row_66 : decode cX7_row 66 = .ok (.imul, 1) := by decide +kernel
theorem dX7_row_67 : decode cX7_row 67 = .ok (.iload 4, 2) := by decide +kernel
theorem dX7_row_69 : decode cX7_row 69 = .ok (.iadd, 1) := by decide +kernel
theorem dX7_row_70 : decode cX7_row 70 = .ok (.iconst 0, 1) := by decide +kernel
theorem dX7_row_71 : decode cX7_row 71 = .ok (.iastore, 1) := by decide +kernel
theorem dX7_row_72 : decode cX7_row 72 = .ok (.iinc 4 1, 3) := by decide +kernel
theorem dX7_row_75 : decode cX7_row 75 = .ok (.goto (-23), 3) := by decide +kernel
theorem dX7_row_78 : decode cX7_row 78 = .ok (.aload_n 0, 1) := by decide +kernel
theorem dX7_row_79 : decode cX7_row 79 = .ok (.iload_n 3, 1) := by decide +kernel
theorem dX7_row_80 : decode cX7_row 80 = .ok (.invokevirtual 72, 3) := by decide +kernel
theorem dX7_row_83 : decode cX7_row 83 = .ok (.ireturn, 1) := by decide +kernel
theorem dX7_set_0 : decode cX7_set 0 = .ok (.iload_n 1, 1) := by decide +kernel
theorem dX7_set_1 : decode cX7_set 1 = .ok (.invokestatic 63, 3) := by decide +kernel
theorem dX7_set_4 : decode cX7_set 4 = .ok (.ifCond .ne 6, 3) := by decide +kernel
theorem dX7_set_7 : decode cX7_set 7 = .ok (.ldc 67, 2) := by decide +kernel
theorem dX7_set_9 : decode cX7_set 9 = .ok (.ireturn, 1) := by decide +kernel
theorem dX7_set_10 : decode cX7_set 10 = .ok (.aload_n 0, 1) := by decide +kernel
theorem dX7_set_11 : decode cX7_set 11 = .ok (.iload_n 1, 1) := by decide +kernel
theorem dX7_set_12 : decode cX7_set 12 = .ok (.invokevirtual 75, 3) := by decide +kernel
theorem dX7_set_15 : decode cX7_set 15 = .ok (.ifCond .eq 9, 3) := by decide +kernel
theorem dX7_set_18 : decode cX7_set 18 = .ok (.aload_n 0, 1) := by decide +kernel
theorem dX7_set_19 : decode cX7_set 19 = .ok (.iconst 1, 1) := by decide +kernel
theorem dX7_set_20 : decode cX7_set 20 = .ok (.invokevirtual 68, 3) := by decide +kernel
theorem dX7_set_23 : decode cX7_set 23 = .ok (.ireturn, 1) := by decide +kernel
theorem dX7_set_24 : decode cX7_set 24 = .ok (.iload_n 2, 1) := by decide +kernel
theorem dX7_set_25 : decode cX7_set 25 = .ok (.iconst 0, 1) := by decide +kernel
theorem dX7_set_26 : decode cX7_set 26 = .ok (.aload_n 0, 1) := by decide +kernel
theorem dX7_set_27 : decode cX7_set 27 = .ok (.getfield 13, 3) := by decide +kernel
theorem dX7_set_30 : decode cX7_set 30 = .ok (.iload_n 1, 1) := by decide +kernel
theorem dX7_set_31 : decode cX7_set 31 = .ok (.iaload, 1) := by decide +kernel
theorem dX7_set_32 : decode cX7_set 32 = .ok (.iconst 1, 1) := by decide +kernel
theorem dX7_set_33 : decode cX7_set 33 = .ok (.isub, 1) := by decide +kernel
theorem dX7_set_34 : decode cX7_set 34 = .ok (.invokestatic 59, 3) := by decide +kernel
theorem dX7_set_37 : decode cX7_set 37 = .ok (.ifCond .ne 9, 3) := by decide +kernel
theorem dX7_set_40 : decode cX7_set 40 = .ok (.aload_n 0, 1) := by decide +kernel
theorem dX7_set_41 : decode cX7_set 41 = .ok (.iconst 2, 1) := by decide +kernel
theorem dX7_set_42 : decode cX7_set 42 = .ok (.invokevirtual 68, 3) := by decide +kernel
theorem dX7_set_45 : decode cX7_set 45 = .ok (.ireturn, 1) := by decide +kernel
theorem dX7_set_46 : decode cX7_set 46 = .ok (.aload_n 0, 1) := by decide +kernel
theorem dX7_set_47 : decode cX7_set 47 = .ok (.getfield 16, 3) := by decide +kernel
theorem dX7_set_50 : decode cX7_set 50 = .ok (.bipush 40, 2) := by decide +kernel
theorem dX7_set_52 : decode cX7_set 52 = .ok (.iload_n 1, 1) := by decide +kernel
theorem dX7_set_53 : decode cX7_set 53 = .ok (.imul, 1) := by decide +kernel
theorem dX7_set_54 : decode cX7_set 54 = .ok (.iload_n 2, 1) := by decide +kernel
theorem dX7_set_55 : decode cX7_set 55 = .ok (.iadd, 1) := by decide +kernel
theorem dX7_set_56 : decode cX7_set 56 = .ok (.aload_n 0, 1) := by decide +kernel
theorem dX7_set_57 : decode cX7_set 57 = .ok (.getfield 7, 3) := by decide +kernel
theorem dX7_set_60 : decode cX7_set 60 = .ok (.iload_n 1, 1) := by decide +kernel
theorem dX7_set_61 : decode cX7_set 61 = .ok (.iaload, 1) := by decide +kernel
theorem dX7_set_62 : decode cX7_set 62 = .ok (.iload_n 3, 1) := by decide +kernel
theorem dX7_set_63 : decode cX7_set 63 = .ok (.invokestatic 78, 3) := by decide +kernel
theorem dX7_set_66 : decode cX7_set 66 = .ok (.iastore, 1) := by decide +kernel
theorem dX7_set_67 : decode cX7_set 67 = .ok (.aload_n 0, 1) := by decide +kernel
theorem dX7_set_68 : decode cX7_set 68 = .ok (.aload_n 0, 1) := by decide +kernel
theorem dX7_set_69 : decode cX7_set 69 = .ok (.getfield 16, 3) := by decide +kernel
theorem dX7_set_72 : decode cX7_set 72 = .ok (.bipush 40, 2) := by decide +kernel
theorem dX7_set_74 : decode cX7_set 74 = .ok (.iload_n 1, 1) := by decide +kernel
theorem dX7_set_75 : decode cX7_set 75 = .ok (.imul, 1) := by decide +kernel
theorem dX7_set_76 : decode cX7_set 76 = .ok (.iload_n 2, 1) := by decide +kernel
theorem dX7_set_77 : decode cX7_set 77 = .ok (.iadd, 1) := by decide +kernel
theorem dX7_set_78 : decode cX7_set 78 = .ok (.iaload, 1) := by decide +kernel
theorem dX7_set_79 : decode cX7_set 79 = .ok (.invokevirtual 72, 3) := by decide +kernel
theorem dX7_set_82 : decode cX7_set 82 = .ok (.ireturn, 1) := by decide +kernel
theorem dX7_isPart_0 : decode cX7_isPart 0 = .ok (.iload_n 2, 1) := by decide +kernel
theorem dX7_isPart_1 : decode cX7_isPart 1 = .ok (.ifCond .lt 33, 3) := by decide +kernel
theorem dX7_isPart_4 : decode cX7_isPart 4 = .ok (.iload_n 3, 1) := by decide +kernel
theorem dX7_isPart_5 : decode cX7_isPart 5 = .ok (.ifCond .lt 29, 3) := by decide +kernel
theorem dX7_isPart_8 : decode cX7_isPart 8 = .ok (.iload_n 2, 1) := by decide +kernel
theorem dX7_isPart_9 : decode cX7_isPart 9 = .ok (.aload_n 0, 1) := by decide +kernel
theorem dX7_isPart_10 : decode cX7_isPart 10 = .ok (.getfield 13, 3) := by decide +kernel
theorem dX7_isPart_13 : decode cX7_isPart 13 = .ok (.iload_n 1, 1) := by decide +kernel
theorem dX7_isPart_14 : decode cX7_isPart 14 = .ok (.iaload, 1) := by decide +kernel
theorem dX7_isPart_15 : decode cX7_isPart 15 = .ok (.if_icmp .gt 19, 3) := by decide +kernel
theorem dX7_isPart_18 : decode cX7_isPart 18 = .ok (.iload_n 3, 1) := by decide +kernel
theorem dX7_isPart_19 : decode cX7_isPart 19 = .ok (.aload_n 0, 1) := by decide +kernel
theorem dX7_isPart_20 : decode cX7_isPart 20 = .ok (.getfield 13, 3) := by decide +kernel
theorem dX7_isPart_23 : decode cX7_isPart 23 = .ok (.iload_n 1, 1) := by decide +kernel
theorem dX7_isPart_24 : decode cX7_isPart 24 = .ok (.iaload, 1) := by decide +kernel
theorem dX7_isPart_25 : decode cX7_isPart 25 = .ok (.iload_n 2, 1) := by decide +kernel
theorem dX7_isPart_26 : decode cX7_isPart 26 = .ok (.isub, 1) := by decide +kernel
theorem dX7_isPart_27 : decode cX7_isPart 27 = .ok (.if_icmp .gt 7, 3) := by decide +kernel
theorem dX7_isPart_30 : decode cX7_isPart 30 = .ok (.iconst 1, 1) := by decide +kernel
theorem dX7_isPart_31 : decode cX7_isPart 31 = .ok (.goto 4, 3) := by decide +kernel
theorem dX7_isPart_34 : decode cX7_isPart 34 = .ok (.iconst 0, 1) := by decide +kernel
theorem dX7_isPart_35 : decode cX7_isPart 35 = .ok (.ireturn, 1) := by decide +kernel
theorem dX7_copy_0 : decode cX7_copy 0 = .ok (.iload_n 1, 1) := by decide +kernel
theorem dX7_copy_1 : decode cX7_copy 1 = .ok (.invokestatic 63, 3) := by decide +kernel
theorem dX7_copy_4 : decode cX7_copy 4 = .ok (.ifCond .eq 10, 3) := by decide +kernel
theorem dX7_copy_7 : decode cX7_copy 7 = .ok (.iload_n 3, 1) := by decide +kernel
theorem dX7_copy_8 : decode cX7_copy 8 = .ok (.invokestatic 63, 3) := by decide +kernel
theorem dX7_copy_11 : decode cX7_copy 11 = .ok (.ifCond .ne 6, 3) := by decide +kernel
theorem dX7_copy_14 : decode cX7_copy 14 = .ok (.ldc 67, 2) := by decide +kernel
theorem dX7_copy_16 : decode cX7_copy 16 = .ok (.ireturn, 1) := by decide +kernel
theorem dX7_copy_17 : decode cX7_copy 17 = .ok (.aload_n 0, 1) := by decide +kernel
theorem dX7_copy_18 : decode cX7_copy 18 = .ok (.iload_n 1, 1) := by decide +kernel
theorem dX7_copy_19 : decode cX7_copy 19 = .ok (.invokevirtual 75, 3) := by decide +kernel
theorem dX7_copy_22 : decode cX7_copy 22 = .ok (.ifCond .ne 11, 3) := by decide +kernel
theorem dX7_copy_25 : decode cX7_copy 25 = .ok (.aload_n 0, 1) := by decide +kernel
theorem dX7_copy_26 : decode cX7_copy 26 = .ok (.iload_n 3, 1) := by decide +kernel
theorem dX7_copy_27 : decode cX7_copy 27 = .ok (.invokevirtual 75, 3) := by decide +kernel
theorem dX7_copy_30 : decode cX7_copy 30 = .ok (.ifCond .eq 9, 3) := by decide +kernel
theorem dX7_copy_33 : decode cX7_copy 33 = .ok (.aload_n 0, 1) := by decide +kernel
theorem dX7_copy_34 : decode cX7_copy 34 = .ok (.iconst 1, 1) := by decide +kernel
theorem dX7_copy_35 : decode cX7_copy 35 = .ok (.invokevirtual 68, 3) := by decide +kernel
theorem dX7_copy_38 : decode cX7_copy 38 = .ok (.ireturn, 1) := by decide +kernel
theorem dX7_copy_39 : decode cX7_copy 39 = .ok (.aload_n 0, 1) := by decide +kernel
theorem dX7_copy_40 : decode cX7_copy 40 = .ok (.getfield 7, 3) := by decide +kernel
theorem dX7_copy_43 : decode cX7_copy 43 = .ok (.iload_n 1, 1) := by decide +kernel
theorem dX7_copy_44 : decode cX7_copy 44 = .ok (.iaload, 1) := by decide +kernel
theorem dX7_copy_45 : decode cX7_copy 45 = .ok (.aload_n 0, 1) := by decide +kernel
theorem dX7_copy_46 : decode cX7_copy 46 = .ok (.getfield 7, 3) := by decide +kernel
theorem dX7_copy_49 : decode cX7_copy 49 = .ok (.iload_n 3, 1) := by decide +kernel
theorem dX7_copy_50 : decode cX7_copy 50 = .ok (.iaload, 1) := by decide +kernel
theorem dX7_copy_51 : decode cX7_copy 51 = .ok (.if_icmp .eq 9, 3) := by decide +kernel
theorem dX7_copy_54 : decode cX7_copy 54 = .ok (.aload_n 0, 1) := by decide +kernel
theorem dX7_copy_55 : decode cX7_copy 55 = .ok (.iconst 5, 1) := by decide +kernel
theorem dX7_copy_56 : decode cX7_copy 56 = .ok (.invokevirtual 68, 3) := by decide +kernel
theorem dX7_copy_59 : decode cX7_copy 59 = .ok (.ireturn, 1) := by decide +kernel
theorem dX7_copy_60 : decode cX7_copy 60 = .ok (.aload_n 0, 1) := by decide +kernel
theorem dX7_copy_61 : decode cX7_copy 61 = .ok (.iload_n 1, 1) := by decide +kernel
theorem dX7_copy_62 : decode cX7_copy 62 = .ok (.iload_n 2, 1) := by decide +kernel
theorem dX7_copy_63 : decode cX7_copy 63 = .ok (.iload 5, 2) := by decide +kernel
theorem dX7_copy_65 : decode cX7_copy 65 = .ok (.invokevirtual 82, 3) := by decide +kernel
theorem dX7_copy_68 : decode cX7_copy 68 = .ok (.ifCond .eq 15, 3) := by decide +kernel
theorem dX7_copy_71 : decode cX7_copy 71 = .ok (.aload_n 0, 1) := by decide +kernel
theorem dX7_copy_72 : decode cX7_copy 72 = .ok (.iload_n 3, 1) := by decide +kernel
theorem dX7_copy_73 : decode cX7_copy 73 = .ok (.iload 4, 2) := by decide +kernel
theorem dX7_copy_75 : decode cX7_copy 75 = .ok (.iload 5, 2) := by decide +kernel
theorem dX7_copy_77 : decode cX7_copy 77 = .ok (.invokevirtual 82, 3) := by decide +kernel
theorem dX7_copy_80 : decode cX7_copy 80 = .ok (.ifCond .ne 9, 3) := by decide +kernel
theorem dX7_copy_83 : decode cX7_copy 83 = .ok (.aload_n 0, 1) := by decide +kernel
theorem dX7_copy_84 : decode cX7_copy 84 = .ok (.iconst 2, 1) := by decide +kernel
theorem dX7_copy_85 : decode cX7_copy 85 = .ok (.invokevirtual 68, 3) := by decide +kernel
theorem dX7_copy_88 : decode cX7_copy 88 = .ok (.ireturn, 1) := by decide +kernel
theorem dX7_copy_89 : decode cX7_copy 89 = .ok (.iconst 0, 1) := by decide +kernel
theorem dX7_copy_90 : decode cX7_copy 90 = .ok (.istore 6, 2) := by decide +kernel
theorem dX7_copy_92 : decode cX7_copy 92 = .ok (.iload 6, 2) := by decide +kernel
theorem dX7_copy_94 : decode cX7_copy 94 = .ok (.iload 5, 2) := by decide +kernel
theorem dX7_copy_96 : decode cX7_copy 96 = .ok (.if_icmp .ge 30, 3) := by decide +kernel
theorem dX7_copy_99 : decode cX7_copy 99 = .ok (.aload_n 0, 1) := by decide +kernel
theorem dX7_copy_100 : decode cX7_copy 100 = .ok (.getfield 19, 3) := by decide +kernel
theorem dX7_copy_103 : decode cX7_copy 103 = .ok (.iload 6, 2) := by decide +kernel
theorem dX7_copy_105 : decode cX7_copy 105 = .ok (.aload_n 0, 1) := by decide +kernel
theorem dX7_copy_106 : decode cX7_copy 106 = .ok (.getfield 16, 3) := by decide +kernel
theorem dX7_copy_109 : decode cX7_copy 109 = .ok (.bipush 40, 2) := by decide +kernel
theorem dX7_copy_111 : decode cX7_copy 111 = .ok (.iload_n 1, 1) := by decide +kernel
theorem dX7_copy_112 : decode cX7_copy 112 = .ok (.imul, 1) := by decide +kernel
theorem dX7_copy_113 : decode cX7_copy 113 = .ok (.iload_n 2, 1) := by decide +kernel
theorem dX7_copy_114 : decode cX7_copy 114 = .ok (.iadd, 1) := by decide +kernel
theorem dX7_copy_115 : decode cX7_copy 115 = .ok (.iload 6, 2) := by decide +kernel
theorem dX7_copy_117 : decode cX7_copy 117 = .ok (.iadd, 1) := by decide +kernel
theorem dX7_copy_118 : decode cX7_copy 118 = .ok (.iaload, 1) := by decide +kernel
theorem dX7_copy_119 : decode cX7_copy 119 = .ok (.iastore, 1) := by decide +kernel
theorem dX7_copy_120 : decode cX7_copy 120 = .ok (.iinc 6 1, 3) := by decide +kernel
theorem dX7_copy_123 : decode cX7_copy 123 = .ok (.goto (-31), 3) := by decide +kernel
theorem dX7_copy_126 : decode cX7_copy 126 = .ok (.iconst 0, 1) := by decide +kernel
theorem dX7_copy_127 : decode cX7_copy 127 = .ok (.istore 6, 2) := by decide +kernel
theorem dX7_copy_129 : decode cX7_copy 129 = .ok (.iload 6, 2) := by decide +kernel
theorem dX7_copy_131 : decode cX7_copy 131 = .ok (.iload 5, 2) := by decide +kernel
theorem dX7_copy_133 : decode cX7_copy 133 = .ok (.if_icmp .ge 31, 3) := by decide +kernel
theorem dX7_copy_136 : decode cX7_copy 136 = .ok (.aload_n 0, 1) := by decide +kernel
theorem dX7_copy_137 : decode cX7_copy 137 = .ok (.getfield 16, 3) := by decide +kernel
theorem dX7_copy_140 : decode cX7_copy 140 = .ok (.bipush 40, 2) := by decide +kernel
theorem dX7_copy_142 : decode cX7_copy 142 = .ok (.iload_n 3, 1) := by decide +kernel
theorem dX7_copy_143 : decode cX7_copy 143 = .ok (.imul, 1) := by decide +kernel
theorem dX7_copy_144 : decode cX7_copy 144 = .ok (.iload 4, 2) := by decide +kernel
theorem dX7_copy_146 : decode cX7_copy 146 = .ok (.iadd, 1) := by decide +kernel
theorem dX7_copy_147 : decode cX7_copy 147 = .ok (.iload 6, 2) := by decide +kernel
theorem dX7_copy_149 : decode cX7_copy 149 = .ok (.iadd, 1) := by decide +kernel
theorem dX7_copy_150 : decode cX7_copy 150 = .ok (.aload_n 0, 1) := by decide +kernel
theorem dX7_copy_151 : decode cX7_copy 151 = .ok (.getfield 19, 3) := by decide +kernel
theorem dX7_copy_154 : decode cX7_copy 154 = .ok (.iload 6, 2) := by decide +kernel
theorem dX7_copy_156 : decode cX7_copy 156 = .ok (.iaload, 1) := by decide +kernel
theorem dX7_copy_157 : decode cX7_copy 157 = .ok (.iastore, 1) := by decide +kernel
theorem dX7_copy_158 : decode cX7_copy 158 = .ok (.iinc 6 1, 3) := by decide +kernel
theorem dX7_copy_161 : decode cX7_copy 161 = .ok (.goto (-32), 3) := by decide +kernel
theorem dX7_copy_164 : decode cX7_copy 164 = .ok (.aload_n 0, 1) := by decide +kernel
theorem dX7_copy_165 : decode cX7_copy 165 = .ok (.iload 5, 2) := by decide +kernel
theorem dX7_copy_167 : decode cX7_copy 167 = .ok (.invokevirtual 72, 3) := by decide +kernel
theorem dX7_copy_170 : decode cX7_copy 170 = .ok (.ireturn, 1) := by decide +kernel
theorem dX7_drop_0 : decode cX7_drop 0 = .ok (.iload_n 1, 1) := by decide +kernel
theorem dX7_drop_1 : decode cX7_drop 1 = .ok (.invokestatic 63, 3) := by decide +kernel
theorem dX7_drop_4 : decode cX7_drop 4 = .ok (.ifCond .ne 6, 3) := by decide +kernel
theorem dX7_drop_7 : decode cX7_drop 7 = .ok (.ldc 67, 2) := by decide +kernel
theorem dX7_drop_9 : decode cX7_drop 9 = .ok (.ireturn, 1) := by decide +kernel
theorem dX7_drop_10 : decode cX7_drop 10 = .ok (.aload_n 0, 1) := by decide +kernel
theorem dX7_drop_11 : decode cX7_drop 11 = .ok (.iload_n 1, 1) := by decide +kernel
theorem dX7_drop_12 : decode cX7_drop 12 = .ok (.invokevirtual 75, 3) := by decide +kernel
theorem dX7_drop_15 : decode cX7_drop 15 = .ok (.ifCond .eq 9, 3) := by decide +kernel
theorem dX7_drop_18 : decode cX7_drop 18 = .ok (.aload_n 0, 1) := by decide +kernel
theorem dX7_drop_19 : decode cX7_drop 19 = .ok (.iconst 1, 1) := by decide +kernel
theorem dX7_drop_20 : decode cX7_drop 20 = .ok (.invokevirtual 68, 3) := by decide +kernel
theorem dX7_drop_23 : decode cX7_drop 23 = .ok (.ireturn, 1) := by decide +kernel
theorem dX7_drop_24 : decode cX7_drop 24 = .ok (.aload_n 0, 1) := by decide +kernel
theorem dX7_drop_25 : decode cX7_drop 25 = .ok (.getfield 7, 3) := by decide +kernel
theorem dX7_drop_28 : decode cX7_drop 28 = .ok (.iload_n 1, 1) := by decide +kernel
theorem dX7_drop_29 : decode cX7_drop 29 = .ok (.ldc 53, 2) := by decide +kernel
theorem dX7_drop_31 : decode cX7_drop 31 = .ok (.iastore, 1) := by decide +kernel
theorem dX7_drop_32 : decode cX7_drop 32 = .ok (.aload_n 0, 1) := by decide +kernel
theorem dX7_drop_33 : decode cX7_drop 33 = .ok (.aload_n 0, 1) := by decide +kernel
theorem dX7_drop_34 : decode cX7_drop 34 = .ok (.getfield 13, 3) := by decide +kernel
theorem dX7_drop_37 : decode cX7_drop 37 = .ok (.iload_n 1, 1) := by decide +kernel
theorem dX7_drop_38 : decode cX7_drop 38 = .ok (.iaload, 1) := by decide +kernel
theorem dX7_drop_39 : decode cX7_drop 39 = .ok (.invokevirtual 72, 3) := by decide +kernel
theorem dX7_drop_42 : decode cX7_drop 42 = .ok (.ireturn, 1) := by decide +kernel
theorem dX7_feed_0 : decode cX7_feed 0 = .ok (.iload_n 1, 1) := by decide +kernel
theorem dX7_feed_1 : decode cX7_feed 1 = .ok (.iconst 0, 1) := by decide +kernel
theorem dX7_feed_2 : decode cX7_feed 2 = .ok (.sipush 255, 3) := by decide +kernel
theorem dX7_feed_5 : decode cX7_feed 5 = .ok (.invokestatic 59, 3) := by decide +kernel
theorem dX7_feed_8 : decode cX7_feed 8 = .ok (.ifCond .ne 6, 3) := by decide +kernel
theorem dX7_feed_11 : decode cX7_feed 11 = .ok (.ldc 67, 2) := by decide +kernel
theorem dX7_feed_13 : decode cX7_feed 13 = .ok (.ireturn, 1) := by decide +kernel
theorem dX7_feed_14 : decode cX7_feed 14 = .ok (.aload_n 0, 1) := by decide +kernel
theorem dX7_feed_15 : decode cX7_feed 15 = .ok (.getfield 85, 3) := by decide +kernel
theorem dX7_feed_18 : decode cX7_feed 18 = .ok (.bipush 120, 2) := by decide +kernel
theorem dX7_feed_20 : decode cX7_feed 20 = .ok (.if_icmp .ne 6, 3) := by decide +kernel
theorem dX7_feed_23 : decode cX7_feed 23 = .ok (.ldc 88, 2) := by decide +kernel
theorem dX7_feed_25 : decode cX7_feed 25 = .ok (.ireturn, 1) := by decide +kernel
theorem dX7_feed_26 : decode cX7_feed 26 = .ok (.aload_n 0, 1) := by decide +kernel
theorem dX7_feed_27 : decode cX7_feed 27 = .ok (.getfield 22, 3) := by decide +kernel
theorem dX7_feed_30 : decode cX7_feed 30 = .ok (.aload_n 0, 1) := by decide +kernel
theorem dX7_feed_31 : decode cX7_feed 31 = .ok (.getfield 85, 3) := by decide +kernel
theorem dX7_feed_34 : decode cX7_feed 34 = .ok (.iload_n 1, 1) := by decide +kernel
theorem dX7_feed_35 : decode cX7_feed 35 = .ok (.iastore, 1) := by decide +kernel
theorem dX7_feed_36 : decode cX7_feed 36 = .ok (.aload_n 0, 1) := by decide +kernel
theorem dX7_feed_37 : decode cX7_feed 37 = .ok (.dup, 1) := by decide +kernel
theorem dX7_feed_38 : decode cX7_feed 38 = .ok (.getfield 85, 3) := by decide +kernel
theorem dX7_feed_41 : decode cX7_feed 41 = .ok (.iconst 1, 1) := by decide +kernel
theorem dX7_feed_42 : decode cX7_feed 42 = .ok (.iadd, 1) := by decide +kernel
theorem dX7_feed_43 : decode cX7_feed 43 = .ok (.putfield 85, 3) := by decide +kernel
theorem dX7_feed_46 : decode cX7_feed 46 = .ok (.aload_n 0, 1) := by decide +kernel
theorem dX7_feed_47 : decode cX7_feed 47 = .ok (.getfield 85, 3) := by decide +kernel
theorem dX7_feed_50 : decode cX7_feed 50 = .ok (.ireturn, 1) := by decide +kernel
theorem dX7_byteAt_0 : decode cX7_byteAt 0 = .ok (.iload_n 1, 1) := by decide +kernel
theorem dX7_byteAt_1 : decode cX7_byteAt 1 = .ok (.aload_n 0, 1) := by decide +kernel
theorem dX7_byteAt_2 : decode cX7_byteAt 2 = .ok (.getfield 85, 3) := by decide +kernel
theorem dX7_byteAt_5 : decode cX7_byteAt 5 = .ok (.if_icmp .ge 12, 3) := by decide +kernel
theorem dX7_byteAt_8 : decode cX7_byteAt 8 = .ok (.aload_n 0, 1) := by decide +kernel
theorem dX7_byteAt_9 : decode cX7_byteAt 9 = .ok (.getfield 22, 3) := by decide +kernel
theorem dX7_byteAt_12 : decode cX7_byteAt 12 = .ok (.iload_n 1, 1) := by decide +kernel
theorem dX7_byteAt_13 : decode cX7_byteAt 13 = .ok (.iaload, 1) := by decide +kernel
theorem dX7_byteAt_14 : decode cX7_byteAt 14 = .ok (.goto 4, 3) := by decide +kernel
theorem dX7_byteAt_17 : decode cX7_byteAt 17 = .ok (.iconst (-1), 1) := by decide +kernel
theorem dX7_byteAt_18 : decode cX7_byteAt 18 = .ok (.ireturn, 1) := by decide +kernel
theorem dX7_advances_0 : decode cX7_advances 0 = .ok (.aload_n 0, 1) := by decide +kernel
theorem dX7_advances_1 : decode cX7_advances 1 = .ok (.aload_n 0, 1) := by decide +kernel
theorem dX7_advances_2 : decode cX7_advances 2 = .ok (.getfield 89, 3) := by decide +kernel
theorem dX7_advances_5 : decode cX7_advances 5 = .ok (.putfield 92, 3) := by decide +kernel
theorem dX7_advances_8 : decode cX7_advances 8 = .ok (.aload_n 0, 1) := by decide +kernel
theorem dX7_advances_9 : decode cX7_advances 9 = .ok (.aload_n 0, 1) := by decide +kernel
theorem dX7_advances_10 : decode cX7_advances 10 = .ok (.getfield 89, 3) := by decide +kernel
theorem dX7_advances_13 : decode cX7_advances 13 = .ok (.invokevirtual 95, 3) := by decide +kernel
theorem dX7_advances_16 : decode cX7_advances 16 = .ok (.istore_n 1, 1) := by decide +kernel
theorem dX7_advances_17 : decode cX7_advances 17 = .ok (.aload_n 0, 1) := by decide +kernel
theorem dX7_advances_18 : decode cX7_advances 18 = .ok (.iload_n 1, 1) := by decide +kernel
theorem dX7_advances_19 : decode cX7_advances 19 = .ok (.putfield 98, 3) := by decide +kernel
theorem dX7_advances_22 : decode cX7_advances 22 = .ok (.iload_n 1, 1) := by decide +kernel
theorem dX7_advances_23 : decode cX7_advances 23 = .ok (.bipush 48, 2) := by decide +kernel
theorem dX7_advances_25 : decode cX7_advances 25 = .ok (.bipush 57, 2) := by decide +kernel
theorem dX7_advances_27 : decode cX7_advances 27 = .ok (.invokestatic 59, 3) := by decide +kernel
theorem dX7_advances_30 : decode cX7_advances 30 = .ok (.ifCond .eq 105, 3) := by decide +kernel
theorem dX7_advances_33 : decode cX7_advances 33 = .ok (.aload_n 0, 1) := by decide +kernel
theorem dX7_advances_34 : decode cX7_advances 34 = .ok (.iconst 0, 1) := by decide +kernel
theorem dX7_advances_35 : decode cX7_advances 35 = .ok (.putfield 98, 3) := by decide +kernel
theorem dX7_advances_38 : decode cX7_advances 38 = .ok (.aload_n 0, 1) := by decide +kernel
theorem dX7_advances_39 : decode cX7_advances 39 = .ok (.aload_n 0, 1) := by decide +kernel
theorem dX7_advances_40 : decode cX7_advances 40 = .ok (.getfield 89, 3) := by decide +kernel
theorem dX7_advances_43 : decode cX7_advances 43 = .ok (.invokevirtual 95, 3) := by decide +kernel
theorem dX7_advances_46 : decode cX7_advances 46 = .ok (.bipush 48, 2) := by decide +kernel
theorem dX7_advances_48 : decode cX7_advances 48 = .ok (.bipush 57, 2) := by decide +kernel
theorem dX7_advances_50 : decode cX7_advances 50 = .ok (.invokestatic 59, 3) := by decide +kernel
theorem dX7_advances_53 : decode cX7_advances 53 = .ok (.ifCond .eq 59, 3) := by decide +kernel
theorem dX7_advances_56 : decode cX7_advances 56 = .ok (.aload_n 0, 1) := by decide +kernel
theorem dX7_advances_57 : decode cX7_advances 57 = .ok (.aload_n 0, 1) := by decide +kernel
theorem dX7_advances_58 : decode cX7_advances 58 = .ok (.getfield 89, 3) := by decide +kernel
theorem dX7_advances_61 : decode cX7_advances 61 = .ok (.aload_n 0, 1) := by decide +kernel
theorem dX7_advances_62 : decode cX7_advances 62 = .ok (.getfield 92, 3) := by decide +kernel
theorem dX7_advances_65 : decode cX7_advances 65 = .ok (.isub, 1) := by decide +kernel
theorem dX7_advances_66 : decode cX7_advances 66 = .ok (.iconst 2, 1) := by decide +kernel
theorem dX7_advances_67 : decode cX7_advances 67 = .ok (.if_icmp .ge 25, 3) := by decide +kernel
theorem dX7_advances_70 : decode cX7_advances 70 = .ok (.bipush 10, 2) := by decide +kernel
theorem dX7_advances_72 : decode cX7_advances 72 = .ok (.aload_n 0, 1) := by decide +kernel
theorem dX7_advances_73 : decode cX7_advances 73 = .ok (.getfield 98, 3) := by decide +kernel
theorem dX7_advances_76 : decode cX7_advances 76 = .ok (.imul, 1) := by decide +kernel
theorem dX7_advances_77 : decode cX7_advances 77 = .ok (.aload_n 0, 1) := by decide +kernel
theorem dX7_advances_78 : decode cX7_advances 78 = .ok (.aload_n 0, 1) := by decide +kernel
theorem dX7_advances_79 : decode cX7_advances 79 = .ok (.getfield 89, 3) := by decide +kernel
theorem dX7_advances_82 : decode cX7_advances 82 = .ok (.invokevirtual 95, 3) := by decide +kernel
theorem dX7_advances_85 : decode cX7_advances 85 = .ok (.iadd, 1) := by decide +kernel
theorem dX7_advances_86 : decode cX7_advances 86 = .ok (.bipush 48, 2) := by decide +kernel
theorem dX7_advances_88 : decode cX7_advances 88 = .ok (.isub, 1) := by decide +kernel
theorem dX7_advances_89 : decode cX7_advances 89 = .ok (.goto 7, 3) := by decide +kernel
theorem dX7_advances_92 : decode cX7_advances 92 = .ok (.aload_n 0, 1) := by decide +kernel
theorem dX7_advances_93 : decode cX7_advances 93 = .ok (.getfield 98, 3) := by decide +kernel
theorem dX7_advances_96 : decode cX7_advances 96 = .ok (.putfield 98, 3) := by decide +kernel
theorem dX7_advances_99 : decode cX7_advances 99 = .ok (.aload_n 0, 1) := by decide +kernel
theorem dX7_advances_100 : decode cX7_advances 100 = .ok (.dup, 1) := by decide +kernel
theorem dX7_advances_101 : decode cX7_advances 101 = .ok (.getfield 89, 3) := by decide +kernel
theorem dX7_advances_104 : decode cX7_advances 104 = .ok (.iconst 1, 1) := by decide +kernel
theorem dX7_advances_105 : decode cX7_advances 105 = .ok (.iadd, 1) := by decide +kernel
theorem dX7_advances_106 : decode cX7_advances 106 = .ok (.putfield 89, 3) := by decide +kernel
theorem dX7_advances_109 : decode cX7_advances 109 = .ok (.goto (-71), 3) := by decide +kernel
theorem dX7_advances_112 : decode cX7_advances 112 = .ok (.aload_n 0, 1) := by decide +kernel
theorem dX7_advances_113 : decode cX7_advances 113 = .ok (.aload_n 0, 1) := by decide +kernel
theorem dX7_advances_114 : decode cX7_advances 114 = .ok (.getfield 89, 3) := by decide +kernel
theorem dX7_advances_117 : decode cX7_advances 117 = .ok (.aload_n 0, 1) := by decide +kernel
theorem dX7_advances_118 : decode cX7_advances 118 = .ok (.getfield 92, 3) := by decide +kernel
theorem dX7_advances_121 : decode cX7_advances 121 = .ok (.isub, 1) := by decide +kernel
theorem dX7_advances_122 : decode cX7_advances 122 = .ok (.iconst 3, 1) := by decide +kernel
theorem dX7_advances_123 : decode cX7_advances 123 = .ok (.if_icmp .ge 7, 3) := by decide +kernel
theorem dX7_advances_126 : decode cX7_advances 126 = .ok (.iconst 2, 1) := by decide +kernel
theorem dX7_advances_127 : decode cX7_advances 127 = .ok (.goto 4, 3) := by decide +kernel
theorem dX7_advances_130 : decode cX7_advances 130 = .ok (.iconst 5, 1) := by decide +kernel
theorem dX7_advances_131 : decode cX7_advances 131 = .ok (.putfield 101, 3) := by decide +kernel
theorem dX7_advances_134 : decode cX7_advances 134 = .ok (.return_, 1) := by decide +kernel
theorem dX7_advances_135 : decode cX7_advances 135 = .ok (.aload_n 0, 1) := by decide +kernel
theorem dX7_advances_136 : decode cX7_advances 136 = .ok (.iload_n 1, 1) := by decide +kernel
theorem dX7_advances_137 : decode cX7_advances 137 = .ok (.ifCond .ge 7, 3) := by decide +kernel
theorem dX7_advances_140 : decode cX7_advances 140 = .ok (.iconst 0, 1) := by decide +kernel
theorem dX7_advances_141 : decode cX7_advances 141 = .ok (.goto 39, 3) := by decide +kernel
theorem dX7_advances_144 : decode cX7_advances 144 = .ok (.iload_n 1, 1) := by decide +kernel
theorem dX7_advances_145 : decode cX7_advances 145 = .ok (.bipush 97, 2) := by decide +kernel
theorem dX7_advances_147 : decode cX7_advances 147 = .ok (.bipush 122, 2) := by decide +kernel
theorem dX7_advances_149 : decode cX7_advances 149 = .ok (.invokestatic 59, 3) := by decide +kernel
theorem dX7_advances_152 : decode cX7_advances 152 = .ok (.ifCond .eq 7, 3) := by decide +kernel
theorem dX7_advances_155 : decode cX7_advances 155 = .ok (.iconst 1, 1) := by decide +kernel
theorem dX7_advances_156 : decode cX7_advances 156 = .ok (.goto 24, 3) := by decide +kernel
theorem dX7_advances_159 : decode cX7_advances 159 = .ok (.iload_n 1, 1) := by decide +kernel
theorem dX7_advances_160 : decode cX7_advances 160 = .ok (.bipush 44, 2) := by decide +kernel
theorem dX7_advances_162 : decode cX7_advances 162 = .ok (.if_icmp .ne 7, 3) := by decide +kernel
theorem dX7_advances_165 : decode cX7_advances 165 = .ok (.iconst 3, 1) := by decide +kernel
theorem dX7_advances_166 : decode cX7_advances 166 = .ok (.goto 14, 3) := by decide +kernel
theorem dX7_advances_169 : decode cX7_advances 169 = .ok (.iload_n 1, 1) := by decide +kernel
theorem dX7_advances_170 : decode cX7_advances 170 = .ok (.bipush 59, 2) := by decide +kernel
theorem dX7_advances_172 : decode cX7_advances 172 = .ok (.if_icmp .ne 7, 3) := by decide +kernel
theorem dX7_advances_175 : decode cX7_advances 175 = .ok (.iconst 4, 1) := by decide +kernel
theorem dX7_advances_176 : decode cX7_advances 176 = .ok (.goto 4, 3) := by decide +kernel
theorem dX7_advances_179 : decode cX7_advances 179 = .ok (.iconst 5, 1) := by decide +kernel
theorem dX7_advances_180 : decode cX7_advances 180 = .ok (.putfield 101, 3) := by decide +kernel
theorem dX7_advances_183 : decode cX7_advances 183 = .ok (.aload_n 0, 1) := by decide +kernel
theorem dX7_advances_184 : decode cX7_advances 184 = .ok (.dup, 1) := by decide +kernel
theorem dX7_advances_185 : decode cX7_advances 185 = .ok (.getfield 89, 3) := by decide +kernel
theorem dX7_advances_188 : decode cX7_advances 188 = .ok (.aload_n 0, 1) := by decide +kernel
theorem dX7_advances_189 : decode cX7_advances 189 = .ok (.getfield 101, 3) := by decide +kernel
theorem dX7_advances_192 : decode cX7_advances 192 = .ok (.ifCond .ne 7, 3) := by decide +kernel
theorem dX7_advances_195 : decode cX7_advances 195 = .ok (.iconst 0, 1) := by decide +kernel
theorem dX7_advances_196 : decode cX7_advances 196 = .ok (.goto 4, 3) := by decide +kernel
theorem dX7_advances_199 : decode cX7_advances 199 = .ok (.iconst 1, 1) := by decide +kernel
theorem dX7_advances_200 : decode cX7_advances 200 = .ok (.iadd, 1) := by decide +kernel
theorem dX7_advances_201 : decode cX7_advances 201 = .ok (.putfield 89, 3) := by decide +kernel
theorem dX7_advances_204 : decode cX7_advances 204 = .ok (.return_, 1) := by decide +kernel
theorem dX7_isWell_0 : decode cX7_isWell 0 = .ok (.aload_n 0, 1) := by decide +kernel
theorem dX7_isWell_1 : decode cX7_isWell 1 = .ok (.getfield 104, 3) := by decide +kernel
theorem dX7_isWell_4 : decode cX7_isWell 4 = .ok (.ifCond .ge 7, 3) := by decide +kernel
theorem dX7_isWell_7 : decode cX7_isWell 7 = .ok (.iconst 1, 1) := by decide +kernel
theorem dX7_isWell_8 : decode cX7_isWell 8 = .ok (.goto 4, 3) := by decide +kernel
theorem dX7_isWell_11 : decode cX7_isWell 11 = .ok (.iconst 0, 1) := by decide +kernel
theorem dX7_isWell_12 : decode cX7_isWell 12 = .ok (.ireturn, 1) := by decide +kernel
theorem dX7_takes_0 : decode cX7_takes 0 = .ok (.aload_n 0, 1) := by decide +kernel
theorem dX7_takes_1 : decode cX7_takes 1 = .ok (.invokevirtual 107, 3) := by decide +kernel
theorem dX7_takes_4 : decode cX7_takes 4 = .ok (.ifCond .ne 5, 3) := by decide +kernel
theorem dX7_takes_7 : decode cX7_takes 7 = .ok (.iconst 0, 1) := by decide +kernel
theorem dX7_takes_8 : decode cX7_takes 8 = .ok (.ireturn, 1) := by decide +kernel
theorem dX7_takes_9 : decode cX7_takes 9 = .ok (.iload_n 1, 1) := by decide +kernel
theorem dX7_takes_10 : decode cX7_takes 10 = .ok (.ifCond .ne 18, 3) := by decide +kernel
theorem dX7_takes_13 : decode cX7_takes 13 = .ok (.aload_n 0, 1) := by decide +kernel
theorem dX7_takes_14 : decode cX7_takes 14 = .ok (.aload_n 0, 1) := by decide +kernel
theorem dX7_takes_15 : decode cX7_takes 15 = .ok (.getfield 92, 3) := by decide +kernel
theorem dX7_takes_18 : decode cX7_takes 18 = .ok (.putfield 104, 3) := by decide +kernel
theorem dX7_takes_21 : decode cX7_takes 21 = .ok (.aload_n 0, 1) := by decide +kernel
theorem dX7_takes_22 : decode cX7_takes 22 = .ok (.iload_n 2, 1) := by decide +kernel
theorem dX7_takes_23 : decode cX7_takes 23 = .ok (.putfield 111, 3) := by decide +kernel
theorem dX7_takes_26 : decode cX7_takes 26 = .ok (.iconst 0, 1) := by decide +kernel
theorem dX7_takes_27 : decode cX7_takes 27 = .ok (.ireturn, 1) := by decide +kernel
theorem dX7_takes_28 : decode cX7_takes 28 = .ok (.aload_n 0, 1) := by decide +kernel
theorem dX7_takes_29 : decode cX7_takes 29 = .ok (.getfield 98, 3) := by decide +kernel
theorem dX7_takes_32 : decode cX7_takes 32 = .ok (.istore_n 3, 1) := by decide +kernel
theorem dX7_takes_33 : decode cX7_takes 33 = .ok (.aload_n 0, 1) := by decide +kernel
theorem dX7_takes_34 : decode cX7_takes 34 = .ok (.invokevirtual 114, 3) := by decide +kernel
theorem dX7_takes_37 : decode cX7_takes 37 = .ok (.iload_n 3, 1) := by decide +kernel
theorem dX7_takes_38 : decode cX7_takes 38 = .ok (.ireturn, 1) := by decide +kernel
theorem dX7_figure_0 : decode cX7_figure 0 = .ok (.aload_n 0, 1) := by decide +kernel
theorem dX7_figure_1 : decode cX7_figure 1 = .ok (.invokevirtual 107, 3) := by decide +kernel
theorem dX7_figure_4 : decode cX7_figure 4 = .ok (.ifCond .eq 18, 3) := by decide +kernel
theorem dX7_figure_7 : decode cX7_figure 7 = .ok (.aload_n 0, 1) := by decide +kernel
theorem dX7_figure_8 : decode cX7_figure 8 = .ok (.getfield 101, 3) := by decide +kernel
theorem dX7_figure_11 : decode cX7_figure 11 = .ok (.iconst 2, 1) := by decide +kernel
theorem dX7_figure_12 : decode cX7_figure 12 = .ok (.if_icmp .eq 10, 3) := by decide +kernel
theorem dX7_figure_15 : decode cX7_figure 15 = .ok (.aload_n 0, 1) := by decide +kernel
theorem dX7_figure_16 : decode cX7_figure 16 = .ok (.iconst 0, 1) := by decide +kernel
theorem dX7_figure_17 : decode cX7_figure 17 = .ok (.iconst 1, 1) := by decide +kernel
theorem dX7_figure_18 : decode cX7_figure 18 = .ok (.invokevirtual 117, 3) := by decide +kernel
theorem dX7_figure_21 : decode cX7_figure 21 = .ok (.ireturn, 1) := by decide +kernel
theorem dX7_figure_22 : decode cX7_figure 22 = .ok (.aload_n 0, 1) := by decide +kernel
theorem dX7_figure_23 : decode cX7_figure 23 = .ok (.aload_n 0, 1) := by decide +kernel
theorem dX7_figure_24 : decode cX7_figure 24 = .ok (.getfield 98, 3) := by decide +kernel
theorem dX7_figure_27 : decode cX7_figure 27 = .ok (.iload_n 1, 1) := by decide +kernel
theorem dX7_figure_28 : decode cX7_figure 28 = .ok (.iload_n 2, 1) := by decide +kernel
theorem dX7_figure_29 : decode cX7_figure 29 = .ok (.invokestatic 59, 3) := by decide +kernel
theorem dX7_figure_32 : decode cX7_figure 32 = .ok (.iconst 2, 1) := by decide +kernel
theorem dX7_figure_33 : decode cX7_figure 33 = .ok (.invokevirtual 117, 3) := by decide +kernel
theorem dX7_figure_36 : decode cX7_figure 36 = .ok (.ireturn, 1) := by decide +kernel
theorem dX7_kindOf_0 : decode cX7_kindOf 0 = .ok (.iload_n 0, 1) := by decide +kernel
theorem dX7_kindOf_1 : decode cX7_kindOf 1 = .ok (.bipush 115, 2) := by decide +kernel
theorem dX7_kindOf_3 : decode cX7_kindOf 3 = .ok (.if_icmp .ne 7, 3) := by decide +kernel
theorem dX7_kindOf_6 : decode cX7_kindOf 6 = .ok (.iconst 1, 1) := by decide +kernel
theorem dX7_kindOf_7 : decode cX7_kindOf 7 = .ok (.goto 44, 3) := by decide +kernel
theorem dX7_kindOf_10 : decode cX7_kindOf 10 = .ok (.iload_n 0, 1) := by decide +kernel
theorem dX7_kindOf_11 : decode cX7_kindOf 11 = .ok (.bipush 103, 2) := by decide +kernel
theorem dX7_kindOf_13 : decode cX7_kindOf 13 = .ok (.if_icmp .ne 7, 3) := by decide +kernel
theorem dX7_kindOf_16 : decode cX7_kindOf 16 = .ok (.iconst 2, 1) := by decide +kernel
theorem dX7_kindOf_17 : decode cX7_kindOf 17 = .ok (.goto 34, 3) := by decide +kernel
theorem dX7_kindOf_20 : decode cX7_kindOf 20 = .ok (.iload_n 0, 1) := by decide +kernel
theorem dX7_kindOf_21 : decode cX7_kindOf 21 = .ok (.bipush 119, 2) := by decide +kernel
theorem dX7_kindOf_23 : decode cX7_kindOf 23 = .ok (.if_icmp .ne 7, 3) := by decide +kernel
theorem dX7_kindOf_26 : decode cX7_kindOf 26 = .ok (.iconst 3, 1) := by decide +kernel
theorem dX7_kindOf_27 : decode cX7_kindOf 27 = .ok (.goto 24, 3) := by decide +kernel
theorem dX7_kindOf_30 : decode cX7_kindOf 30 = .ok (.iload_n 0, 1) := by decide +kernel
theorem dX7_kindOf_31 : decode cX7_kindOf 31 = .ok (.bipush 109, 2) := by decide +kernel
theorem dX7_kindOf_33 : decode cX7_kindOf 33 = .ok (.if_icmp .ne 7, 3) := by decide +kernel
theorem dX7_kindOf_36 : decode cX7_kindOf 36 = .ok (.iconst 4, 1) := by decide +kernel
theorem dX7_kindOf_37 : decode cX7_kindOf 37 = .ok (.goto 14, 3) := by decide +kernel
theorem dX7_kindOf_40 : decode cX7_kindOf 40 = .ok (.iload_n 0, 1) := by decide +kernel
theorem dX7_kindOf_41 : decode cX7_kindOf 41 = .ok (.bipush 100, 2) := by decide +kernel
theorem dX7_kindOf_43 : decode cX7_kindOf 43 = .ok (.if_icmp .ne 7, 3) := by decide +kernel
theorem dX7_kindOf_46 : decode cX7_kindOf 46 = .ok (.iconst 5, 1) := by decide +kernel
theorem dX7_kindOf_47 : decode cX7_kindOf 47 = .ok (.goto 4, 3) := by decide +kernel
theorem dX7_kindOf_50 : decode cX7_kindOf 50 = .ok (.iconst 0, 1) := by decide +kernel
theorem dX7_kindOf_51 : decode cX7_kindOf 51 = .ok (.ireturn, 1) := by decide +kernel
theorem dX7_figureBut_0 : decode cX7_figureBut 0 = .ok (.aload_n 0, 1) := by decide +kernel
theorem dX7_figureBut_1 : decode cX7_figureBut 1 = .ok (.invokevirtual 107, 3) := by decide +kernel
theorem dX7_figureBut_4 : decode cX7_figureBut 4 = .ok (.ifCond .eq 18, 3) := by decide +kernel
theorem dX7_figureBut_7 : decode cX7_figureBut 7 = .ok (.aload_n 0, 1) := by decide +kernel
theorem dX7_figureBut_8 : decode cX7_figureBut 8 = .ok (.getfield 101, 3) := by decide +kernel
theorem dX7_figureBut_11 : decode cX7_figureBut 11 = .ok (.iconst 2, 1) := by decide +kernel
theorem dX7_figureBut_12 : decode cX7_figureBut 12 = .ok (.if_icmp .eq 10, 3) := by decide +kernel
theorem dX7_figureBut_15 : decode cX7_figureBut 15 = .ok (.aload_n 0, 1) := by decide +kernel
theorem dX7_figureBut_16 : decode cX7_figureBut 16 = .ok (.iconst 0, 1) := by decide +kernel
theorem dX7_figureBut_17 : decode cX7_figureBut 17 = .ok (.iconst 1, 1) := by decide +kernel
theorem dX7_figureBut_18 : decode cX7_figureBut 18 = .ok (.invokevirtual 117, 3) := by decide +kernel
theorem dX7_figureBut_21 : decode cX7_figureBut 21 = .ok (.ireturn, 1) := by decide +kernel
theorem dX7_figureBut_22 : decode cX7_figureBut 22 = .ok (.aload_n 0, 1) := by decide +kernel
theorem dX7_figureBut_23 : decode cX7_figureBut 23 = .ok (.aload_n 0, 1) := by decide +kernel
theorem dX7_figureBut_24 : decode cX7_figureBut 24 = .ok (.getfield 98, 3) := by decide +kernel
theorem dX7_figureBut_27 : decode cX7_figureBut 27 = .ok (.iload_n 1, 1) := by decide +kernel
theorem dX7_figureBut_28 : decode cX7_figureBut 28 = .ok (.if_icmp .gt 15, 3) := by decide +kernel
theorem dX7_figureBut_31 : decode cX7_figureBut 31 = .ok (.aload_n 0, 1) := by decide +kernel
theorem dX7_figureBut_32 : decode cX7_figureBut 32 = .ok (.getfield 98, 3) := by decide +kernel
theorem dX7_figureBut_35 : decode cX7_figureBut 35 = .ok (.iload_n 2, 1) := by decide +kernel
theorem dX7_figureBut_36 : decode cX7_figureBut 36 = .ok (.if_icmp .eq 7, 3) := by decide +kernel
theorem dX7_figureBut_39 : decode cX7_figureBut 39 = .ok (.iconst 1, 1) := by decide +kernel
theorem dX7_figureBut_40 : decode cX7_figureBut 40 = .ok (.goto 4, 3) := by decide +kernel
theorem dX7_figureBut_43 : decode cX7_figureBut 43 = .ok (.iconst 0, 1) := by decide +kernel
theorem dX7_figureBut_44 : decode cX7_figureBut 44 = .ok (.iconst 2, 1) := by decide +kernel
theorem dX7_figureBut_45 : decode cX7_figureBut 45 = .ok (.invokevirtual 117, 3) := by decide +kernel
theorem dX7_figureBut_48 : decode cX7_figureBut 48 = .ok (.ireturn, 1) := by decide +kernel
theorem dX7_readsHint_0 : decode cX7_readsHint 0 = .ok (.aload_n 0, 1) := by decide +kernel
theorem dX7_readsHint_1 : decode cX7_readsHint 1 = .ok (.getfield 98, 3) := by decide +kernel
theorem dX7_readsHint_4 : decode cX7_readsHint 4 = .ok (.invokestatic 121, 3) := by decide +kernel
theorem dX7_readsHint_7 : decode cX7_readsHint 7 = .ok (.istore_n 1, 1) := by decide +kernel
theorem dX7_readsHint_8 : decode cX7_readsHint 8 = .ok (.aload_n 0, 1) := by decide +kernel
theorem dX7_readsHint_9 : decode cX7_readsHint 9 = .ok (.aload_n 0, 1) := by decide +kernel
theorem dX7_readsHint_10 : decode cX7_readsHint 10 = .ok (.getfield 28, 3) := by decide +kernel
theorem dX7_readsHint_13 : decode cX7_readsHint 13 = .ok (.bipush 7, 2) := by decide +kernel
theorem dX7_readsHint_15 : decode cX7_readsHint 15 = .ok (.iaload, 1) := by decide +kernel
theorem dX7_readsHint_16 : decode cX7_readsHint 16 = .ok (.bipush 8, 2) := by decide +kernel
theorem dX7_readsHint_18 : decode cX7_readsHint 18 = .ok (.if_icmp .ge 7, 3) := by decide +kernel
theorem dX7_readsHint_21 : decode cX7_readsHint 21 = .ok (.iconst 1, 1) := by decide +kernel
theorem dX7_readsHint_22 : decode cX7_readsHint 22 = .ok (.goto 4, 3) := by decide +kernel
theorem dX7_readsHint_25 : decode cX7_readsHint 25 = .ok (.iconst 0, 1) := by decide +kernel
theorem dX7_readsHint_26 : decode cX7_readsHint 26 = .ok (.iconst 3, 1) := by decide +kernel
theorem dX7_readsHint_27 : decode cX7_readsHint 27 = .ok (.invokevirtual 117, 3) := by decide +kernel
theorem dX7_readsHint_30 : decode cX7_readsHint 30 = .ok (.pop, 1) := by decide +kernel
theorem dX7_readsHint_31 : decode cX7_readsHint 31 = .ok (.bipush 9, 2) := by decide +kernel
theorem dX7_readsHint_33 : decode cX7_readsHint 33 = .ok (.iconst 4, 1) := by decide +kernel
theorem dX7_readsHint_34 : decode cX7_readsHint 34 = .ok (.aload_n 0, 1) := by decide +kernel
theorem dX7_readsHint_35 : decode cX7_readsHint 35 = .ok (.getfield 28, 3) := by decide +kernel
theorem dX7_readsHint_38 : decode cX7_readsHint 38 = .ok (.bipush 7, 2) := by decide +kernel
theorem dX7_readsHint_40 : decode cX7_readsHint 40 = .ok (.iaload, 1) := by decide +kernel
theorem dX7_readsHint_41 : decode cX7_readsHint 41 = .ok (.bipush 8, 2) := by decide +kernel
theorem dX7_readsHint_43 : decode cX7_readsHint 43 = .ok (.if_icmp .ge 13, 3) := by decide +kernel
theorem dX7_readsHint_46 : decode cX7_readsHint 46 = .ok (.aload_n 0, 1) := by decide +kernel
theorem dX7_readsHint_47 : decode cX7_readsHint 47 = .ok (.getfield 28, 3) := by decide +kernel
theorem dX7_readsHint_50 : decode cX7_readsHint 50 = .ok (.bipush 7, 2) := by decide +kernel
theorem dX7_readsHint_52 : decode cX7_readsHint 52 = .ok (.iaload, 1) := by decide +kernel
theorem dX7_readsHint_53 : decode cX7_readsHint 53 = .ok (.goto 4, 3) := by decide +kernel
theorem dX7_readsHint_56 : decode cX7_readsHint 56 = .ok (.iconst 0, 1) := by decide +kernel
theorem dX7_readsHint_57 : decode cX7_readsHint 57 = .ok (.imul, 1) := by decide +kernel
theorem dX7_readsHint_58 : decode cX7_readsHint 58 = .ok (.iadd, 1) := by decide +kernel
theorem dX7_readsHint_59 : decode cX7_readsHint 59 = .ok (.istore_n 2, 1) := by decide +kernel
theorem dX7_readsHint_60 : decode cX7_readsHint 60 = .ok (.aload_n 0, 1) := by decide +kernel
theorem dX7_readsHint_61 : decode cX7_readsHint 61 = .ok (.iconst 0, 1) := by decide +kernel
theorem dX7_readsHint_62 : decode cX7_readsHint 62 = .ok (.bipush 7, 2) := by decide +kernel
theorem dX7_readsHint_64 : decode cX7_readsHint 64 = .ok (.invokevirtual 124, 3) := by decide +kernel
theorem dX7_readsHint_67 : decode cX7_readsHint 67 = .ok (.istore_n 3, 1) := by decide +kernel
theorem dX7_readsHint_68 : decode cX7_readsHint 68 = .ok (.aload_n 0, 1) := by decide +kernel
theorem dX7_readsHint_69 : decode cX7_readsHint 69 = .ok (.aload_n 0, 1) := by decide +kernel
theorem dX7_readsHint_70 : decode cX7_readsHint 70 = .ok (.getfield 101, 3) := by decide +kernel
theorem dX7_readsHint_73 : decode cX7_readsHint 73 = .ok (.iconst 3, 1) := by decide +kernel
theorem dX7_readsHint_74 : decode cX7_readsHint 74 = .ok (.if_icmp .ne 7, 3) := by decide +kernel
theorem dX7_readsHint_77 : decode cX7_readsHint 77 = .ok (.iconst 1, 1) := by decide +kernel
theorem dX7_readsHint_78 : decode cX7_readsHint 78 = .ok (.goto 4, 3) := by decide +kernel
theorem dX7_readsHint_81 : decode cX7_readsHint 81 = .ok (.iconst 0, 1) := by decide +kernel
theorem dX7_readsHint_82 : decode cX7_readsHint 82 = .ok (.iconst 1, 1) := by decide +kernel
theorem dX7_readsHint_83 : decode cX7_readsHint 83 = .ok (.invokevirtual 117, 3) := by decide +kernel
theorem dX7_readsHint_86 : decode cX7_readsHint 86 = .ok (.pop, 1) := by decide +kernel
theorem dX7_readsHint_87 : decode cX7_readsHint 87 = .ok (.aload_n 0, 1) := by decide +kernel
theorem dX7_readsHint_88 : decode cX7_readsHint 88 = .ok (.bipush 7, 2) := by decide +kernel
theorem dX7_readsHint_90 : decode cX7_readsHint 90 = .ok (.iload_n 3, 1) := by decide +kernel
theorem dX7_readsHint_91 : decode cX7_readsHint 91 = .ok (.invokevirtual 127, 3) := by decide +kernel
theorem dX7_readsHint_94 : decode cX7_readsHint 94 = .ok (.istore 4, 2) := by decide +kernel
theorem dX7_readsHint_96 : decode cX7_readsHint 96 = .ok (.aload_n 0, 1) := by decide +kernel
theorem dX7_readsHint_97 : decode cX7_readsHint 97 = .ok (.aload_n 0, 1) := by decide +kernel
theorem dX7_readsHint_98 : decode cX7_readsHint 98 = .ok (.getfield 101, 3) := by decide +kernel
theorem dX7_readsHint_101 : decode cX7_readsHint 101 = .ok (.iconst 4, 1) := by decide +kernel
theorem dX7_readsHint_102 : decode cX7_readsHint 102 = .ok (.if_icmp .ne 7, 3) := by decide +kernel
theorem dX7_readsHint_105 : decode cX7_readsHint 105 = .ok (.iconst 1, 1) := by decide +kernel
theorem dX7_readsHint_106 : decode cX7_readsHint 106 = .ok (.goto 4, 3) := by decide +kernel
theorem dX7_readsHint_109 : decode cX7_readsHint 109 = .ok (.iconst 0, 1) := by decide +kernel
theorem dX7_readsHint_110 : decode cX7_readsHint 110 = .ok (.iconst 1, 1) := by decide +kernel
theorem dX7_readsHint_111 : decode cX7_readsHint 111 = .ok (.invokevirtual 117, 3) := by decide +kernel
theorem dX7_readsHint_114 : decode cX7_readsHint 114 = .ok (.pop, 1) := by decide +kernel
theorem dX7_readsHint_115 : decode cX7_readsHint 115 = .ok (.aload_n 0, 1) := by decide +kernel
theorem dX7_readsHint_116 : decode cX7_readsHint 116 = .ok (.invokevirtual 107, 3) := by decide +kernel
theorem dX7_readsHint_119 : decode cX7_readsHint 119 = .ok (.ifCond .eq 49, 3) := by decide +kernel
theorem dX7_readsHint_122 : decode cX7_readsHint 122 = .ok (.aload_n 0, 1) := by decide +kernel
theorem dX7_readsHint_123 : decode cX7_readsHint 123 = .ok (.getfield 28, 3) := by decide +kernel
theorem dX7_readsHint_126 : decode cX7_readsHint 126 = .ok (.iload_n 2, 1) := by decide +kernel
theorem dX7_readsHint_127 : decode cX7_readsHint 127 = .ok (.iload_n 1, 1) := by decide +kernel
theorem dX7_readsHint_128 : decode cX7_readsHint 128 = .ok (.iastore, 1) := by decide +kernel
theorem dX7_readsHint_129 : decode cX7_readsHint 129 = .ok (.aload_n 0, 1) := by decide +kernel
theorem dX7_readsHint_130 : decode cX7_readsHint 130 = .ok (.getfield 28, 3) := by decide +kernel
theorem dX7_readsHint_133 : decode cX7_readsHint 133 = .ok (.iload_n 2, 1) := by decide +kernel
theorem dX7_readsHint_134 : decode cX7_readsHint 134 = .ok (.iconst 1, 1) := by decide +kernel
theorem dX7_readsHint_135 : decode cX7_readsHint 135 = .ok (.iadd, 1) := by decide +kernel
theorem dX7_readsHint_136 : decode cX7_readsHint 136 = .ok (.iload_n 3, 1) := by decide +kernel
theorem dX7_readsHint_137 : decode cX7_readsHint 137 = .ok (.iastore, 1) := by decide +kernel
theorem dX7_readsHint_138 : decode cX7_readsHint 138 = .ok (.aload_n 0, 1) := by decide +kernel
theorem dX7_readsHint_139 : decode cX7_readsHint 139 = .ok (.getfield 28, 3) := by decide +kernel
theorem dX7_readsHint_142 : decode cX7_readsHint 142 = .ok (.iload_n 2, 1) := by decide +kernel
theorem dX7_readsHint_143 : decode cX7_readsHint 143 = .ok (.iconst 2, 1) := by decide +kernel
theorem dX7_readsHint_144 : decode cX7_readsHint 144 = .ok (.iadd, 1) := by decide +kernel
theorem dX7_readsHint_145 : decode cX7_readsHint 145 = .ok (.iload 4, 2) := by decide +kernel
theorem dX7_readsHint_147 : decode cX7_readsHint 147 = .ok (.iastore, 1) := by decide +kernel
theorem dX7_readsHint_148 : decode cX7_readsHint 148 = .ok (.aload_n 0, 1) := by decide +kernel
theorem dX7_readsHint_149 : decode cX7_readsHint 149 = .ok (.getfield 28, 3) := by decide +kernel
theorem dX7_readsHint_152 : decode cX7_readsHint 152 = .ok (.iload_n 2, 1) := by decide +kernel
theorem dX7_readsHint_153 : decode cX7_readsHint 153 = .ok (.iconst 3, 1) := by decide +kernel
theorem dX7_readsHint_154 : decode cX7_readsHint 154 = .ok (.iadd, 1) := by decide +kernel
theorem dX7_readsHint_155 : decode cX7_readsHint 155 = .ok (.iconst 0, 1) := by decide +kernel
theorem dX7_readsHint_156 : decode cX7_readsHint 156 = .ok (.iastore, 1) := by decide +kernel
theorem dX7_readsHint_157 : decode cX7_readsHint 157 = .ok (.aload_n 0, 1) := by decide +kernel
theorem dX7_readsHint_158 : decode cX7_readsHint 158 = .ok (.getfield 28, 3) := by decide +kernel
theorem dX7_readsHint_161 : decode cX7_readsHint 161 = .ok (.bipush 7, 2) := by decide +kernel
theorem dX7_readsHint_163 : decode cX7_readsHint 163 = .ok (.dup2, 1) := by decide +kernel
theorem dX7_readsHint_164 : decode cX7_readsHint 164 = .ok (.iaload, 1) := by decide +kernel
theorem dX7_readsHint_165 : decode cX7_readsHint 165 = .ok (.iconst 1, 1) := by decide +kernel
theorem dX7_readsHint_166 : decode cX7_readsHint 166 = .ok (.iadd, 1) := by decide +kernel
theorem dX7_readsHint_167 : decode cX7_readsHint 167 = .ok (.iastore, 1) := by decide +kernel
theorem dX7_readsHint_168 : decode cX7_readsHint 168 = .ok (.return_, 1) := by decide +kernel
theorem dX7_readsGuest_0 : decode cX7_readsGuest 0 = .ok (.aload_n 0, 1) := by decide +kernel
theorem dX7_readsGuest_1 : decode cX7_readsGuest 1 = .ok (.aload_n 0, 1) := by decide +kernel
theorem dX7_readsGuest_2 : decode cX7_readsGuest 2 = .ok (.getfield 28, 3) := by decide +kernel
theorem dX7_readsGuest_5 : decode cX7_readsGuest 5 = .ok (.bipush 8, 2) := by decide +kernel
theorem dX7_readsGuest_7 : decode cX7_readsGuest 7 = .ok (.iaload, 1) := by decide +kernel
theorem dX7_readsGuest_8 : decode cX7_readsGuest 8 = .ok (.bipush 6, 2) := by decide +kernel
theorem dX7_readsGuest_10 : decode cX7_readsGuest 10 = .ok (.if_icmp .ge 7, 3) := by decide +kernel
theorem dX7_readsGuest_13 : decode cX7_readsGuest 13 = .ok (.iconst 1, 1) := by decide +kernel
theorem dX7_readsGuest_14 : decode cX7_readsGuest 14 = .ok (.goto 4, 3) := by decide +kernel
theorem dX7_readsGuest_17 : decode cX7_readsGuest 17 = .ok (.iconst 0, 1) := by decide +kernel
theorem dX7_readsGuest_18 : decode cX7_readsGuest 18 = .ok (.iconst 3, 1) := by decide +kernel
theorem dX7_readsGuest_19 : decode cX7_readsGuest 19 = .ok (.invokevirtual 117, 3) := by decide +kernel
theorem dX7_readsGuest_22 : decode cX7_readsGuest 22 = .ok (.pop, 1) := by decide +kernel
theorem dX7_readsGuest_23 : decode cX7_readsGuest 23 = .ok (.bipush 41, 2) := by decide +kernel
theorem dX7_readsGuest_25 : decode cX7_readsGuest 25 = .ok (.iconst 5, 1) := by decide +kernel
theorem dX7_readsGuest_26 : decode cX7_readsGuest 26 = .ok (.aload_n 0, 1) := by decide +kernel
theorem dX7_readsGuest_27 : decode cX7_readsGuest 27 = .ok (.getfield 28, 3) := by decide +kernel
theorem dX7_readsGuest_30 : decode cX7_readsGuest 30 = .ok (.bipush 8, 2) := by decide +kernel
theorem dX7_readsGuest_32 : decode cX7_readsGuest 32 = .ok (.iaload, 1) := by decide +kernel
theorem dX7_readsGuest_33 : decode cX7_readsGuest 33 = .ok (.bipush 6, 2) := by decide +kernel
theorem dX7_readsGuest_35 : decode cX7_readsGuest 35 = .ok (.if_icmp .ge 13, 3) := by decide +kernel
theorem dX7_readsGuest_38 : decode cX7_readsGuest 38 = .ok (.aload_n 0, 1) := by decide +kernel
theorem dX7_readsGuest_39 : decode cX7_readsGuest 39 = .ok (.getfield 28, 3) := by decide +kernel
theorem dX7_readsGuest_42 : decode cX7_readsGuest 42 = .ok (.bipush 8, 2) := by decide +kernel
theorem dX7_readsGuest_44 : decode cX7_readsGuest 44 = .ok (.iaload, 1) := by decide +kernel
theorem dX7_readsGuest_45 : decode cX7_readsGuest 45 = .ok (.goto 4, 3) := by decide +kernel
theorem dX7_readsGuest_48 : decode cX7_readsGuest 48 = .ok (.iconst 0, 1) := by decide +kernel
theorem dX7_readsGuest_49 : decode cX7_readsGuest 49 = .ok (.imul, 1) := by decide +kernel
theorem dX7_readsGuest_50 : decode cX7_readsGuest 50 = .ok (.iadd, 1) := by decide +kernel
theorem dX7_readsGuest_51 : decode cX7_readsGuest 51 = .ok (.istore_n 1, 1) := by decide +kernel
theorem dX7_readsGuest_52 : decode cX7_readsGuest 52 = .ok (.aload_n 0, 1) := by decide +kernel
theorem dX7_readsGuest_53 : decode cX7_readsGuest 53 = .ok (.iconst 0, 1) := by decide +kernel
theorem dX7_readsGuest_54 : decode cX7_readsGuest 54 = .ok (.bipush 7, 2) := by decide +kernel
theorem dX7_readsGuest_56 : decode cX7_readsGuest 56 = .ok (.invokevirtual 124, 3) := by decide +kernel
theorem dX7_readsGuest_59 : decode cX7_readsGuest 59 = .ok (.istore_n 2, 1) := by decide +kernel
theorem dX7_readsGuest_60 : decode cX7_readsGuest 60 = .ok (.aload_n 0, 1) := by decide +kernel
theorem dX7_readsGuest_61 : decode cX7_readsGuest 61 = .ok (.aload_n 0, 1) := by decide +kernel
theorem dX7_readsGuest_62 : decode cX7_readsGuest 62 = .ok (.getfield 101, 3) := by decide +kernel
theorem dX7_readsGuest_65 : decode cX7_readsGuest 65 = .ok (.iconst 3, 1) := by decide +kernel
theorem dX7_readsGuest_66 : decode cX7_readsGuest 66 = .ok (.if_icmp .ne 7, 3) := by decide +kernel
theorem dX7_readsGuest_69 : decode cX7_readsGuest 69 = .ok (.iconst 1, 1) := by decide +kernel
theorem dX7_readsGuest_70 : decode cX7_readsGuest 70 = .ok (.goto 4, 3) := by decide +kernel
theorem dX7_readsGuest_73 : decode cX7_readsGuest 73 = .ok (.iconst 0, 1) := by decide +kernel
theorem dX7_readsGuest_74 : decode cX7_readsGuest 74 = .ok (.iconst 1, 1) := by decide +kernel
theorem dX7_readsGuest_75 : decode cX7_readsGuest 75 = .ok (.invokevirtual 117, 3) := by decide +kernel
theorem dX7_readsGuest_78 : decode cX7_readsGuest 78 = .ok (.pop, 1) := by decide +kernel
theorem dX7_readsGuest_79 : decode cX7_readsGuest 79 = .ok (.aload_n 0, 1) := by decide +kernel
theorem dX7_readsGuest_80 : decode cX7_readsGuest 80 = .ok (.iconst 0, 1) := by decide +kernel
theorem dX7_readsGuest_81 : decode cX7_readsGuest 81 = .ok (.bipush 20, 2) := by decide +kernel
theorem dX7_readsGuest_83 : decode cX7_readsGuest 83 = .ok (.invokevirtual 124, 3) := by decide +kernel
theorem dX7_readsGuest_86 : decode cX7_readsGuest 86 = .ok (.istore_n 3, 1) := by decide +kernel
theorem dX7_readsGuest_87 : decode cX7_readsGuest 87 = .ok (.aload_n 0, 1) := by decide +kernel
theorem dX7_readsGuest_88 : decode cX7_readsGuest 88 = .ok (.aload_n 0, 1) := by decide +kernel
theorem dX7_readsGuest_89 : decode cX7_readsGuest 89 = .ok (.getfield 101, 3) := by decide +kernel
theorem dX7_readsGuest_92 : decode cX7_readsGuest 92 = .ok (.iconst 3, 1) := by decide +kernel
theorem dX7_readsGuest_93 : decode cX7_readsGuest 93 = .ok (.if_icmp .ne 7, 3) := by decide +kernel
theorem dX7_readsGuest_96 : decode cX7_readsGuest 96 = .ok (.iconst 1, 1) := by decide +kernel
theorem dX7_readsGuest_97 : decode cX7_readsGuest 97 = .ok (.goto 4, 3) := by decide +kernel
theorem dX7_readsGuest_100 : decode cX7_readsGuest 100 = .ok (.iconst 0, 1) := by decide +kernel
theorem dX7_readsGuest_101 : decode cX7_readsGuest 101 = .ok (.iconst 1, 1) := by decide +kernel
theorem dX7_readsGuest_102 : decode cX7_readsGuest 102 = .ok (.invokevirtual 117, 3) := by decide +kernel
theorem dX7_readsGuest_105 : decode cX7_readsGuest 105 = .ok (.pop, 1) := by decide +kernel
theorem dX7_readsGuest_106 : decode cX7_readsGuest 106 = .ok (.aload_n 0, 1) := by decide +kernel
theorem dX7_readsGuest_107 : decode cX7_readsGuest 107 = .ok (.iconst 0, 1) := by decide +kernel
theorem dX7_readsGuest_108 : decode cX7_readsGuest 108 = .ok (.bipush 20, 2) := by decide +kernel
theorem dX7_readsGuest_110 : decode cX7_readsGuest 110 = .ok (.invokevirtual 124, 3) := by decide +kernel
theorem dX7_readsGuest_113 : decode cX7_readsGuest 113 = .ok (.istore 4, 2) := by decide +kernel
theorem dX7_readsGuest_115 : decode cX7_readsGuest 115 = .ok (.aload_n 0, 1) := by decide +kernel
theorem dX7_readsGuest_116 : decode cX7_readsGuest 116 = .ok (.aload_n 0, 1) := by decide +kernel
theorem dX7_readsGuest_117 : decode cX7_readsGuest 117 = .ok (.getfield 101, 3) := by decide +kernel
theorem dX7_readsGuest_120 : decode cX7_readsGuest 120 = .ok (.iconst 4, 1) := by decide +kernel
theorem dX7_readsGuest_121 : decode cX7_readsGuest 121 = .ok (.if_icmp .ne 7, 3) := by decide +kernel
theorem dX7_readsGuest_124 : decode cX7_readsGuest 124 = .ok (.iconst 1, 1) := by decide +kernel
theorem dX7_readsGuest_125 : decode cX7_readsGuest 125 = .ok (.goto 4, 3) := by decide +kernel
theorem dX7_readsGuest_128 : decode cX7_readsGuest 128 = .ok (.iconst 0, 1) := by decide +kernel
theorem dX7_readsGuest_129 : decode cX7_readsGuest 129 = .ok (.iconst 1, 1) := by decide +kernel
theorem dX7_readsGuest_130 : decode cX7_readsGuest 130 = .ok (.invokevirtual 117, 3) := by decide +kernel
theorem dX7_readsGuest_133 : decode cX7_readsGuest 133 = .ok (.pop, 1) := by decide +kernel
theorem dX7_readsGuest_134 : decode cX7_readsGuest 134 = .ok (.aload_n 0, 1) := by decide +kernel
theorem dX7_readsGuest_135 : decode cX7_readsGuest 135 = .ok (.invokevirtual 107, 3) := by decide +kernel
theorem dX7_readsGuest_138 : decode cX7_readsGuest 138 = .ok (.ifCond .eq 61, 3) := by decide +kernel
theorem dX7_readsGuest_141 : decode cX7_readsGuest 141 = .ok (.aload_n 0, 1) := by decide +kernel
theorem dX7_readsGuest_142 : decode cX7_readsGuest 142 = .ok (.getfield 28, 3) := by decide +kernel
theorem dX7_readsGuest_145 : decode cX7_readsGuest 145 = .ok (.iload_n 1, 1) := by decide +kernel
theorem dX7_readsGuest_146 : decode cX7_readsGuest 146 = .ok (.iconst 0, 1) := by decide +kernel
theorem dX7_readsGuest_147 : decode cX7_readsGuest 147 = .ok (.iadd, 1) := by decide +kernel
theorem dX7_readsGuest_148 : decode cX7_readsGuest 148 = .ok (.iload_n 2, 1) := by decide +kernel
theorem dX7_readsGuest_149 : decode cX7_readsGuest 149 = .ok (.iastore, 1) := by decide +kernel
theorem dX7_readsGuest_150 : decode cX7_readsGuest 150 = .ok (.aload_n 0, 1) := by decide +kernel
theorem dX7_readsGuest_151 : decode cX7_readsGuest 151 = .ok (.getfield 28, 3) := by decide +kernel
theorem dX7_readsGuest_154 : decode cX7_readsGuest 154 = .ok (.iload_n 1, 1) := by decide +kernel
theorem dX7_readsGuest_155 : decode cX7_readsGuest 155 = .ok (.iconst 1, 1) := by decide +kernel
theorem dX7_readsGuest_156 : decode cX7_readsGuest 156 = .ok (.iadd, 1) := by decide +kernel
theorem dX7_readsGuest_157 : decode cX7_readsGuest 157 = .ok (.iload_n 3, 1) := by decide +kernel
theorem dX7_readsGuest_158 : decode cX7_readsGuest 158 = .ok (.iastore, 1) := by decide +kernel
theorem dX7_readsGuest_159 : decode cX7_readsGuest 159 = .ok (.aload_n 0, 1) := by decide +kernel
theorem dX7_readsGuest_160 : decode cX7_readsGuest 160 = .ok (.getfield 28, 3) := by decide +kernel
theorem dX7_readsGuest_163 : decode cX7_readsGuest 163 = .ok (.iload_n 1, 1) := by decide +kernel
theorem dX7_readsGuest_164 : decode cX7_readsGuest 164 = .ok (.iconst 2, 1) := by decide +kernel
theorem dX7_readsGuest_165 : decode cX7_readsGuest 165 = .ok (.iadd, 1) := by decide +kernel
theorem dX7_readsGuest_166 : decode cX7_readsGuest 166 = .ok (.iload 4, 2) := by decide +kernel
theorem dX7_readsGuest_168 : decode cX7_readsGuest 168 = .ok (.iastore, 1) := by decide +kernel
theorem dX7_readsGuest_169 : decode cX7_readsGuest 169 = .ok (.aload_n 0, 1) := by decide +kernel
theorem dX7_readsGuest_170 : decode cX7_readsGuest 170 = .ok (.getfield 28, 3) := by decide +kernel
theorem dX7_readsGuest_173 : decode cX7_readsGuest 173 = .ok (.iload_n 1, 1) := by decide +kernel
theorem dX7_readsGuest_174 : decode cX7_readsGuest 174 = .ok (.iconst 3, 1) := by decide +kernel
theorem dX7_readsGuest_175 : decode cX7_readsGuest 175 = .ok (.iadd, 1) := by decide +kernel
theorem dX7_readsGuest_176 : decode cX7_readsGuest 176 = .ok (.iconst 0, 1) := by decide +kernel
theorem dX7_readsGuest_177 : decode cX7_readsGuest 177 = .ok (.iastore, 1) := by decide +kernel
theorem dX7_readsGuest_178 : decode cX7_readsGuest 178 = .ok (.aload_n 0, 1) := by decide +kernel
theorem dX7_readsGuest_179 : decode cX7_readsGuest 179 = .ok (.getfield 28, 3) := by decide +kernel
theorem dX7_readsGuest_182 : decode cX7_readsGuest 182 = .ok (.iload_n 1, 1) := by decide +kernel
theorem dX7_readsGuest_183 : decode cX7_readsGuest 183 = .ok (.iconst 4, 1) := by decide +kernel
theorem dX7_readsGuest_184 : decode cX7_readsGuest 184 = .ok (.iadd, 1) := by decide +kernel
theorem dX7_readsGuest_185 : decode cX7_readsGuest 185 = .ok (.ldc 53, 2) := by decide +kernel
theorem dX7_readsGuest_187 : decode cX7_readsGuest 187 = .ok (.iastore, 1) := by decide +kernel
theorem dX7_readsGuest_188 : decode cX7_readsGuest 188 = .ok (.aload_n 0, 1) := by decide +kernel
theorem dX7_readsGuest_189 : decode cX7_readsGuest 189 = .ok (.getfield 28, 3) := by decide +kernel
theorem dX7_readsGuest_192 : decode cX7_readsGuest 192 = .ok (.bipush 8, 2) := by decide +kernel
theorem dX7_readsGuest_194 : decode cX7_readsGuest 194 = .ok (.dup2, 1) := by decide +kernel
theorem dX7_readsGuest_195 : decode cX7_readsGuest 195 = .ok (.iaload, 1) := by decide +kernel
theorem dX7_readsGuest_196 : decode cX7_readsGuest 196 = .ok (.iconst 1, 1) := by decide +kernel
theorem dX7_readsGuest_197 : decode cX7_readsGuest 197 = .ok (.iadd, 1) := by decide +kernel
theorem dX7_readsGuest_198 : decode cX7_readsGuest 198 = .ok (.iastore, 1) := by decide +kernel
theorem dX7_readsGuest_199 : decode cX7_readsGuest 199 = .ok (.return_, 1) := by decide +kernel
theorem dX7_castle_0 : decode cX7_castle 0 = .ok (.iconst 0, 1) := by decide +kernel
theorem dX7_castle_1 : decode cX7_castle 1 = .ok (.istore_n 1, 1) := by decide +kernel
theorem dX7_castle_2 : decode cX7_castle 2 = .ok (.iload_n 1, 1) := by decide +kernel
theorem dX7_castle_3 : decode cX7_castle 3 = .ok (.bipush 71, 2) := by decide +kernel
theorem dX7_castle_5 : decode cX7_castle 5 = .ok (.if_icmp .ge 16, 3) := by decide +kernel
theorem dX7_castle_8 : decode cX7_castle 8 = .ok (.aload_n 0, 1) := by decide +kernel
theorem dX7_castle_9 : decode cX7_castle 9 = .ok (.getfield 28, 3) := by decide +kernel
theorem dX7_castle_12 : decode cX7_castle 12 = .ok (.iload_n 1, 1) := by decide +kernel
theorem dX7_castle_13 : decode cX7_castle 13 = .ok (.iconst 0, 1) := by decide +kernel
theorem dX7_castle_14 : decode cX7_castle 14 = .ok (.iastore, 1) := by decide +kernel
theorem dX7_castle_15 : decode cX7_castle 15 = .ok (.iinc 1 1, 3) := by decide +kernel
theorem dX7_castle_18 : decode cX7_castle 18 = .ok (.goto (-16), 3) := by decide +kernel
theorem dX7_castle_21 : decode cX7_castle 21 = .ok (.aload_n 0, 1) := by decide +kernel
theorem dX7_castle_22 : decode cX7_castle 22 = .ok (.getfield 28, 3) := by decide +kernel
theorem dX7_castle_25 : decode cX7_castle 25 = .ok (.iconst 3, 1) := by decide +kernel
theorem dX7_castle_26 : decode cX7_castle 26 = .ok (.iconst (-1), 1) := by decide +kernel
theorem dX7_castle_27 : decode cX7_castle 27 = .ok (.iastore, 1) := by decide +kernel
theorem dX7_castle_28 : decode cX7_castle 28 = .ok (.aload_n 0, 1) := by decide +kernel
theorem dX7_castle_29 : decode cX7_castle 29 = .ok (.iconst 0, 1) := by decide +kernel
theorem dX7_castle_30 : decode cX7_castle 30 = .ok (.putfield 89, 3) := by decide +kernel
theorem dX7_castle_33 : decode cX7_castle 33 = .ok (.aload_n 0, 1) := by decide +kernel
theorem dX7_castle_34 : decode cX7_castle 34 = .ok (.iconst (-1), 1) := by decide +kernel
theorem dX7_castle_35 : decode cX7_castle 35 = .ok (.putfield 104, 3) := by decide +kernel
theorem dX7_castle_38 : decode cX7_castle 38 = .ok (.aload_n 0, 1) := by decide +kernel
theorem dX7_castle_39 : decode cX7_castle 39 = .ok (.invokevirtual 114, 3) := by decide +kernel
theorem dX7_castle_42 : decode cX7_castle 42 = .ok (.aload_n 0, 1) := by decide +kernel
theorem dX7_castle_43 : decode cX7_castle 43 = .ok (.aload_n 0, 1) := by decide +kernel
theorem dX7_castle_44 : decode cX7_castle 44 = .ok (.getfield 101, 3) := by decide +kernel
theorem dX7_castle_47 : decode cX7_castle 47 = .ok (.iconst 1, 1) := by decide +kernel
theorem dX7_castle_48 : decode cX7_castle 48 = .ok (.if_icmp .ne 16, 3) := by decide +kernel
theorem dX7_castle_51 : decode cX7_castle 51 = .ok (.aload_n 0, 1) := by decide +kernel
theorem dX7_castle_52 : decode cX7_castle 52 = .ok (.getfield 98, 3) := by decide +kernel
theorem dX7_castle_55 : decode cX7_castle 55 = .ok (.bipush 107, 2) := by decide +kernel
theorem dX7_castle_57 : decode cX7_castle 57 = .ok (.if_icmp .ne 7, 3) := by decide +kernel
theorem dX7_castle_60 : decode cX7_castle 60 = .ok (.iconst 1, 1) := by decide +kernel
theorem dX7_castle_61 : decode cX7_castle 61 = .ok (.goto 4, 3) := by decide +kernel
theorem dX7_castle_64 : decode cX7_castle 64 = .ok (.iconst 0, 1) := by decide +kernel
theorem dX7_castle_65 : decode cX7_castle 65 = .ok (.iconst 1, 1) := by decide +kernel
theorem dX7_castle_66 : decode cX7_castle 66 = .ok (.invokevirtual 117, 3) := by decide +kernel
theorem dX7_castle_69 : decode cX7_castle 69 = .ok (.pop, 1) := by decide +kernel
theorem dX7_castle_70 : decode cX7_castle 70 = .ok (.aload_n 0, 1) := by decide +kernel
theorem dX7_castle_71 : decode cX7_castle 71 = .ok (.getfield 28, 3) := by decide +kernel
theorem dX7_castle_74 : decode cX7_castle 74 = .ok (.iconst 1, 1) := by decide +kernel
theorem dX7_castle_75 : decode cX7_castle 75 = .ok (.aload_n 0, 1) := by decide +kernel
theorem dX7_castle_76 : decode cX7_castle 76 = .ok (.iconst 0, 1) := by decide +kernel
theorem dX7_castle_77 : decode cX7_castle 77 = .ok (.bipush 7, 2) := by decide +kernel
theorem dX7_castle_79 : decode cX7_castle 79 = .ok (.invokevirtual 124, 3) := by decide +kernel
theorem dX7_castle_82 : decode cX7_castle 82 = .ok (.iastore, 1) := by decide +kernel
theorem dX7_castle_83 : decode cX7_castle 83 = .ok (.aload_n 0, 1) := by decide +kernel
theorem dX7_castle_84 : decode cX7_castle 84 = .ok (.aload_n 0, 1) := by decide +kernel
theorem dX7_castle_85 : decode cX7_castle 85 = .ok (.getfield 101, 3) := by decide +kernel
theorem dX7_castle_88 : decode cX7_castle 88 = .ok (.iconst 3, 1) := by decide +kernel
theorem dX7_castle_89 : decode cX7_castle 89 = .ok (.if_icmp .ne 7, 3) := by decide +kernel
theorem dX7_castle_92 : decode cX7_castle 92 = .ok (.iconst 1, 1) := by decide +kernel
theorem dX7_castle_93 : decode cX7_castle 93 = .ok (.goto 4, 3) := by decide +kernel
theorem dX7_castle_96 : decode cX7_castle 96 = .ok (.iconst 0, 1) := by decide +kernel
theorem dX7_castle_97 : decode cX7_castle 97 = .ok (.iconst 1, 1) := by decide +kernel
theorem dX7_castle_98 : decode cX7_castle 98 = .ok (.invokevirtual 117, 3) := by decide +kernel
theorem dX7_castle_101 : decode cX7_castle 101 = .ok (.pop, 1) := by decide +kernel
theorem dX7_castle_102 : decode cX7_castle 102 = .ok (.aload_n 0, 1) := by decide +kernel
theorem dX7_castle_103 : decode cX7_castle 103 = .ok (.getfield 28, 3) := by decide +kernel
theorem dX7_castle_106 : decode cX7_castle 106 = .ok (.iconst 2, 1) := by decide +kernel
theorem dX7_castle_107 : decode cX7_castle 107 = .ok (.aload_n 0, 1) := by decide +kernel
theorem dX7_castle_108 : decode cX7_castle 108 = .ok (.bipush 7, 2) := by decide +kernel
theorem dX7_castle_110 : decode cX7_castle 110 = .ok (.aload_n 0, 1) := by decide +kernel
theorem dX7_castle_111 : decode cX7_castle 111 = .ok (.getfield 28, 3) := by decide +kernel
theorem dX7_castle_114 : decode cX7_castle 114 = .ok (.iconst 1, 1) := by decide +kernel
theorem dX7_castle_115 : decode cX7_castle 115 = .ok (.iaload, 1) := by decide +kernel
theorem dX7_castle_116 : decode cX7_castle 116 = .ok (.invokevirtual 127, 3) := by decide +kernel
theorem dX7_castle_119 : decode cX7_castle 119 = .ok (.iastore, 1) := by decide +kernel
theorem dX7_castle_120 : decode cX7_castle 120 = .ok (.aload_n 0, 1) := by decide +kernel
theorem dX7_castle_121 : decode cX7_castle 121 = .ok (.aload_n 0, 1) := by decide +kernel
theorem dX7_castle_122 : decode cX7_castle 122 = .ok (.getfield 101, 3) := by decide +kernel
theorem dX7_castle_125 : decode cX7_castle 125 = .ok (.iconst 3, 1) := by decide +kernel
theorem dX7_castle_126 : decode cX7_castle 126 = .ok (.if_icmp .ne 7, 3) := by decide +kernel
theorem dX7_castle_129 : decode cX7_castle 129 = .ok (.iconst 1, 1) := by decide +kernel
theorem dX7_castle_130 : decode cX7_castle 130 = .ok (.goto 4, 3) := by decide +kernel
theorem dX7_castle_133 : decode cX7_castle 133 = .ok (.iconst 0, 1) := by decide +kernel
theorem dX7_castle_134 : decode cX7_castle 134 = .ok (.iconst 1, 1) := by decide +kernel
theorem dX7_castle_135 : decode cX7_castle 135 = .ok (.invokevirtual 117, 3) := by decide +kernel
theorem dX7_castle_138 : decode cX7_castle 138 = .ok (.pop, 1) := by decide +kernel
theorem dX7_castle_139 : decode cX7_castle 139 = .ok (.aload_n 0, 1) := by decide +kernel
theorem dX7_castle_140 : decode cX7_castle 140 = .ok (.getfield 28, 3) := by decide +kernel
theorem dX7_castle_143 : decode cX7_castle 143 = .ok (.iconst 0, 1) := by decide +kernel
theorem dX7_castle_144 : decode cX7_castle 144 = .ok (.aload_n 0, 1) := by decide +kernel
theorem dX7_castle_145 : decode cX7_castle 145 = .ok (.iconst 1, 1) := by decide +kernel
theorem dX7_castle_146 : decode cX7_castle 146 = .ok (.iconst 5, 1) := by decide +kernel
theorem dX7_castle_147 : decode cX7_castle 147 = .ok (.invokevirtual 124, 3) := by decide +kernel
theorem dX7_castle_150 : decode cX7_castle 150 = .ok (.iastore, 1) := by decide +kernel
theorem dX7_castle_151 : decode cX7_castle 151 = .ok (.aload_n 0, 1) := by decide +kernel
theorem dX7_castle_152 : decode cX7_castle 152 = .ok (.aload_n 0, 1) := by decide +kernel
theorem dX7_castle_153 : decode cX7_castle 153 = .ok (.getfield 101, 3) := by decide +kernel
theorem dX7_castle_156 : decode cX7_castle 156 = .ok (.iconst 4, 1) := by decide +kernel
theorem dX7_castle_157 : decode cX7_castle 157 = .ok (.if_icmp .ne 7, 3) := by decide +kernel
theorem dX7_castle_160 : decode cX7_castle 160 = .ok (.iconst 1, 1) := by decide +kernel
theorem dX7_castle_161 : decode cX7_castle 161 = .ok (.goto 4, 3) := by decide +kernel
theorem dX7_castle_164 : decode cX7_castle 164 = .ok (.iconst 0, 1) := by decide +kernel
theorem dX7_castle_165 : decode cX7_castle 165 = .ok (.iconst 1, 1) := by decide +kernel
theorem dX7_castle_166 : decode cX7_castle 166 = .ok (.invokevirtual 117, 3) := by decide +kernel
theorem dX7_castle_169 : decode cX7_castle 169 = .ok (.pop, 1) := by decide +kernel
theorem dX7_castle_170 : decode cX7_castle 170 = .ok (.aload_n 0, 1) := by decide +kernel
theorem dX7_castle_171 : decode cX7_castle 171 = .ok (.invokevirtual 107, 3) := by decide +kernel
theorem dX7_castle_174 : decode cX7_castle 174 = .ok (.ifCond .eq 28, 3) := by decide +kernel
theorem dX7_castle_177 : decode cX7_castle 177 = .ok (.aload_n 0, 1) := by decide +kernel
theorem dX7_castle_178 : decode cX7_castle 178 = .ok (.getfield 101, 3) := by decide +kernel
theorem dX7_castle_181 : decode cX7_castle 181 = .ok (.iconst 1, 1) := by decide +kernel
theorem dX7_castle_182 : decode cX7_castle 182 = .ok (.if_icmp .ne 20, 3) := by decide +kernel
theorem dX7_castle_185 : decode cX7_castle 185 = .ok (.aload_n 0, 1) := by decide +kernel
theorem dX7_castle_186 : decode cX7_castle 186 = .ok (.getfield 98, 3) := by decide +kernel
theorem dX7_castle_189 : decode cX7_castle 189 = .ok (.invokestatic 121, 3) := by decide +kernel
theorem dX7_castle_192 : decode cX7_castle 192 = .ok (.ifCond .le 10, 3) := by decide +kernel
theorem dX7_castle_195 : decode cX7_castle 195 = .ok (.aload_n 0, 1) := by decide +kernel
theorem dX7_castle_196 : decode cX7_castle 196 = .ok (.invokevirtual 130, 3) := by decide +kernel
theorem dX7_castle_199 : decode cX7_castle 199 = .ok (.goto (-29), 3) := by decide +kernel
theorem dX7_castle_202 : decode cX7_castle 202 = .ok (.aload_n 0, 1) := by decide +kernel
theorem dX7_castle_203 : decode cX7_castle 203 = .ok (.invokevirtual 107, 3) := by decide +kernel
theorem dX7_castle_206 : decode cX7_castle 206 = .ok (.ifCond .eq 27, 3) := by decide +kernel
theorem dX7_castle_209 : decode cX7_castle 209 = .ok (.aload_n 0, 1) := by decide +kernel
theorem dX7_castle_210 : decode cX7_castle 210 = .ok (.getfield 101, 3) := by decide +kernel
theorem dX7_castle_213 : decode cX7_castle 213 = .ok (.iconst 1, 1) := by decide +kernel
theorem dX7_castle_214 : decode cX7_castle 214 = .ok (.if_icmp .ne 19, 3) := by decide +kernel
theorem dX7_castle_217 : decode cX7_castle 217 = .ok (.aload_n 0, 1) := by decide +kernel
theorem dX7_castle_218 : decode cX7_castle 218 = .ok (.getfield 98, 3) := by decide +kernel
theorem dX7_castle_221 : decode cX7_castle 221 = .ok (.bipush 110, 2) := by decide +kernel
theorem dX7_castle_223 : decode cX7_castle 223 = .ok (.if_icmp .ne 10, 3) := by decide +kernel
theorem dX7_castle_226 : decode cX7_castle 226 = .ok (.aload_n 0, 1) := by decide +kernel
theorem dX7_castle_227 : decode cX7_castle 227 = .ok (.invokevirtual 133, 3) := by decide +kernel
theorem dX7_castle_230 : decode cX7_castle 230 = .ok (.goto (-28), 3) := by decide +kernel
theorem dX7_castle_233 : decode cX7_castle 233 = .ok (.aload_n 0, 1) := by decide +kernel
theorem dX7_castle_234 : decode cX7_castle 234 = .ok (.invokevirtual 107, 3) := by decide +kernel
theorem dX7_castle_237 : decode cX7_castle 237 = .ok (.ifCond .eq 17, 3) := by decide +kernel
theorem dX7_castle_240 : decode cX7_castle 240 = .ok (.aload_n 0, 1) := by decide +kernel
theorem dX7_castle_241 : decode cX7_castle 241 = .ok (.getfield 101, 3) := by decide +kernel
theorem dX7_castle_244 : decode cX7_castle 244 = .ok (.ifCond .eq 10, 3) := by decide +kernel
theorem dX7_castle_247 : decode cX7_castle 247 = .ok (.aload_n 0, 1) := by decide +kernel
theorem dX7_castle_248 : decode cX7_castle 248 = .ok (.iconst 0, 1) := by decide +kernel
theorem dX7_castle_249 : decode cX7_castle 249 = .ok (.iconst 1, 1) := by decide +kernel
theorem dX7_castle_250 : decode cX7_castle 250 = .ok (.invokevirtual 117, 3) := by decide +kernel
theorem dX7_castle_253 : decode cX7_castle 253 = .ok (.pop, 1) := by decide +kernel
theorem dX7_castle_254 : decode cX7_castle 254 = .ok (.aload_n 0, 1) := by decide +kernel
theorem dX7_castle_255 : decode cX7_castle 255 = .ok (.iconst 0, 1) := by decide +kernel
theorem dX7_castle_256 : decode cX7_castle 256 = .ok (.putfield 85, 3) := by decide +kernel
theorem dX7_castle_259 : decode cX7_castle 259 = .ok (.aload_n 0, 1) := by decide +kernel
theorem dX7_castle_260 : decode cX7_castle 260 = .ok (.invokevirtual 107, 3) := by decide +kernel
theorem dX7_castle_263 : decode cX7_castle 263 = .ok (.ifCond .ne 11, 3) := by decide +kernel
theorem dX7_castle_266 : decode cX7_castle 266 = .ok (.ldc 136, 2) := by decide +kernel
theorem dX7_castle_268 : decode cX7_castle 268 = .ok (.aload_n 0, 1) := by decide +kernel
theorem dX7_castle_269 : decode cX7_castle 269 = .ok (.getfield 104, 3) := by decide +kernel
theorem dX7_castle_272 : decode cX7_castle 272 = .ok (.isub, 1) := by decide +kernel
theorem dX7_castle_273 : decode cX7_castle 273 = .ok (.ireturn, 1) := by decide +kernel
theorem dX7_castle_274 : decode cX7_castle 274 = .ok (.aload_n 0, 1) := by decide +kernel
theorem dX7_castle_275 : decode cX7_castle 275 = .ok (.getfield 28, 3) := by decide +kernel
theorem dX7_castle_278 : decode cX7_castle 278 = .ok (.iconst 0, 1) := by decide +kernel
theorem dX7_castle_279 : decode cX7_castle 279 = .ok (.aload_n 0, 1) := by decide +kernel
theorem dX7_castle_280 : decode cX7_castle 280 = .ok (.getfield 25, 3) := by decide +kernel
theorem dX7_castle_283 : decode cX7_castle 283 = .ok (.iconst 0, 1) := by decide +kernel
theorem dX7_castle_284 : decode cX7_castle 284 = .ok (.invokestatic 137, 3) := by decide +kernel
theorem dX7_castle_287 : decode cX7_castle 287 = .ok (.aload_n 0, 1) := by decide +kernel
theorem dX7_castle_288 : decode cX7_castle 288 = .ok (.iconst 0, 1) := by decide +kernel
theorem dX7_castle_289 : decode cX7_castle 289 = .ok (.putfield 141, 3) := by decide +kernel
theorem dX7_castle_292 : decode cX7_castle 292 = .ok (.aload_n 0, 1) := by decide +kernel
theorem dX7_castle_293 : decode cX7_castle 293 = .ok (.getfield 25, 3) := by decide +kernel
theorem dX7_castle_296 : decode cX7_castle 296 = .ok (.bipush 8, 2) := by decide +kernel
theorem dX7_castle_298 : decode cX7_castle 298 = .ok (.iaload, 1) := by decide +kernel
theorem dX7_castle_299 : decode cX7_castle 299 = .ok (.ireturn, 1) := by decide +kernel
theorem dX7_fault_0 : decode cX7_fault 0 = .ok (.aload_n 0, 1) := by decide +kernel
theorem dX7_fault_1 : decode cX7_fault 1 = .ok (.getfield 111, 3) := by decide +kernel
theorem dX7_fault_4 : decode cX7_fault 4 = .ok (.ireturn, 1) := by decide +kernel
theorem dX7_isCastle_0 : decode cX7_isCastle 0 = .ok (.aload_n 0, 1) := by decide +kernel
theorem dX7_isCastle_1 : decode cX7_isCastle 1 = .ok (.getfield 25, 3) := by decide +kernel
theorem dX7_isCastle_4 : decode cX7_isCastle 4 = .ok (.iconst 0, 1) := by decide +kernel
theorem dX7_isCastle_5 : decode cX7_isCastle 5 = .ok (.iaload, 1) := by decide +kernel
theorem dX7_isCastle_6 : decode cX7_isCastle 6 = .ok (.ifCond .le 7, 3) := by decide +kernel
theorem dX7_isCastle_9 : decode cX7_isCastle 9 = .ok (.iconst 1, 1) := by decide +kernel
theorem dX7_isCastle_10 : decode cX7_isCastle 10 = .ok (.goto 4, 3) := by decide +kernel
theorem dX7_isCastle_13 : decode cX7_isCastle 13 = .ok (.iconst 0, 1) := by decide +kernel
theorem dX7_isCastle_14 : decode cX7_isCastle 14 = .ok (.ireturn, 1) := by decide +kernel
theorem dX7_isHint_0 : decode cX7_isHint 0 = .ok (.iload_n 1, 1) := by decide +kernel
theorem dX7_isHint_1 : decode cX7_isHint 1 = .ok (.iconst 0, 1) := by decide +kernel
theorem dX7_isHint_2 : decode cX7_isHint 2 = .ok (.aload_n 0, 1) := by decide +kernel
theorem dX7_isHint_3 : decode cX7_isHint 3 = .ok (.getfield 25, 3) := by decide +kernel
theorem dX7_isHint_6 : decode cX7_isHint 6 = .ok (.bipush 7, 2) := by decide +kernel
theorem dX7_isHint_8 : decode cX7_isHint 8 = .ok (.iaload, 1) := by decide +kernel
theorem dX7_isHint_9 : decode cX7_isHint 9 = .ok (.iconst 1, 1) := by decide +kernel
theorem dX7_isHint_10 : decode cX7_isHint 10 = .ok (.isub, 1) := by decide +kernel
theorem dX7_isHint_11 : decode cX7_isHint 11 = .ok (.invokestatic 59, 3) := by decide +kernel
theorem dX7_isHint_14 : decode cX7_isHint 14 = .ok (.ireturn, 1) := by decide +kernel
theorem dX7_isGuest_0 : decode cX7_isGuest 0 = .ok (.iload_n 1, 1) := by decide +kernel
theorem dX7_isGuest_1 : decode cX7_isGuest 1 = .ok (.iconst 0, 1) := by decide +kernel
theorem dX7_isGuest_2 : decode cX7_isGuest 2 = .ok (.aload_n 0, 1) := by decide +kernel
theorem dX7_isGuest_3 : decode cX7_isGuest 3 = .ok (.getfield 25, 3) := by decide +kernel
theorem dX7_isGuest_6 : decode cX7_isGuest 6 = .ok (.bipush 8, 2) := by decide +kernel
theorem dX7_isGuest_8 : decode cX7_isGuest 8 = .ok (.iaload, 1) := by decide +kernel
theorem dX7_isGuest_9 : decode cX7_isGuest 9 = .ok (.iconst 1, 1) := by decide +kernel
theorem dX7_isGuest_10 : decode cX7_isGuest 10 = .ok (.isub, 1) := by decide +kernel
theorem dX7_isGuest_11 : decode cX7_isGuest 11 = .ok (.invokestatic 59, 3) := by decide +kernel
theorem dX7_isGuest_14 : decode cX7_isGuest 14 = .ok (.ireturn, 1) := by decide +kernel
theorem dX7_of_0 : decode cX7_of 0 = .ok (.aload_n 0, 1) := by decide +kernel
theorem dX7_of_1 : decode cX7_of 1 = .ok (.getfield 25, 3) := by decide +kernel
theorem dX7_of_4 : decode cX7_of 4 = .ok (.bipush 41, 2) := by decide +kernel
theorem dX7_of_6 : decode cX7_of 6 = .ok (.iconst 5, 1) := by decide +kernel
theorem dX7_of_7 : decode cX7_of 7 = .ok (.iload_n 1, 1) := by decide +kernel
theorem dX7_of_8 : decode cX7_of 8 = .ok (.imul, 1) := by decide +kernel
theorem dX7_of_9 : decode cX7_of 9 = .ok (.iadd, 1) := by decide +kernel
theorem dX7_of_10 : decode cX7_of 10 = .ok (.iload_n 2, 1) := by decide +kernel
theorem dX7_of_11 : decode cX7_of 11 = .ok (.iadd, 1) := by decide +kernel
theorem dX7_of_12 : decode cX7_of 12 = .ok (.iaload, 1) := by decide +kernel
theorem dX7_of_13 : decode cX7_of 13 = .ok (.ireturn, 1) := by decide +kernel
theorem dX7_isToCome_0 : decode cX7_isToCome 0 = .ok (.aload_n 0, 1) := by decide +kernel
theorem dX7_isToCome_1 : decode cX7_isToCome 1 = .ok (.iload_n 1, 1) := by decide +kernel
theorem dX7_isToCome_2 : decode cX7_isToCome 2 = .ok (.iconst 3, 1) := by decide +kernel
theorem dX7_isToCome_3 : decode cX7_isToCome 3 = .ok (.invokevirtual 144, 3) := by decide +kernel
theorem dX7_isToCome_6 : decode cX7_isToCome 6 = .ok (.ifCond .ne 7, 3) := by decide +kernel
theorem dX7_isToCome_9 : decode cX7_isToCome 9 = .ok (.iconst 1, 1) := by decide +kernel
theorem dX7_isToCome_10 : decode cX7_isToCome 10 = .ok (.goto 4, 3) := by decide +kernel
theorem dX7_isToCome_13 : decode cX7_isToCome 13 = .ok (.iconst 0, 1) := by decide +kernel
theorem dX7_isToCome_14 : decode cX7_isToCome 14 = .ok (.ireturn, 1) := by decide +kernel
theorem dX7_dares_0 : decode cX7_dares 0 = .ok (.aload_n 0, 1) := by decide +kernel
theorem dX7_dares_1 : decode cX7_dares 1 = .ok (.iload_n 1, 1) := by decide +kernel
theorem dX7_dares_2 : decode cX7_dares 2 = .ok (.iconst 2, 1) := by decide +kernel
theorem dX7_dares_3 : decode cX7_dares 3 = .ok (.invokevirtual 144, 3) := by decide +kernel
theorem dX7_dares_6 : decode cX7_dares 6 = .ok (.aload_n 0, 1) := by decide +kernel
theorem dX7_dares_7 : decode cX7_dares 7 = .ok (.iload_n 1, 1) := by decide +kernel
theorem dX7_dares_8 : decode cX7_dares 8 = .ok (.iconst 1, 1) := by decide +kernel
theorem dX7_dares_9 : decode cX7_dares 9 = .ok (.invokevirtual 144, 3) := by decide +kernel
theorem dX7_dares_12 : decode cX7_dares 12 = .ok (.if_icmp .lt 7, 3) := by decide +kernel
theorem dX7_dares_15 : decode cX7_dares 15 = .ok (.iconst 1, 1) := by decide +kernel
theorem dX7_dares_16 : decode cX7_dares 16 = .ok (.goto 4, 3) := by decide +kernel
theorem dX7_dares_19 : decode cX7_dares 19 = .ok (.iconst 0, 1) := by decide +kernel
theorem dX7_dares_20 : decode cX7_dares 20 = .ok (.ireturn, 1) := by decide +kernel
theorem dX7_leadsTo_0 : decode cX7_leadsTo 0 = .ok (.bipush 9, 2) := by decide +kernel
theorem dX7_leadsTo_2 : decode cX7_leadsTo 2 = .ok (.iconst 4, 1) := by decide +kernel
theorem dX7_leadsTo_3 : decode cX7_leadsTo 3 = .ok (.iload_n 1, 1) := by decide +kernel
theorem dX7_leadsTo_4 : decode cX7_leadsTo 4 = .ok (.imul, 1) := by decide +kernel
theorem dX7_leadsTo_5 : decode cX7_leadsTo 5 = .ok (.iadd, 1) := by decide +kernel
theorem dX7_leadsTo_6 : decode cX7_leadsTo 6 = .ok (.istore 4, 2) := by decide +kernel
theorem dX7_leadsTo_8 : decode cX7_leadsTo 8 = .ok (.aload_n 0, 1) := by decide +kernel
theorem dX7_leadsTo_9 : decode cX7_leadsTo 9 = .ok (.getfield 25, 3) := by decide +kernel
theorem dX7_leadsTo_12 : decode cX7_leadsTo 12 = .ok (.iload 4, 2) := by decide +kernel
theorem dX7_leadsTo_14 : decode cX7_leadsTo 14 = .ok (.iaload, 1) := by decide +kernel
theorem dX7_leadsTo_15 : decode cX7_leadsTo 15 = .ok (.istore 5, 2) := by decide +kernel
theorem dX7_leadsTo_17 : decode cX7_leadsTo 17 = .ok (.aload_n 0, 1) := by decide +kernel
theorem dX7_leadsTo_18 : decode cX7_leadsTo 18 = .ok (.getfield 25, 3) := by decide +kernel
theorem dX7_leadsTo_21 : decode cX7_leadsTo 21 = .ok (.iload 4, 2) := by decide +kernel
theorem dX7_leadsTo_23 : decode cX7_leadsTo 23 = .ok (.iconst 1, 1) := by decide +kernel
theorem dX7_leadsTo_24 : decode cX7_leadsTo 24 = .ok (.iadd, 1) := by decide +kernel
theorem dX7_leadsTo_25 : decode cX7_leadsTo 25 = .ok (.iaload, 1) := by decide +kernel
theorem dX7_leadsTo_26 : decode cX7_leadsTo 26 = .ok (.istore 6, 2) := by decide +kernel
theorem dX7_leadsTo_28 : decode cX7_leadsTo 28 = .ok (.aload_n 0, 1) := by decide +kernel
theorem dX7_leadsTo_29 : decode cX7_leadsTo 29 = .ok (.getfield 25, 3) := by decide +kernel
theorem dX7_leadsTo_32 : decode cX7_leadsTo 32 = .ok (.iload 4, 2) := by decide +kernel
theorem dX7_leadsTo_34 : decode cX7_leadsTo 34 = .ok (.iconst 2, 1) := by decide +kernel
theorem dX7_leadsTo_35 : decode cX7_leadsTo 35 = .ok (.iadd, 1) := by decide +kernel
theorem dX7_leadsTo_36 : decode cX7_leadsTo 36 = .ok (.iaload, 1) := by decide +kernel
theorem dX7_leadsTo_37 : decode cX7_leadsTo 37 = .ok (.istore 7, 2) := by decide +kernel
theorem dX7_leadsTo_39 : decode cX7_leadsTo 39 = .ok (.iload 5, 2) := by decide +kernel
theorem dX7_leadsTo_41 : decode cX7_leadsTo 41 = .ok (.iconst 4, 1) := by decide +kernel
theorem dX7_leadsTo_42 : decode cX7_leadsTo 42 = .ok (.if_icmp .ge 53, 3) := by decide +kernel
theorem dX7_leadsTo_45 : decode cX7_leadsTo 45 = .ok (.iload_n 2, 1) := by decide +kernel
theorem dX7_leadsTo_46 : decode cX7_leadsTo 46 = .ok (.iload 6, 2) := by decide +kernel
theorem dX7_leadsTo_48 : decode cX7_leadsTo 48 = .ok (.if_icmp .eq 17, 3) := by decide +kernel
theorem dX7_leadsTo_51 : decode cX7_leadsTo 51 = .ok (.iload 5, 2) := by decide +kernel
theorem dX7_leadsTo_53 : decode cX7_leadsTo 53 = .ok (.iconst 2, 1) := by decide +kernel
theorem dX7_leadsTo_54 : decode cX7_leadsTo 54 = .ok (.if_icmp .ne 15, 3) := by decide +kernel
theorem dX7_leadsTo_57 : decode cX7_leadsTo 57 = .ok (.iload_n 2, 1) := by decide +kernel
theorem dX7_leadsTo_58 : decode cX7_leadsTo 58 = .ok (.iload 6, 2) := by decide +kernel
theorem dX7_leadsTo_60 : decode cX7_leadsTo 60 = .ok (.iconst 1, 1) := by decide +kernel
theorem dX7_leadsTo_61 : decode cX7_leadsTo 61 = .ok (.isub, 1) := by decide +kernel
theorem dX7_leadsTo_62 : decode cX7_leadsTo 62 = .ok (.if_icmp .ne 7, 3) := by decide +kernel
theorem dX7_leadsTo_65 : decode cX7_leadsTo 65 = .ok (.iconst 1, 1) := by decide +kernel
theorem dX7_leadsTo_66 : decode cX7_leadsTo 66 = .ok (.goto 4, 3) := by decide +kernel
theorem dX7_leadsTo_69 : decode cX7_leadsTo 69 = .ok (.iconst 0, 1) := by decide +kernel
theorem dX7_leadsTo_70 : decode cX7_leadsTo 70 = .ok (.istore 8, 2) := by decide +kernel
theorem dX7_leadsTo_72 : decode cX7_leadsTo 72 = .ok (.iload 8, 2) := by decide +kernel
theorem dX7_leadsTo_74 : decode cX7_leadsTo 74 = .ok (.ifCond .eq 19, 3) := by decide +kernel
theorem dX7_leadsTo_77 : decode cX7_leadsTo 77 = .ok (.iload 5, 2) := by decide +kernel
theorem dX7_leadsTo_79 : decode cX7_leadsTo 79 = .ok (.iconst 3, 1) := by decide +kernel
theorem dX7_leadsTo_80 : decode cX7_leadsTo 80 = .ok (.if_icmp .ne 8, 3) := by decide +kernel
theorem dX7_leadsTo_83 : decode cX7_leadsTo 83 = .ok (.iload_n 3, 1) := by decide +kernel
theorem dX7_leadsTo_84 : decode cX7_leadsTo 84 = .ok (.iconst 2, 1) := by decide +kernel
theorem dX7_leadsTo_85 : decode cX7_leadsTo 85 = .ok (.if_icmp .ge 8, 3) := by decide +kernel
theorem dX7_leadsTo_88 : decode cX7_leadsTo 88 = .ok (.iload 7, 2) := by decide +kernel
theorem dX7_leadsTo_90 : decode cX7_leadsTo 90 = .ok (.goto 4, 3) := by decide +kernel
theorem dX7_leadsTo_93 : decode cX7_leadsTo 93 = .ok (.iload_n 2, 1) := by decide +kernel
theorem dX7_leadsTo_94 : decode cX7_leadsTo 94 = .ok (.ireturn, 1) := by decide +kernel
theorem dX7_leadsTo_95 : decode cX7_leadsTo 95 = .ok (.iload_n 2, 1) := by decide +kernel
theorem dX7_leadsTo_96 : decode cX7_leadsTo 96 = .ok (.iload 7, 2) := by decide +kernel
theorem dX7_leadsTo_98 : decode cX7_leadsTo 98 = .ok (.if_icmp .ne 8, 3) := by decide +kernel
theorem dX7_leadsTo_101 : decode cX7_leadsTo 101 = .ok (.iload 6, 2) := by decide +kernel
theorem dX7_leadsTo_103 : decode cX7_leadsTo 103 = .ok (.goto 21, 3) := by decide +kernel
theorem dX7_leadsTo_106 : decode cX7_leadsTo 106 = .ok (.iload 5, 2) := by decide +kernel
theorem dX7_leadsTo_108 : decode cX7_leadsTo 108 = .ok (.iconst 5, 1) := by decide +kernel
theorem dX7_leadsTo_109 : decode cX7_leadsTo 109 = .ok (.if_icmp .ne 14, 3) := by decide +kernel
theorem dX7_leadsTo_112 : decode cX7_leadsTo 112 = .ok (.iload_n 2, 1) := by decide +kernel
theorem dX7_leadsTo_113 : decode cX7_leadsTo 113 = .ok (.iload 6, 2) := by decide +kernel
theorem dX7_leadsTo_115 : decode cX7_leadsTo 115 = .ok (.if_icmp .ne 8, 3) := by decide +kernel
theorem dX7_leadsTo_118 : decode cX7_leadsTo 118 = .ok (.iload 7, 2) := by decide +kernel
theorem dX7_leadsTo_120 : decode cX7_leadsTo 120 = .ok (.goto 4, 3) := by decide +kernel
theorem dX7_leadsTo_123 : decode cX7_leadsTo 123 = .ok (.iload_n 2, 1) := by decide +kernel
theorem dX7_leadsTo_124 : decode cX7_leadsTo 124 = .ok (.ireturn, 1) := by decide +kernel
theorem dX7_leadsNow_0 : decode cX7_leadsNow 0 = .ok (.aload_n 0, 1) := by decide +kernel
theorem dX7_leadsNow_1 : decode cX7_leadsNow 1 = .ok (.iload_n 1, 1) := by decide +kernel
theorem dX7_leadsNow_2 : decode cX7_leadsNow 2 = .ok (.iload_n 2, 1) := by decide +kernel
theorem dX7_leadsNow_3 : decode cX7_leadsNow 3 = .ok (.aload_n 0, 1) := by decide +kernel
theorem dX7_leadsNow_4 : decode cX7_leadsNow 4 = .ok (.getfield 25, 3) := by decide +kernel
theorem dX7_leadsNow_7 : decode cX7_leadsNow 7 = .ok (.bipush 9, 2) := by decide +kernel
theorem dX7_leadsNow_9 : decode cX7_leadsNow 9 = .ok (.iconst 4, 1) := by decide +kernel
theorem dX7_leadsNow_10 : decode cX7_leadsNow 10 = .ok (.iload_n 1, 1) := by decide +kernel
theorem dX7_leadsNow_11 : decode cX7_leadsNow 11 = .ok (.imul, 1) := by decide +kernel
theorem dX7_leadsNow_12 : decode cX7_leadsNow 12 = .ok (.iadd, 1) := by decide +kernel
theorem dX7_leadsNow_13 : decode cX7_leadsNow 13 = .ok (.iconst 3, 1) := by decide +kernel
theorem dX7_leadsNow_14 : decode cX7_leadsNow 14 = .ok (.iadd, 1) := by decide +kernel
theorem dX7_leadsNow_15 : decode cX7_leadsNow 15 = .ok (.iaload, 1) := by decide +kernel
theorem dX7_leadsNow_16 : decode cX7_leadsNow 16 = .ok (.invokevirtual 147, 3) := by decide +kernel
theorem dX7_leadsNow_19 : decode cX7_leadsNow 19 = .ok (.ireturn, 1) := by decide +kernel
theorem dX7_notes_0 : decode cX7_notes 0 = .ok (.aload_n 0, 1) := by decide +kernel
theorem dX7_notes_1 : decode cX7_notes 1 = .ok (.getfield 141, 3) := by decide +kernel
theorem dX7_notes_4 : decode cX7_notes 4 = .ok (.bipush 24, 2) := by decide +kernel
theorem dX7_notes_6 : decode cX7_notes 6 = .ok (.if_icmp .ne 43, 3) := by decide +kernel
theorem dX7_notes_9 : decode cX7_notes 9 = .ok (.iconst 0, 1) := by decide +kernel
theorem dX7_notes_10 : decode cX7_notes 10 = .ok (.istore_n 1, 1) := by decide +kernel
theorem dX7_notes_11 : decode cX7_notes 11 = .ok (.iload_n 1, 1) := by decide +kernel
theorem dX7_notes_12 : decode cX7_notes 12 = .ok (.sipush 1633, 3) := by decide +kernel
theorem dX7_notes_15 : decode cX7_notes 15 = .ok (.if_icmp .ge 24, 3) := by decide +kernel
theorem dX7_notes_18 : decode cX7_notes 18 = .ok (.aload_n 0, 1) := by decide +kernel
theorem dX7_notes_19 : decode cX7_notes 19 = .ok (.getfield 31, 3) := by decide +kernel
theorem dX7_notes_22 : decode cX7_notes 22 = .ok (.iload_n 1, 1) := by decide +kernel
theorem dX7_notes_23 : decode cX7_notes 23 = .ok (.aload_n 0, 1) := by decide +kernel
theorem dX7_notes_24 : decode cX7_notes 24 = .ok (.getfield 31, 3) := by decide +kernel
theorem dX7_notes_27 : decode cX7_notes 27 = .ok (.iload_n 1, 1) := by decide +kernel
theorem dX7_notes_28 : decode cX7_notes 28 = .ok (.bipush 71, 2) := by decide +kernel
theorem dX7_notes_30 : decode cX7_notes 30 = .ok (.iadd, 1) := by decide +kernel
theorem dX7_notes_31 : decode cX7_notes 31 = .ok (.iaload, 1) := by decide +kernel
theorem dX7_notes_32 : decode cX7_notes 32 = .ok (.iastore, 1) := by decide +kernel
theorem dX7_notes_33 : decode cX7_notes 33 = .ok (.iinc 1 1, 3) := by decide +kernel
theorem dX7_notes_36 : decode cX7_notes 36 = .ok (.goto (-25), 3) := by decide +kernel
theorem dX7_notes_39 : decode cX7_notes 39 = .ok (.aload_n 0, 1) := by decide +kernel
theorem dX7_notes_40 : decode cX7_notes 40 = .ok (.dup, 1) := by decide +kernel
theorem dX7_notes_41 : decode cX7_notes 41 = .ok (.getfield 141, 3) := by decide +kernel
theorem dX7_notes_44 : decode cX7_notes 44 = .ok (.iconst 1, 1) := by decide +kernel
theorem dX7_notes_45 : decode cX7_notes 45 = .ok (.isub, 1) := by decide +kernel
theorem dX7_notes_46 : decode cX7_notes 46 = .ok (.putfield 141, 3) := by decide +kernel
theorem dX7_notes_49 : decode cX7_notes 49 = .ok (.aload_n 0, 1) := by decide +kernel
theorem dX7_notes_50 : decode cX7_notes 50 = .ok (.getfield 25, 3) := by decide +kernel
theorem dX7_notes_53 : decode cX7_notes 53 = .ok (.iconst 0, 1) := by decide +kernel
theorem dX7_notes_54 : decode cX7_notes 54 = .ok (.aload_n 0, 1) := by decide +kernel
theorem dX7_notes_55 : decode cX7_notes 55 = .ok (.getfield 31, 3) := by decide +kernel
theorem dX7_notes_58 : decode cX7_notes 58 = .ok (.bipush 71, 2) := by decide +kernel
theorem dX7_notes_60 : decode cX7_notes 60 = .ok (.aload_n 0, 1) := by decide +kernel
theorem dX7_notes_61 : decode cX7_notes 61 = .ok (.getfield 141, 3) := by decide +kernel
theorem dX7_notes_64 : decode cX7_notes 64 = .ok (.imul, 1) := by decide +kernel
theorem dX7_notes_65 : decode cX7_notes 65 = .ok (.invokestatic 137, 3) := by decide +kernel
theorem dX7_notes_68 : decode cX7_notes 68 = .ok (.aload_n 0, 1) := by decide +kernel
theorem dX7_notes_69 : decode cX7_notes 69 = .ok (.dup, 1) := by decide +kernel
theorem dX7_notes_70 : decode cX7_notes 70 = .ok (.getfield 141, 3) := by decide +kernel
theorem dX7_notes_73 : decode cX7_notes 73 = .ok (.iconst 1, 1) := by decide +kernel
theorem dX7_notes_74 : decode cX7_notes 74 = .ok (.iadd, 1) := by decide +kernel
theorem dX7_notes_75 : decode cX7_notes 75 = .ok (.putfield 141, 3) := by decide +kernel
theorem dX7_notes_78 : decode cX7_notes 78 = .ok (.return_, 1) := by decide +kernel
theorem dX7_invite_0 : decode cX7_invite 0 = .ok (.aload_n 0, 1) := by decide +kernel
theorem dX7_invite_1 : decode cX7_invite 1 = .ok (.iload_n 1, 1) := by decide +kernel
theorem dX7_invite_2 : decode cX7_invite 2 = .ok (.invokevirtual 151, 3) := by decide +kernel
theorem dX7_invite_5 : decode cX7_invite 5 = .ok (.ifCond .ne 6, 3) := by decide +kernel
theorem dX7_invite_8 : decode cX7_invite 8 = .ok (.ldc 67, 2) := by decide +kernel
theorem dX7_invite_10 : decode cX7_invite 10 = .ok (.ireturn, 1) := by decide +kernel
theorem dX7_invite_11 : decode cX7_invite 11 = .ok (.aload_n 0, 1) := by decide +kernel
theorem dX7_invite_12 : decode cX7_invite 12 = .ok (.getfield 25, 3) := by decide +kernel
theorem dX7_invite_15 : decode cX7_invite 15 = .ok (.iconst 3, 1) := by decide +kernel
theorem dX7_invite_16 : decode cX7_invite 16 = .ok (.iaload, 1) := by decide +kernel
theorem dX7_invite_17 : decode cX7_invite 17 = .ok (.ifCond .ge 21, 3) := by decide +kernel
theorem dX7_invite_20 : decode cX7_invite 20 = .ok (.aload_n 0, 1) := by decide +kernel
theorem dX7_invite_21 : decode cX7_invite 21 = .ok (.iload_n 1, 1) := by decide +kernel
theorem dX7_invite_22 : decode cX7_invite 22 = .ok (.invokevirtual 154, 3) := by decide +kernel
theorem dX7_invite_25 : decode cX7_invite 25 = .ok (.ifCond .eq 13, 3) := by decide +kernel
theorem dX7_invite_28 : decode cX7_invite 28 = .ok (.aload_n 0, 1) := by decide +kernel
theorem dX7_invite_29 : decode cX7_invite 29 = .ok (.getfield 25, 3) := by decide +kernel
theorem dX7_invite_32 : decode cX7_invite 32 = .ok (.iconst 5, 1) := by decide +kernel
theorem dX7_invite_33 : decode cX7_invite 33 = .ok (.iaload, 1) := by decide +kernel
theorem dX7_invite_34 : decode cX7_invite 34 = .ok (.iconst 1, 1) := by decide +kernel
theorem dX7_invite_35 : decode cX7_invite 35 = .ok (.if_icmp .ne 6, 3) := by decide +kernel
theorem dX7_invite_38 : decode cX7_invite 38 = .ok (.ldc 157, 2) := by decide +kernel
theorem dX7_invite_40 : decode cX7_invite 40 = .ok (.ireturn, 1) := by decide +kernel
theorem dX7_invite_41 : decode cX7_invite 41 = .ok (.aload_n 0, 1) := by decide +kernel
theorem dX7_invite_42 : decode cX7_invite 42 = .ok (.invokevirtual 158, 3) := by decide +kernel
theorem dX7_invite_45 : decode cX7_invite 45 = .ok (.aload_n 0, 1) := by decide +kernel
theorem dX7_invite_46 : decode cX7_invite 46 = .ok (.getfield 25, 3) := by decide +kernel
theorem dX7_invite_49 : decode cX7_invite 49 = .ok (.iconst 3, 1) := by decide +kernel
theorem dX7_invite_50 : decode cX7_invite 50 = .ok (.iload_n 1, 1) := by decide +kernel
theorem dX7_invite_51 : decode cX7_invite 51 = .ok (.iastore, 1) := by decide +kernel
theorem dX7_invite_52 : decode cX7_invite 52 = .ok (.aload_n 0, 1) := by decide +kernel
theorem dX7_invite_53 : decode cX7_invite 53 = .ok (.getfield 25, 3) := by decide +kernel
theorem dX7_invite_56 : decode cX7_invite 56 = .ok (.iconst 4, 1) := by decide +kernel
theorem dX7_invite_57 : decode cX7_invite 57 = .ok (.iconst 0, 1) := by decide +kernel
theorem dX7_invite_58 : decode cX7_invite 58 = .ok (.iastore, 1) := by decide +kernel
theorem dX7_invite_59 : decode cX7_invite 59 = .ok (.aload_n 0, 1) := by decide +kernel
theorem dX7_invite_60 : decode cX7_invite 60 = .ok (.getfield 25, 3) := by decide +kernel
theorem dX7_invite_63 : decode cX7_invite 63 = .ok (.bipush 41, 2) := by decide +kernel
theorem dX7_invite_65 : decode cX7_invite 65 = .ok (.iconst 5, 1) := by decide +kernel
theorem dX7_invite_66 : decode cX7_invite 66 = .ok (.iload_n 1, 1) := by decide +kernel
theorem dX7_invite_67 : decode cX7_invite 67 = .ok (.imul, 1) := by decide +kernel
theorem dX7_invite_68 : decode cX7_invite 68 = .ok (.iadd, 1) := by decide +kernel
theorem dX7_invite_69 : decode cX7_invite 69 = .ok (.iconst 3, 1) := by decide +kernel
theorem dX7_invite_70 : decode cX7_invite 70 = .ok (.iadd, 1) := by decide +kernel
theorem dX7_invite_71 : decode cX7_invite 71 = .ok (.iconst 1, 1) := by decide +kernel
theorem dX7_invite_72 : decode cX7_invite 72 = .ok (.iastore, 1) := by decide +kernel
theorem dX7_invite_73 : decode cX7_invite 73 = .ok (.aload_n 0, 1) := by decide +kernel
theorem dX7_invite_74 : decode cX7_invite 74 = .ok (.iload_n 1, 1) := by decide +kernel
theorem dX7_invite_75 : decode cX7_invite 75 = .ok (.iconst 0, 1) := by decide +kernel
theorem dX7_invite_76 : decode cX7_invite 76 = .ok (.invokevirtual 144, 3) := by decide +kernel
theorem dX7_invite_79 : decode cX7_invite 79 = .ok (.ireturn, 1) := by decide +kernel
theorem dX7_show_0 : decode cX7_show 0 = .ok (.aload_n 0, 1) := by decide +kernel
theorem dX7_show_1 : decode cX7_show 1 = .ok (.iload_n 1, 1) := by decide +kernel
theorem dX7_show_2 : decode cX7_show 2 = .ok (.invokevirtual 161, 3) := by decide +kernel
theorem dX7_show_5 : decode cX7_show 5 = .ok (.ifCond .ne 6, 3) := by decide +kernel
theorem dX7_show_8 : decode cX7_show 8 = .ok (.ldc 67, 2) := by decide +kernel
theorem dX7_show_10 : decode cX7_show 10 = .ok (.ireturn, 1) := by decide +kernel
theorem dX7_show_11 : decode cX7_show 11 = .ok (.aload_n 0, 1) := by decide +kernel
theorem dX7_show_12 : decode cX7_show 12 = .ok (.getfield 25, 3) := by decide +kernel
theorem dX7_show_15 : decode cX7_show 15 = .ok (.iconst 3, 1) := by decide +kernel
theorem dX7_show_16 : decode cX7_show 16 = .ok (.iaload, 1) := by decide +kernel
theorem dX7_show_17 : decode cX7_show 17 = .ok (.ifCond .lt 16, 3) := by decide +kernel
theorem dX7_show_20 : decode cX7_show 20 = .ok (.aload_n 0, 1) := by decide +kernel
theorem dX7_show_21 : decode cX7_show 21 = .ok (.getfield 25, 3) := by decide +kernel
theorem dX7_show_24 : decode cX7_show 24 = .ok (.iconst 4, 1) := by decide +kernel
theorem dX7_show_25 : decode cX7_show 25 = .ok (.iaload, 1) := by decide +kernel
theorem dX7_show_26 : decode cX7_show 26 = .ok (.iload_n 1, 1) := by decide +kernel
theorem dX7_show_27 : decode cX7_show 27 = .ok (.invokestatic 164, 3) := by decide +kernel
theorem dX7_show_30 : decode cX7_show 30 = .ok (.ifCond .eq 6, 3) := by decide +kernel
theorem dX7_show_33 : decode cX7_show 33 = .ok (.ldc 157, 2) := by decide +kernel
theorem dX7_show_35 : decode cX7_show 35 = .ok (.ireturn, 1) := by decide +kernel
theorem dX7_show_36 : decode cX7_show 36 = .ok (.aload_n 0, 1) := by decide +kernel
theorem dX7_show_37 : decode cX7_show 37 = .ok (.getfield 25, 3) := by decide +kernel
theorem dX7_show_40 : decode cX7_show 40 = .ok (.iconst 4, 1) := by decide +kernel
theorem dX7_show_41 : decode cX7_show 41 = .ok (.iaload, 1) := by decide +kernel
theorem dX7_show_42 : decode cX7_show 42 = .ok (.invokestatic 168, 3) := by decide +kernel
theorem dX7_show_45 : decode cX7_show 45 = .ok (.aload_n 0, 1) := by decide +kernel
theorem dX7_show_46 : decode cX7_show 46 = .ok (.getfield 25, 3) := by decide +kernel
theorem dX7_show_49 : decode cX7_show 49 = .ok (.iconst 0, 1) := by decide +kernel
theorem dX7_show_50 : decode cX7_show 50 = .ok (.iaload, 1) := by decide +kernel
theorem dX7_show_51 : decode cX7_show 51 = .ok (.if_icmp .ne 6, 3) := by decide +kernel
theorem dX7_show_54 : decode cX7_show 54 = .ok (.ldc 88, 2) := by decide +kernel
theorem dX7_show_56 : decode cX7_show 56 = .ok (.ireturn, 1) := by decide +kernel
theorem dX7_show_57 : decode cX7_show 57 = .ok (.aload_n 0, 1) := by decide +kernel
theorem dX7_show_58 : decode cX7_show 58 = .ok (.invokevirtual 158, 3) := by decide +kernel
theorem dX7_show_61 : decode cX7_show 61 = .ok (.bipush 41, 2) := by decide +kernel
theorem dX7_show_63 : decode cX7_show 63 = .ok (.iconst 5, 1) := by decide +kernel
theorem dX7_show_64 : decode cX7_show 64 = .ok (.aload_n 0, 1) := by decide +kernel
theorem dX7_show_65 : decode cX7_show 65 = .ok (.getfield 25, 3) := by decide +kernel
theorem dX7_show_68 : decode cX7_show 68 = .ok (.iconst 3, 1) := by decide +kernel
theorem dX7_show_69 : decode cX7_show 69 = .ok (.iaload, 1) := by decide +kernel
theorem dX7_show_70 : decode cX7_show 70 = .ok (.imul, 1) := by decide +kernel
theorem dX7_show_71 : decode cX7_show 71 = .ok (.iadd, 1) := by decide +kernel
theorem dX7_show_72 : decode cX7_show 72 = .ok (.istore_n 2, 1) := by decide +kernel
theorem dX7_show_73 : decode cX7_show 73 = .ok (.aload_n 0, 1) := by decide +kernel
theorem dX7_show_74 : decode cX7_show 74 = .ok (.getfield 25, 3) := by decide +kernel
theorem dX7_show_77 : decode cX7_show 77 = .ok (.iload_n 2, 1) := by decide +kernel
theorem dX7_show_78 : decode cX7_show 78 = .ok (.iconst 0, 1) := by decide +kernel
theorem dX7_show_79 : decode cX7_show 79 = .ok (.iadd, 1) := by decide +kernel
theorem dX7_show_80 : decode cX7_show 80 = .ok (.aload_n 0, 1) := by decide +kernel
theorem dX7_show_81 : decode cX7_show 81 = .ok (.iload_n 1, 1) := by decide +kernel
theorem dX7_show_82 : decode cX7_show 82 = .ok (.aload_n 0, 1) := by decide +kernel
theorem dX7_show_83 : decode cX7_show 83 = .ok (.getfield 25, 3) := by decide +kernel
theorem dX7_show_86 : decode cX7_show 86 = .ok (.iload_n 2, 1) := by decide +kernel
theorem dX7_show_87 : decode cX7_show 87 = .ok (.iconst 0, 1) := by decide +kernel
theorem dX7_show_88 : decode cX7_show 88 = .ok (.iadd, 1) := by decide +kernel
theorem dX7_show_89 : decode cX7_show 89 = .ok (.iaload, 1) := by decide +kernel
theorem dX7_show_90 : decode cX7_show 90 = .ok (.invokevirtual 171, 3) := by decide +kernel
theorem dX7_show_93 : decode cX7_show 93 = .ok (.iastore, 1) := by decide +kernel
theorem dX7_show_94 : decode cX7_show 94 = .ok (.aload_n 0, 1) := by decide +kernel
theorem dX7_show_95 : decode cX7_show 95 = .ok (.getfield 25, 3) := by decide +kernel
theorem dX7_show_98 : decode cX7_show 98 = .ok (.bipush 9, 2) := by decide +kernel
theorem dX7_show_100 : decode cX7_show 100 = .ok (.iconst 4, 1) := by decide +kernel
theorem dX7_show_101 : decode cX7_show 101 = .ok (.iload_n 1, 1) := by decide +kernel
theorem dX7_show_102 : decode cX7_show 102 = .ok (.imul, 1) := by decide +kernel
theorem dX7_show_103 : decode cX7_show 103 = .ok (.iadd, 1) := by decide +kernel
theorem dX7_show_104 : decode cX7_show 104 = .ok (.iconst 3, 1) := by decide +kernel
theorem dX7_show_105 : decode cX7_show 105 = .ok (.iadd, 1) := by decide +kernel
theorem dX7_show_106 : decode cX7_show 106 = .ok (.dup2, 1) := by decide +kernel
theorem dX7_show_107 : decode cX7_show 107 = .ok (.iaload, 1) := by decide +kernel
theorem dX7_show_108 : decode cX7_show 108 = .ok (.iconst 1, 1) := by decide +kernel
theorem dX7_show_109 : decode cX7_show 109 = .ok (.iadd, 1) := by decide +kernel
theorem dX7_show_110 : decode cX7_show 110 = .ok (.iastore, 1) := by decide +kernel
theorem dX7_show_111 : decode cX7_show 111 = .ok (.aload_n 0, 1) := by decide +kernel
theorem dX7_show_112 : decode cX7_show 112 = .ok (.getfield 25, 3) := by decide +kernel
theorem dX7_show_115 : decode cX7_show 115 = .ok (.iconst 4, 1) := by decide +kernel
theorem dX7_show_116 : decode cX7_show 116 = .ok (.dup2, 1) := by decide +kernel
theorem dX7_show_117 : decode cX7_show 117 = .ok (.iaload, 1) := by decide +kernel
theorem dX7_show_118 : decode cX7_show 118 = .ok (.iconst 1, 1) := by decide +kernel
theorem dX7_show_119 : decode cX7_show 119 = .ok (.iload_n 1, 1) := by decide +kernel
theorem dX7_show_120 : decode cX7_show 120 = .ok (.ishl, 1) := by decide +kernel
theorem dX7_show_121 : decode cX7_show 121 = .ok (.ior, 1) := by decide +kernel
theorem dX7_show_122 : decode cX7_show 122 = .ok (.iastore, 1) := by decide +kernel
theorem dX7_show_123 : decode cX7_show 123 = .ok (.aload_n 0, 1) := by decide +kernel
theorem dX7_show_124 : decode cX7_show 124 = .ok (.getfield 25, 3) := by decide +kernel
theorem dX7_show_127 : decode cX7_show 127 = .ok (.iload_n 2, 1) := by decide +kernel
theorem dX7_show_128 : decode cX7_show 128 = .ok (.iconst 0, 1) := by decide +kernel
theorem dX7_show_129 : decode cX7_show 129 = .ok (.iadd, 1) := by decide +kernel
theorem dX7_show_130 : decode cX7_show 130 = .ok (.iaload, 1) := by decide +kernel
theorem dX7_show_131 : decode cX7_show 131 = .ok (.ireturn, 1) := by decide +kernel
theorem dX7_speak_0 : decode cX7_speak 0 = .ok (.aload_n 0, 1) := by decide +kernel
theorem dX7_speak_1 : decode cX7_speak 1 = .ok (.getfield 25, 3) := by decide +kernel
theorem dX7_speak_4 : decode cX7_speak 4 = .ok (.iconst 3, 1) := by decide +kernel
theorem dX7_speak_5 : decode cX7_speak 5 = .ok (.iaload, 1) := by decide +kernel
theorem dX7_speak_6 : decode cX7_speak 6 = .ok (.ifCond .ge 6, 3) := by decide +kernel
theorem dX7_speak_9 : decode cX7_speak 9 = .ok (.ldc 157, 2) := by decide +kernel
theorem dX7_speak_11 : decode cX7_speak 11 = .ok (.ireturn, 1) := by decide +kernel
theorem dX7_speak_12 : decode cX7_speak 12 = .ok (.aload_n 0, 1) := by decide +kernel
theorem dX7_speak_13 : decode cX7_speak 13 = .ok (.invokevirtual 158, 3) := by decide +kernel
theorem dX7_speak_16 : decode cX7_speak 16 = .ok (.aload_n 0, 1) := by decide +kernel
theorem dX7_speak_17 : decode cX7_speak 17 = .ok (.getfield 25, 3) := by decide +kernel
theorem dX7_speak_20 : decode cX7_speak 20 = .ok (.iconst 3, 1) := by decide +kernel
theorem dX7_speak_21 : decode cX7_speak 21 = .ok (.iaload, 1) := by decide +kernel
theorem dX7_speak_22 : decode cX7_speak 22 = .ok (.istore_n 1, 1) := by decide +kernel
theorem dX7_speak_23 : decode cX7_speak 23 = .ok (.aload_n 0, 1) := by decide +kernel
theorem dX7_speak_24 : decode cX7_speak 24 = .ok (.iload_n 1, 1) := by decide +kernel
theorem dX7_speak_25 : decode cX7_speak 25 = .ok (.iconst 0, 1) := by decide +kernel
theorem dX7_speak_26 : decode cX7_speak 26 = .ok (.invokevirtual 144, 3) := by decide +kernel
theorem dX7_speak_29 : decode cX7_speak 29 = .ok (.istore_n 2, 1) := by decide +kernel
theorem dX7_speak_30 : decode cX7_speak 30 = .ok (.aload_n 0, 1) := by decide +kernel
theorem dX7_speak_31 : decode cX7_speak 31 = .ok (.iload_n 1, 1) := by decide +kernel
theorem dX7_speak_32 : decode cX7_speak 32 = .ok (.invokevirtual 174, 3) := by decide +kernel
theorem dX7_speak_35 : decode cX7_speak 35 = .ok (.ifCond .eq 27, 3) := by decide +kernel
theorem dX7_speak_38 : decode cX7_speak 38 = .ok (.iload_n 2, 1) := by decide +kernel
theorem dX7_speak_39 : decode cX7_speak 39 = .ok (.aload_n 0, 1) := by decide +kernel
theorem dX7_speak_40 : decode cX7_speak 40 = .ok (.getfield 25, 3) := by decide +kernel
theorem dX7_speak_43 : decode cX7_speak 43 = .ok (.iconst 1, 1) := by decide +kernel
theorem dX7_speak_44 : decode cX7_speak 44 = .ok (.iaload, 1) := by decide +kernel
theorem dX7_speak_45 : decode cX7_speak 45 = .ok (.if_icmp .eq 13, 3) := by decide +kernel
theorem dX7_speak_48 : decode cX7_speak 48 = .ok (.iload_n 2, 1) := by decide +kernel
theorem dX7_speak_49 : decode cX7_speak 49 = .ok (.aload_n 0, 1) := by decide +kernel
theorem dX7_speak_50 : decode cX7_speak 50 = .ok (.getfield 25, 3) := by decide +kernel
theorem dX7_speak_53 : decode cX7_speak 53 = .ok (.iconst 2, 1) := by decide +kernel
theorem dX7_speak_54 : decode cX7_speak 54 = .ok (.iaload, 1) := by decide +kernel
theorem dX7_speak_55 : decode cX7_speak 55 = .ok (.if_icmp .ne 7, 3) := by decide +kernel
theorem dX7_speak_58 : decode cX7_speak 58 = .ok (.iload_n 2, 1) := by decide +kernel
theorem dX7_speak_59 : decode cX7_speak 59 = .ok (.goto 5, 3) := by decide +kernel
theorem dX7_speak_62 : decode cX7_speak 62 = .ok (.ldc 53, 2) := by decide +kernel
theorem dX7_speak_64 : decode cX7_speak 64 = .ok (.istore_n 3, 1) := by decide +kernel
theorem dX7_speak_65 : decode cX7_speak 65 = .ok (.aload_n 0, 1) := by decide +kernel
theorem dX7_speak_66 : decode cX7_speak 66 = .ok (.getfield 25, 3) := by decide +kernel
theorem dX7_speak_69 : decode cX7_speak 69 = .ok (.iconst 5, 1) := by decide +kernel
theorem dX7_speak_70 : decode cX7_speak 70 = .ok (.iload_n 3, 1) := by decide +kernel
theorem dX7_speak_71 : decode cX7_speak 71 = .ok (.aload_n 0, 1) := by decide +kernel
theorem dX7_speak_72 : decode cX7_speak 72 = .ok (.getfield 25, 3) := by decide +kernel
theorem dX7_speak_75 : decode cX7_speak 75 = .ok (.iconst 1, 1) := by decide +kernel
theorem dX7_speak_76 : decode cX7_speak 76 = .ok (.iaload, 1) := by decide +kernel
theorem dX7_speak_77 : decode cX7_speak 77 = .ok (.if_icmp .ne 7, 3) := by decide +kernel
theorem dX7_speak_80 : decode cX7_speak 80 = .ok (.iconst 1, 1) := by decide +kernel
theorem dX7_speak_81 : decode cX7_speak 81 = .ok (.goto 9, 3) := by decide +kernel
theorem dX7_speak_84 : decode cX7_speak 84 = .ok (.aload_n 0, 1) := by decide +kernel
theorem dX7_speak_85 : decode cX7_speak 85 = .ok (.getfield 25, 3) := by decide +kernel
theorem dX7_speak_88 : decode cX7_speak 88 = .ok (.iconst 5, 1) := by decide +kernel
theorem dX7_speak_89 : decode cX7_speak 89 = .ok (.iaload, 1) := by decide +kernel
theorem dX7_speak_90 : decode cX7_speak 90 = .ok (.iastore, 1) := by decide +kernel
theorem dX7_speak_91 : decode cX7_speak 91 = .ok (.aload_n 0, 1) := by decide +kernel
theorem dX7_speak_92 : decode cX7_speak 92 = .ok (.getfield 25, 3) := by decide +kernel
theorem dX7_speak_95 : decode cX7_speak 95 = .ok (.bipush 6, 2) := by decide +kernel
theorem dX7_speak_97 : decode cX7_speak 97 = .ok (.dup2, 1) := by decide +kernel
theorem dX7_speak_98 : decode cX7_speak 98 = .ok (.iaload, 1) := by decide +kernel
theorem dX7_speak_99 : decode cX7_speak 99 = .ok (.iload_n 3, 1) := by decide +kernel
theorem dX7_speak_100 : decode cX7_speak 100 = .ok (.aload_n 0, 1) := by decide +kernel
theorem dX7_speak_101 : decode cX7_speak 101 = .ok (.getfield 25, 3) := by decide +kernel
theorem dX7_speak_104 : decode cX7_speak 104 = .ok (.iconst 2, 1) := by decide +kernel
theorem dX7_speak_105 : decode cX7_speak 105 = .ok (.iaload, 1) := by decide +kernel
theorem dX7_speak_106 : decode cX7_speak 106 = .ok (.if_icmp .ne 7, 3) := by decide +kernel
theorem dX7_speak_109 : decode cX7_speak 109 = .ok (.iconst 1, 1) := by decide +kernel
theorem dX7_speak_110 : decode cX7_speak 110 = .ok (.goto 4, 3) := by decide +kernel
theorem dX7_speak_113 : decode cX7_speak 113 = .ok (.iconst 0, 1) := by decide +kernel
theorem dX7_speak_114 : decode cX7_speak 114 = .ok (.iadd, 1) := by decide +kernel
theorem dX7_speak_115 : decode cX7_speak 115 = .ok (.iastore, 1) := by decide +kernel
theorem dX7_speak_116 : decode cX7_speak 116 = .ok (.aload_n 0, 1) := by decide +kernel
theorem dX7_speak_117 : decode cX7_speak 117 = .ok (.getfield 25, 3) := by decide +kernel
theorem dX7_speak_120 : decode cX7_speak 120 = .ok (.bipush 41, 2) := by decide +kernel
theorem dX7_speak_122 : decode cX7_speak 122 = .ok (.iconst 5, 1) := by decide +kernel
theorem dX7_speak_123 : decode cX7_speak 123 = .ok (.iload_n 1, 1) := by decide +kernel
theorem dX7_speak_124 : decode cX7_speak 124 = .ok (.imul, 1) := by decide +kernel
theorem dX7_speak_125 : decode cX7_speak 125 = .ok (.iadd, 1) := by decide +kernel
theorem dX7_speak_126 : decode cX7_speak 126 = .ok (.iconst 3, 1) := by decide +kernel
theorem dX7_speak_127 : decode cX7_speak 127 = .ok (.iadd, 1) := by decide +kernel
theorem dX7_speak_128 : decode cX7_speak 128 = .ok (.iconst 2, 1) := by decide +kernel
theorem dX7_speak_129 : decode cX7_speak 129 = .ok (.iastore, 1) := by decide +kernel
theorem dX7_speak_130 : decode cX7_speak 130 = .ok (.aload_n 0, 1) := by decide +kernel
theorem dX7_speak_131 : decode cX7_speak 131 = .ok (.getfield 25, 3) := by decide +kernel
theorem dX7_speak_134 : decode cX7_speak 134 = .ok (.bipush 41, 2) := by decide +kernel
theorem dX7_speak_136 : decode cX7_speak 136 = .ok (.iconst 5, 1) := by decide +kernel
theorem dX7_speak_137 : decode cX7_speak 137 = .ok (.iload_n 1, 1) := by decide +kernel
theorem dX7_speak_138 : decode cX7_speak 138 = .ok (.imul, 1) := by decide +kernel
theorem dX7_speak_139 : decode cX7_speak 139 = .ok (.iadd, 1) := by decide +kernel
theorem dX7_speak_140 : decode cX7_speak 140 = .ok (.iconst 4, 1) := by decide +kernel
theorem dX7_speak_141 : decode cX7_speak 141 = .ok (.iadd, 1) := by decide +kernel
theorem dX7_speak_142 : decode cX7_speak 142 = .ok (.iload_n 3, 1) := by decide +kernel
theorem dX7_speak_143 : decode cX7_speak 143 = .ok (.iastore, 1) := by decide +kernel
theorem dX7_speak_144 : decode cX7_speak 144 = .ok (.aload_n 0, 1) := by decide +kernel
theorem dX7_speak_145 : decode cX7_speak 145 = .ok (.getfield 25, 3) := by decide +kernel
theorem dX7_speak_148 : decode cX7_speak 148 = .ok (.iconst 3, 1) := by decide +kernel
theorem dX7_speak_149 : decode cX7_speak 149 = .ok (.iconst (-1), 1) := by decide +kernel
theorem dX7_speak_150 : decode cX7_speak 150 = .ok (.iastore, 1) := by decide +kernel
theorem dX7_speak_151 : decode cX7_speak 151 = .ok (.aload_n 0, 1) := by decide +kernel
theorem dX7_speak_152 : decode cX7_speak 152 = .ok (.getfield 25, 3) := by decide +kernel
theorem dX7_speak_155 : decode cX7_speak 155 = .ok (.iconst 4, 1) := by decide +kernel
theorem dX7_speak_156 : decode cX7_speak 156 = .ok (.iconst 0, 1) := by decide +kernel
theorem dX7_speak_157 : decode cX7_speak 157 = .ok (.iastore, 1) := by decide +kernel
theorem dX7_speak_158 : decode cX7_speak 158 = .ok (.iload_n 3, 1) := by decide +kernel
theorem dX7_speak_159 : decode cX7_speak 159 = .ok (.ireturn, 1) := by decide +kernel
theorem dX7_tale_0 : decode cX7_tale 0 = .ok (.aload_n 0, 1) := by decide +kernel
theorem dX7_tale_1 : decode cX7_tale 1 = .ok (.iload_n 1, 1) := by decide +kernel
theorem dX7_tale_2 : decode cX7_tale 2 = .ok (.invokevirtual 151, 3) := by decide +kernel
theorem dX7_tale_5 : decode cX7_tale 5 = .ok (.ifCond .eq 18, 3) := by decide +kernel
theorem dX7_tale_8 : decode cX7_tale 8 = .ok (.iload_n 2, 1) := by decide +kernel
theorem dX7_tale_9 : decode cX7_tale 9 = .ok (.bipush (-20), 2) := by decide +kernel
theorem dX7_tale_11 : decode cX7_tale 11 = .ok (.bipush 20, 2) := by decide +kernel
theorem dX7_tale_13 : decode cX7_tale 13 = .ok (.invokestatic 59, 3) := by decide +kernel
theorem dX7_tale_16 : decode cX7_tale 16 = .ok (.ifCond .eq 7, 3) := by decide +kernel
theorem dX7_tale_19 : decode cX7_tale 19 = .ok (.iload_n 2, 1) := by decide +kernel
theorem dX7_tale_20 : decode cX7_tale 20 = .ok (.ifCond .ne 6, 3) := by decide +kernel
theorem dX7_tale_23 : decode cX7_tale 23 = .ok (.ldc 67, 2) := by decide +kernel
theorem dX7_tale_25 : decode cX7_tale 25 = .ok (.ireturn, 1) := by decide +kernel
theorem dX7_tale_26 : decode cX7_tale 26 = .ok (.aload_n 0, 1) := by decide +kernel
theorem dX7_tale_27 : decode cX7_tale 27 = .ok (.iload_n 1, 1) := by decide +kernel
theorem dX7_tale_28 : decode cX7_tale 28 = .ok (.invokevirtual 154, 3) := by decide +kernel
theorem dX7_tale_31 : decode cX7_tale 31 = .ok (.ifCond .ne 6, 3) := by decide +kernel
theorem dX7_tale_34 : decode cX7_tale 34 = .ok (.ldc 157, 2) := by decide +kernel
theorem dX7_tale_36 : decode cX7_tale 36 = .ok (.ireturn, 1) := by decide +kernel
theorem dX7_tale_37 : decode cX7_tale 37 = .ok (.aload_n 0, 1) := by decide +kernel
theorem dX7_tale_38 : decode cX7_tale 38 = .ok (.invokevirtual 158, 3) := by decide +kernel
theorem dX7_tale_41 : decode cX7_tale 41 = .ok (.aload_n 0, 1) := by decide +kernel
theorem dX7_tale_42 : decode cX7_tale 42 = .ok (.iload_n 1, 1) := by decide +kernel
theorem dX7_tale_43 : decode cX7_tale 43 = .ok (.iconst 2, 1) := by decide +kernel
theorem dX7_tale_44 : decode cX7_tale 44 = .ok (.invokevirtual 144, 3) := by decide +kernel
theorem dX7_tale_47 : decode cX7_tale 47 = .ok (.iload_n 2, 1) := by decide +kernel
theorem dX7_tale_48 : decode cX7_tale 48 = .ok (.iadd, 1) := by decide +kernel
theorem dX7_tale_49 : decode cX7_tale 49 = .ok (.istore_n 3, 1) := by decide +kernel
theorem dX7_tale_50 : decode cX7_tale 50 = .ok (.aload_n 0, 1) := by decide +kernel
theorem dX7_tale_51 : decode cX7_tale 51 = .ok (.getfield 25, 3) := by decide +kernel
theorem dX7_tale_54 : decode cX7_tale 54 = .ok (.bipush 41, 2) := by decide +kernel
theorem dX7_tale_56 : decode cX7_tale 56 = .ok (.iconst 5, 1) := by decide +kernel
theorem dX7_tale_57 : decode cX7_tale 57 = .ok (.iload_n 1, 1) := by decide +kernel
theorem dX7_tale_58 : decode cX7_tale 58 = .ok (.imul, 1) := by decide +kernel
theorem dX7_tale_59 : decode cX7_tale 59 = .ok (.iadd, 1) := by decide +kernel
theorem dX7_tale_60 : decode cX7_tale 60 = .ok (.iconst 2, 1) := by decide +kernel
theorem dX7_tale_61 : decode cX7_tale 61 = .ok (.iadd, 1) := by decide +kernel
theorem dX7_tale_62 : decode cX7_tale 62 = .ok (.iload_n 3, 1) := by decide +kernel
theorem dX7_tale_63 : decode cX7_tale 63 = .ok (.ifCond .ge 7, 3) := by decide +kernel
theorem dX7_tale_66 : decode cX7_tale 66 = .ok (.iconst 0, 1) := by decide +kernel
theorem dX7_tale_67 : decode cX7_tale 67 = .ok (.goto 15, 3) := by decide +kernel
theorem dX7_tale_70 : decode cX7_tale 70 = .ok (.iload_n 3, 1) := by decide +kernel
theorem dX7_tale_71 : decode cX7_tale 71 = .ok (.bipush 20, 2) := by decide +kernel
theorem dX7_tale_73 : decode cX7_tale 73 = .ok (.if_icmp .le 8, 3) := by decide +kernel
theorem dX7_tale_76 : decode cX7_tale 76 = .ok (.bipush 20, 2) := by decide +kernel
theorem dX7_tale_78 : decode cX7_tale 78 = .ok (.goto 4, 3) := by decide +kernel
theorem dX7_tale_81 : decode cX7_tale 81 = .ok (.iload_n 3, 1) := by decide +kernel
theorem dX7_tale_82 : decode cX7_tale 82 = .ok (.iastore, 1) := by decide +kernel
theorem dX7_tale_83 : decode cX7_tale 83 = .ok (.aload_n 0, 1) := by decide +kernel
theorem dX7_tale_84 : decode cX7_tale 84 = .ok (.iload_n 1, 1) := by decide +kernel
theorem dX7_tale_85 : decode cX7_tale 85 = .ok (.iconst 2, 1) := by decide +kernel
theorem dX7_tale_86 : decode cX7_tale 86 = .ok (.invokevirtual 144, 3) := by decide +kernel
theorem dX7_tale_89 : decode cX7_tale 89 = .ok (.ireturn, 1) := by decide +kernel
theorem dX7_undo_0 : decode cX7_undo 0 = .ok (.aload_n 0, 1) := by decide +kernel
theorem dX7_undo_1 : decode cX7_undo 1 = .ok (.getfield 141, 3) := by decide +kernel
theorem dX7_undo_4 : decode cX7_undo 4 = .ok (.ifCond .ne 6, 3) := by decide +kernel
theorem dX7_undo_7 : decode cX7_undo 7 = .ok (.ldc 157, 2) := by decide +kernel
theorem dX7_undo_9 : decode cX7_undo 9 = .ok (.ireturn, 1) := by decide +kernel
theorem dX7_undo_10 : decode cX7_undo 10 = .ok (.aload_n 0, 1) := by decide +kernel
theorem dX7_undo_11 : decode cX7_undo 11 = .ok (.dup, 1) := by decide +kernel
theorem dX7_undo_12 : decode cX7_undo 12 = .ok (.getfield 141, 3) := by decide +kernel
theorem dX7_undo_15 : decode cX7_undo 15 = .ok (.iconst 1, 1) := by decide +kernel
theorem dX7_undo_16 : decode cX7_undo 16 = .ok (.isub, 1) := by decide +kernel
theorem dX7_undo_17 : decode cX7_undo 17 = .ok (.putfield 141, 3) := by decide +kernel
theorem dX7_undo_20 : decode cX7_undo 20 = .ok (.aload_n 0, 1) := by decide +kernel
theorem dX7_undo_21 : decode cX7_undo 21 = .ok (.getfield 31, 3) := by decide +kernel
theorem dX7_undo_24 : decode cX7_undo 24 = .ok (.bipush 71, 2) := by decide +kernel
theorem dX7_undo_26 : decode cX7_undo 26 = .ok (.aload_n 0, 1) := by decide +kernel
theorem dX7_undo_27 : decode cX7_undo 27 = .ok (.getfield 141, 3) := by decide +kernel
theorem dX7_undo_30 : decode cX7_undo 30 = .ok (.imul, 1) := by decide +kernel
theorem dX7_undo_31 : decode cX7_undo 31 = .ok (.aload_n 0, 1) := by decide +kernel
theorem dX7_undo_32 : decode cX7_undo 32 = .ok (.getfield 25, 3) := by decide +kernel
theorem dX7_undo_35 : decode cX7_undo 35 = .ok (.iconst 0, 1) := by decide +kernel
theorem dX7_undo_36 : decode cX7_undo 36 = .ok (.invokestatic 137, 3) := by decide +kernel
theorem dX7_undo_39 : decode cX7_undo 39 = .ok (.aload_n 0, 1) := by decide +kernel
theorem dX7_undo_40 : decode cX7_undo 40 = .ok (.getfield 141, 3) := by decide +kernel
theorem dX7_undo_43 : decode cX7_undo 43 = .ok (.ireturn, 1) := by decide +kernel
theorem dX7_guest_0 : decode cX7_guest 0 = .ok (.aload_n 0, 1) := by decide +kernel
theorem dX7_guest_1 : decode cX7_guest 1 = .ok (.iload_n 1, 1) := by decide +kernel
theorem dX7_guest_2 : decode cX7_guest 2 = .ok (.invokevirtual 151, 3) := by decide +kernel
theorem dX7_guest_5 : decode cX7_guest 5 = .ok (.ifCond .eq 21, 3) := by decide +kernel
theorem dX7_guest_8 : decode cX7_guest 8 = .ok (.iload_n 2, 1) := by decide +kernel
theorem dX7_guest_9 : decode cX7_guest 9 = .ok (.iconst 0, 1) := by decide +kernel
theorem dX7_guest_10 : decode cX7_guest 10 = .ok (.iconst 4, 1) := by decide +kernel
theorem dX7_guest_11 : decode cX7_guest 11 = .ok (.invokestatic 59, 3) := by decide +kernel
theorem dX7_guest_14 : decode cX7_guest 14 = .ok (.ifCond .eq 12, 3) := by decide +kernel
theorem dX7_guest_17 : decode cX7_guest 17 = .ok (.aload_n 0, 1) := by decide +kernel
theorem dX7_guest_18 : decode cX7_guest 18 = .ok (.iload_n 1, 1) := by decide +kernel
theorem dX7_guest_19 : decode cX7_guest 19 = .ok (.iload_n 2, 1) := by decide +kernel
theorem dX7_guest_20 : decode cX7_guest 20 = .ok (.invokevirtual 144, 3) := by decide +kernel
theorem dX7_guest_23 : decode cX7_guest 23 = .ok (.goto 5, 3) := by decide +kernel
theorem dX7_guest_26 : decode cX7_guest 26 = .ok (.ldc 67, 2) := by decide +kernel
theorem dX7_guest_28 : decode cX7_guest 28 = .ok (.ireturn, 1) := by decide +kernel
theorem dX7_hint_0 : decode cX7_hint 0 = .ok (.aload_n 0, 1) := by decide +kernel
theorem dX7_hint_1 : decode cX7_hint 1 = .ok (.iload_n 1, 1) := by decide +kernel
theorem dX7_hint_2 : decode cX7_hint 2 = .ok (.invokevirtual 161, 3) := by decide +kernel
theorem dX7_hint_5 : decode cX7_hint 5 = .ok (.ifCond .eq 12, 3) := by decide +kernel
theorem dX7_hint_8 : decode cX7_hint 8 = .ok (.iload_n 2, 1) := by decide +kernel
theorem dX7_hint_9 : decode cX7_hint 9 = .ok (.iconst 0, 1) := by decide +kernel
theorem dX7_hint_10 : decode cX7_hint 10 = .ok (.iconst 3, 1) := by decide +kernel
theorem dX7_hint_11 : decode cX7_hint 11 = .ok (.invokestatic 59, 3) := by decide +kernel
theorem dX7_hint_14 : decode cX7_hint 14 = .ok (.ifCond .ne 6, 3) := by decide +kernel
theorem dX7_hint_17 : decode cX7_hint 17 = .ok (.ldc 67, 2) := by decide +kernel
theorem dX7_hint_19 : decode cX7_hint 19 = .ok (.ireturn, 1) := by decide +kernel
theorem dX7_hint_20 : decode cX7_hint 20 = .ok (.iload_n 2, 1) := by decide +kernel
theorem dX7_hint_21 : decode cX7_hint 21 = .ok (.iconst 3, 1) := by decide +kernel
theorem dX7_hint_22 : decode cX7_hint 22 = .ok (.if_icmp .ge 21, 3) := by decide +kernel
theorem dX7_hint_25 : decode cX7_hint 25 = .ok (.aload_n 0, 1) := by decide +kernel
theorem dX7_hint_26 : decode cX7_hint 26 = .ok (.getfield 25, 3) := by decide +kernel
theorem dX7_hint_29 : decode cX7_hint 29 = .ok (.bipush 9, 2) := by decide +kernel
theorem dX7_hint_31 : decode cX7_hint 31 = .ok (.iconst 4, 1) := by decide +kernel
theorem dX7_hint_32 : decode cX7_hint 32 = .ok (.iload_n 1, 1) := by decide +kernel
theorem dX7_hint_33 : decode cX7_hint 33 = .ok (.imul, 1) := by decide +kernel
theorem dX7_hint_34 : decode cX7_hint 34 = .ok (.iadd, 1) := by decide +kernel
theorem dX7_hint_35 : decode cX7_hint 35 = .ok (.iconst 1, 1) := by decide +kernel
theorem dX7_hint_36 : decode cX7_hint 36 = .ok (.iadd, 1) := by decide +kernel
theorem dX7_hint_37 : decode cX7_hint 37 = .ok (.iload_n 2, 1) := by decide +kernel
theorem dX7_hint_38 : decode cX7_hint 38 = .ok (.iadd, 1) := by decide +kernel
theorem dX7_hint_39 : decode cX7_hint 39 = .ok (.iaload, 1) := by decide +kernel
theorem dX7_hint_40 : decode cX7_hint 40 = .ok (.goto 13, 3) := by decide +kernel
theorem dX7_hint_43 : decode cX7_hint 43 = .ok (.aload_n 0, 1) := by decide +kernel
theorem dX7_hint_44 : decode cX7_hint 44 = .ok (.getfield 25, 3) := by decide +kernel
theorem dX7_hint_47 : decode cX7_hint 47 = .ok (.iconst 4, 1) := by decide +kernel
theorem dX7_hint_48 : decode cX7_hint 48 = .ok (.iaload, 1) := by decide +kernel
theorem dX7_hint_49 : decode cX7_hint 49 = .ok (.iload_n 1, 1) := by decide +kernel
theorem dX7_hint_50 : decode cX7_hint 50 = .ok (.ishr, 1) := by decide +kernel
theorem dX7_hint_51 : decode cX7_hint 51 = .ok (.iconst 1, 1) := by decide +kernel
theorem dX7_hint_52 : decode cX7_hint 52 = .ok (.iand, 1) := by decide +kernel
theorem dX7_hint_53 : decode cX7_hint 53 = .ok (.ireturn, 1) := by decide +kernel
theorem dX7_leads_0 : decode cX7_leads 0 = .ok (.aload_n 0, 1) := by decide +kernel
theorem dX7_leads_1 : decode cX7_leads 1 = .ok (.iload_n 1, 1) := by decide +kernel
theorem dX7_leads_2 : decode cX7_leads 2 = .ok (.invokevirtual 161, 3) := by decide +kernel
theorem dX7_leads_5 : decode cX7_leads 5 = .ok (.ifCond .eq 22, 3) := by decide +kernel
theorem dX7_leads_8 : decode cX7_leads 8 = .ok (.iload_n 2, 1) := by decide +kernel
theorem dX7_leads_9 : decode cX7_leads 9 = .ok (.iconst 0, 1) := by decide +kernel
theorem dX7_leads_10 : decode cX7_leads 10 = .ok (.bipush 7, 2) := by decide +kernel
theorem dX7_leads_12 : decode cX7_leads 12 = .ok (.invokestatic 59, 3) := by decide +kernel
theorem dX7_leads_15 : decode cX7_leads 15 = .ok (.ifCond .eq 12, 3) := by decide +kernel
theorem dX7_leads_18 : decode cX7_leads 18 = .ok (.aload_n 0, 1) := by decide +kernel
theorem dX7_leads_19 : decode cX7_leads 19 = .ok (.iload_n 1, 1) := by decide +kernel
theorem dX7_leads_20 : decode cX7_leads 20 = .ok (.iload_n 2, 1) := by decide +kernel
theorem dX7_leads_21 : decode cX7_leads 21 = .ok (.invokevirtual 171, 3) := by decide +kernel
theorem dX7_leads_24 : decode cX7_leads 24 = .ok (.goto 5, 3) := by decide +kernel
theorem dX7_leads_27 : decode cX7_leads 27 = .ok (.ldc 67, 2) := by decide +kernel
theorem dX7_leads_29 : decode cX7_leads 29 = .ok (.ireturn, 1) := by decide +kernel
theorem dX7_allHints_0 : decode cX7_allHints 0 = .ok (.iconst 1, 1) := by decide +kernel
theorem dX7_allHints_1 : decode cX7_allHints 1 = .ok (.aload_n 0, 1) := by decide +kernel
theorem dX7_allHints_2 : decode cX7_allHints 2 = .ok (.getfield 25, 3) := by decide +kernel
theorem dX7_allHints_5 : decode cX7_allHints 5 = .ok (.bipush 7, 2) := by decide +kernel
theorem dX7_allHints_7 : decode cX7_allHints 7 = .ok (.iaload, 1) := by decide +kernel
theorem dX7_allHints_8 : decode cX7_allHints 8 = .ok (.ishl, 1) := by decide +kernel
theorem dX7_allHints_9 : decode cX7_allHints 9 = .ok (.iconst 1, 1) := by decide +kernel
theorem dX7_allHints_10 : decode cX7_allHints 10 = .ok (.isub, 1) := by decide +kernel
theorem dX7_allHints_11 : decode cX7_allHints 11 = .ok (.ireturn, 1) := by decide +kernel
theorem dX7_ahead_0 : decode cX7_ahead 0 = .ok (.aload_n 0, 1) := by decide +kernel
theorem dX7_ahead_1 : decode cX7_ahead 1 = .ok (.getfield 25, 3) := by decide +kernel
theorem dX7_ahead_4 : decode cX7_ahead 4 = .ok (.iconst 3, 1) := by decide +kernel
theorem dX7_ahead_5 : decode cX7_ahead 5 = .ok (.iaload, 1) := by decide +kernel
theorem dX7_ahead_6 : decode cX7_ahead 6 = .ok (.iload_n 1, 1) := by decide +kernel
theorem dX7_ahead_7 : decode cX7_ahead 7 = .ok (.if_icmp .ne 19, 3) := by decide +kernel
theorem dX7_ahead_10 : decode cX7_ahead 10 = .ok (.aload_n 0, 1) := by decide +kernel
theorem dX7_ahead_11 : decode cX7_ahead 11 = .ok (.invokevirtual 177, 3) := by decide +kernel
theorem dX7_ahead_14 : decode cX7_ahead 14 = .ok (.aload_n 0, 1) := by decide +kernel
theorem dX7_ahead_15 : decode cX7_ahead 15 = .ok (.getfield 25, 3) := by decide +kernel
theorem dX7_ahead_18 : decode cX7_ahead 18 = .ok (.iconst 4, 1) := by decide +kernel
theorem dX7_ahead_19 : decode cX7_ahead 19 = .ok (.iaload, 1) := by decide +kernel
theorem dX7_ahead_20 : decode cX7_ahead 20 = .ok (.iconst (-1), 1) := by decide +kernel
theorem dX7_ahead_21 : decode cX7_ahead 21 = .ok (.ixor, 1) := by decide +kernel
theorem dX7_ahead_22 : decode cX7_ahead 22 = .ok (.iand, 1) := by decide +kernel
theorem dX7_ahead_23 : decode cX7_ahead 23 = .ok (.goto 7, 3) := by decide +kernel
theorem dX7_ahead_26 : decode cX7_ahead 26 = .ok (.aload_n 0, 1) := by decide +kernel
theorem dX7_ahead_27 : decode cX7_ahead 27 = .ok (.invokevirtual 177, 3) := by decide +kernel
theorem dX7_ahead_30 : decode cX7_ahead 30 = .ok (.ireturn, 1) := by decide +kernel
theorem dX7_atMost_0 : decode cX7_atMost 0 = .ok (.aload_n 0, 1) := by decide +kernel
theorem dX7_atMost_1 : decode cX7_atMost 1 = .ok (.getfield 25, 3) := by decide +kernel
theorem dX7_atMost_4 : decode cX7_atMost 4 = .ok (.iconst 0, 1) := by decide +kernel
theorem dX7_atMost_5 : decode cX7_atMost 5 = .ok (.iaload, 1) := by decide +kernel
theorem dX7_atMost_6 : decode cX7_atMost 6 = .ok (.aload_n 0, 1) := by decide +kernel
theorem dX7_atMost_7 : decode cX7_atMost 7 = .ok (.getfield 25, 3) := by decide +kernel
theorem dX7_atMost_10 : decode cX7_atMost 10 = .ok (.iconst 3, 1) := by decide +kernel
theorem dX7_atMost_11 : decode cX7_atMost 11 = .ok (.iaload, 1) := by decide +kernel
theorem dX7_atMost_12 : decode cX7_atMost 12 = .ok (.iload_n 1, 1) := by decide +kernel
theorem dX7_atMost_13 : decode cX7_atMost 13 = .ok (.if_icmp .ne 15, 3) := by decide +kernel
theorem dX7_atMost_16 : decode cX7_atMost 16 = .ok (.aload_n 0, 1) := by decide +kernel
theorem dX7_atMost_17 : decode cX7_atMost 17 = .ok (.getfield 25, 3) := by decide +kernel
theorem dX7_atMost_20 : decode cX7_atMost 20 = .ok (.iconst 4, 1) := by decide +kernel
theorem dX7_atMost_21 : decode cX7_atMost 21 = .ok (.iaload, 1) := by decide +kernel
theorem dX7_atMost_22 : decode cX7_atMost 22 = .ok (.invokestatic 168, 3) := by decide +kernel
theorem dX7_atMost_25 : decode cX7_atMost 25 = .ok (.goto 4, 3) := by decide +kernel
theorem dX7_atMost_28 : decode cX7_atMost 28 = .ok (.iconst 0, 1) := by decide +kernel
theorem dX7_atMost_29 : decode cX7_atMost 29 = .ok (.isub, 1) := by decide +kernel
theorem dX7_atMost_30 : decode cX7_atMost 30 = .ok (.istore_n 2, 1) := by decide +kernel
theorem dX7_atMost_31 : decode cX7_atMost 31 = .ok (.aload_n 0, 1) := by decide +kernel
theorem dX7_atMost_32 : decode cX7_atMost 32 = .ok (.iload_n 1, 1) := by decide +kernel
theorem dX7_atMost_33 : decode cX7_atMost 33 = .ok (.invokevirtual 181, 3) := by decide +kernel
theorem dX7_atMost_36 : decode cX7_atMost 36 = .ok (.invokestatic 168, 3) := by decide +kernel
theorem dX7_atMost_39 : decode cX7_atMost 39 = .ok (.istore_n 3, 1) := by decide +kernel
theorem dX7_atMost_40 : decode cX7_atMost 40 = .ok (.iload_n 3, 1) := by decide +kernel
theorem dX7_atMost_41 : decode cX7_atMost 41 = .ok (.iload_n 2, 1) := by decide +kernel
theorem dX7_atMost_42 : decode cX7_atMost 42 = .ok (.if_icmp .ge 7, 3) := by decide +kernel
theorem dX7_atMost_45 : decode cX7_atMost 45 = .ok (.iload_n 3, 1) := by decide +kernel
theorem dX7_atMost_46 : decode cX7_atMost 46 = .ok (.goto 4, 3) := by decide +kernel
theorem dX7_atMost_49 : decode cX7_atMost 49 = .ok (.iload_n 2, 1) := by decide +kernel
theorem dX7_atMost_50 : decode cX7_atMost 50 = .ok (.ireturn, 1) := by decide +kernel
theorem dX7_thinks_0 : decode cX7_thinks 0 = .ok (.iconst 0, 1) := by decide +kernel
theorem dX7_thinks_1 : decode cX7_thinks 1 = .ok (.istore_n 2, 1) := by decide +kernel
theorem dX7_thinks_2 : decode cX7_thinks 2 = .ok (.iload_n 2, 1) := by decide +kernel
theorem dX7_thinks_3 : decode cX7_thinks 3 = .ok (.sipush 256, 3) := by decide +kernel
theorem dX7_thinks_6 : decode cX7_thinks 6 = .ok (.if_icmp .ge 31, 3) := by decide +kernel
theorem dX7_thinks_9 : decode cX7_thinks 9 = .ok (.aload_n 0, 1) := by decide +kernel
theorem dX7_thinks_10 : decode cX7_thinks 10 = .ok (.getfield 44, 3) := by decide +kernel
theorem dX7_thinks_13 : decode cX7_thinks 13 = .ok (.iload_n 2, 1) := by decide +kernel
theorem dX7_thinks_14 : decode cX7_thinks 14 = .ok (.iload_n 2, 1) := by decide +kernel
theorem dX7_thinks_15 : decode cX7_thinks 15 = .ok (.ifCond .ne 14, 3) := by decide +kernel
theorem dX7_thinks_18 : decode cX7_thinks 18 = .ok (.iconst 1, 1) := by decide +kernel
theorem dX7_thinks_19 : decode cX7_thinks 19 = .ok (.aload_n 0, 1) := by decide +kernel
theorem dX7_thinks_20 : decode cX7_thinks 20 = .ok (.iload_n 1, 1) := by decide +kernel
theorem dX7_thinks_21 : decode cX7_thinks 21 = .ok (.iconst 0, 1) := by decide +kernel
theorem dX7_thinks_22 : decode cX7_thinks 22 = .ok (.invokevirtual 144, 3) := by decide +kernel
theorem dX7_thinks_25 : decode cX7_thinks 25 = .ok (.ishl, 1) := by decide +kernel
theorem dX7_thinks_26 : decode cX7_thinks 26 = .ok (.goto 4, 3) := by decide +kernel
theorem dX7_thinks_29 : decode cX7_thinks 29 = .ok (.iconst 0, 1) := by decide +kernel
theorem dX7_thinks_30 : decode cX7_thinks 30 = .ok (.iastore, 1) := by decide +kernel
theorem dX7_thinks_31 : decode cX7_thinks 31 = .ok (.iinc 2 1, 3) := by decide +kernel
theorem dX7_thinks_34 : decode cX7_thinks 34 = .ok (.goto (-32), 3) := by decide +kernel
theorem dX7_thinks_37 : decode cX7_thinks 37 = .ok (.iconst 0, 1) := by decide +kernel
theorem dX7_thinks_38 : decode cX7_thinks 38 = .ok (.istore_n 2, 1) := by decide +kernel
theorem dX7_thinks_39 : decode cX7_thinks 39 = .ok (.iload_n 2, 1) := by decide +kernel
theorem dX7_thinks_40 : decode cX7_thinks 40 = .ok (.aload_n 0, 1) := by decide +kernel
theorem dX7_thinks_41 : decode cX7_thinks 41 = .ok (.invokevirtual 177, 3) := by decide +kernel
theorem dX7_thinks_44 : decode cX7_thinks 44 = .ok (.if_icmp .gt 92, 3) := by decide +kernel
theorem dX7_thinks_47 : decode cX7_thinks 47 = .ok (.iconst 0, 1) := by decide +kernel
theorem dX7_thinks_48 : decode cX7_thinks 48 = .ok (.istore_n 3, 1) := by decide +kernel
theorem dX7_thinks_49 : decode cX7_thinks 49 = .ok (.iload_n 3, 1) := by decide +kernel
theorem dX7_thinks_50 : decode cX7_thinks 50 = .ok (.aload_n 0, 1) := by decide +kernel
theorem dX7_thinks_51 : decode cX7_thinks 51 = .ok (.getfield 25, 3) := by decide +kernel
theorem dX7_thinks_54 : decode cX7_thinks 54 = .ok (.bipush 7, 2) := by decide +kernel
theorem dX7_thinks_56 : decode cX7_thinks 56 = .ok (.iaload, 1) := by decide +kernel
theorem dX7_thinks_57 : decode cX7_thinks 57 = .ok (.if_icmp .ge 73, 3) := by decide +kernel
theorem dX7_thinks_60 : decode cX7_thinks 60 = .ok (.iconst 0, 1) := by decide +kernel
theorem dX7_thinks_61 : decode cX7_thinks 61 = .ok (.istore 4, 2) := by decide +kernel
theorem dX7_thinks_63 : decode cX7_thinks 63 = .ok (.iload 4, 2) := by decide +kernel
theorem dX7_thinks_65 : decode cX7_thinks 65 = .ok (.bipush 8, 2) := by decide +kernel
theorem dX7_thinks_67 : decode cX7_thinks 67 = .ok (.if_icmp .ge 57, 3) := by decide +kernel
theorem dX7_thinks_70 : decode cX7_thinks 70 = .ok (.iload_n 2, 1) := by decide +kernel
theorem dX7_thinks_71 : decode cX7_thinks 71 = .ok (.iload_n 3, 1) := by decide +kernel
theorem dX7_thinks_72 : decode cX7_thinks 72 = .ok (.invokestatic 164, 3) := by decide +kernel
theorem dX7_thinks_75 : decode cX7_thinks 75 = .ok (.ifCond .ne 49, 3) := by decide +kernel
theorem dX7_thinks_78 : decode cX7_thinks 78 = .ok (.aload_n 0, 1) := by decide +kernel
theorem dX7_thinks_79 : decode cX7_thinks 79 = .ok (.getfield 44, 3) := by decide +kernel
theorem dX7_thinks_82 : decode cX7_thinks 82 = .ok (.iload_n 2, 1) := by decide +kernel
theorem dX7_thinks_83 : decode cX7_thinks 83 = .ok (.iconst 1, 1) := by decide +kernel
theorem dX7_thinks_84 : decode cX7_thinks 84 = .ok (.iload_n 3, 1) := by decide +kernel
theorem dX7_thinks_85 : decode cX7_thinks 85 = .ok (.ishl, 1) := by decide +kernel
theorem dX7_thinks_86 : decode cX7_thinks 86 = .ok (.ior, 1) := by decide +kernel
theorem dX7_thinks_87 : decode cX7_thinks 87 = .ok (.dup2, 1) := by decide +kernel
theorem dX7_thinks_88 : decode cX7_thinks 88 = .ok (.iaload, 1) := by decide +kernel
theorem dX7_thinks_89 : decode cX7_thinks 89 = .ok (.aload_n 0, 1) := by decide +kernel
theorem dX7_thinks_90 : decode cX7_thinks 90 = .ok (.getfield 44, 3) := by decide +kernel
theorem dX7_thinks_93 : decode cX7_thinks 93 = .ok (.iload_n 2, 1) := by decide +kernel
theorem dX7_thinks_94 : decode cX7_thinks 94 = .ok (.iaload, 1) := by decide +kernel
theorem dX7_thinks_95 : decode cX7_thinks 95 = .ok (.iload 4, 2) := by decide +kernel
theorem dX7_thinks_97 : decode cX7_thinks 97 = .ok (.invokestatic 164, 3) := by decide +kernel
theorem dX7_thinks_100 : decode cX7_thinks 100 = .ok (.ifCond .eq 15, 3) := by decide +kernel
theorem dX7_thinks_103 : decode cX7_thinks 103 = .ok (.iconst 1, 1) := by decide +kernel
theorem dX7_thinks_104 : decode cX7_thinks 104 = .ok (.aload_n 0, 1) := by decide +kernel
theorem dX7_thinks_105 : decode cX7_thinks 105 = .ok (.iload_n 3, 1) := by decide +kernel
theorem dX7_thinks_106 : decode cX7_thinks 106 = .ok (.iload 4, 2) := by decide +kernel
theorem dX7_thinks_108 : decode cX7_thinks 108 = .ok (.invokevirtual 171, 3) := by decide +kernel
theorem dX7_thinks_111 : decode cX7_thinks 111 = .ok (.ishl, 1) := by decide +kernel
theorem dX7_thinks_112 : decode cX7_thinks 112 = .ok (.goto 4, 3) := by decide +kernel
theorem dX7_thinks_115 : decode cX7_thinks 115 = .ok (.iconst 0, 1) := by decide +kernel
theorem dX7_thinks_116 : decode cX7_thinks 116 = .ok (.ior, 1) := by decide +kernel
theorem dX7_thinks_117 : decode cX7_thinks 117 = .ok (.iastore, 1) := by decide +kernel
theorem dX7_thinks_118 : decode cX7_thinks 118 = .ok (.iinc 4 1, 3) := by decide +kernel
theorem dX7_thinks_121 : decode cX7_thinks 121 = .ok (.goto (-58), 3) := by decide +kernel
theorem dX7_thinks_124 : decode cX7_thinks 124 = .ok (.iinc 3 1, 3) := by decide +kernel
theorem dX7_thinks_127 : decode cX7_thinks 127 = .ok (.goto (-78), 3) := by decide +kernel
theorem dX7_thinks_130 : decode cX7_thinks 130 = .ok (.iinc 2 1, 3) := by decide +kernel
theorem dX7_thinks_133 : decode cX7_thinks 133 = .ok (.goto (-94), 3) := by decide +kernel
theorem dX7_thinks_136 : decode cX7_thinks 136 = .ok (.return_, 1) := by decide +kernel
theorem dX7_fewest_0 : decode cX7_fewest 0 = .ok (.ldc 53, 2) := by decide +kernel
theorem dX7_fewest_2 : decode cX7_fewest 2 = .ok (.istore_n 3, 1) := by decide +kernel
theorem dX7_fewest_3 : decode cX7_fewest 3 = .ok (.iconst 0, 1) := by decide +kernel
theorem dX7_fewest_4 : decode cX7_fewest 4 = .ok (.istore 4, 2) := by decide +kernel
theorem dX7_fewest_6 : decode cX7_fewest 6 = .ok (.iload 4, 2) := by decide +kernel
theorem dX7_fewest_8 : decode cX7_fewest 8 = .ok (.iload_n 1, 1) := by decide +kernel
theorem dX7_fewest_9 : decode cX7_fewest 9 = .ok (.if_icmp .gt 83, 3) := by decide +kernel
theorem dX7_fewest_12 : decode cX7_fewest 12 = .ok (.iload 4, 2) := by decide +kernel
theorem dX7_fewest_14 : decode cX7_fewest 14 = .ok (.iload_n 1, 1) := by decide +kernel
theorem dX7_fewest_15 : decode cX7_fewest 15 = .ok (.iconst (-1), 1) := by decide +kernel
theorem dX7_fewest_16 : decode cX7_fewest 16 = .ok (.ixor, 1) := by decide +kernel
theorem dX7_fewest_17 : decode cX7_fewest 17 = .ok (.iand, 1) := by decide +kernel
theorem dX7_fewest_18 : decode cX7_fewest 18 = .ok (.ifCond .ne 35, 3) := by decide +kernel
theorem dX7_fewest_21 : decode cX7_fewest 21 = .ok (.iload 4, 2) := by decide +kernel
theorem dX7_fewest_23 : decode cX7_fewest 23 = .ok (.invokestatic 168, 3) := by decide +kernel
theorem dX7_fewest_26 : decode cX7_fewest 26 = .ok (.iload_n 2, 1) := by decide +kernel
theorem dX7_fewest_27 : decode cX7_fewest 27 = .ok (.if_icmp .gt 26, 3) := by decide +kernel
theorem dX7_fewest_30 : decode cX7_fewest 30 = .ok (.aload_n 0, 1) := by decide +kernel
theorem dX7_fewest_31 : decode cX7_fewest 31 = .ok (.getfield 44, 3) := by decide +kernel
theorem dX7_fewest_34 : decode cX7_fewest 34 = .ok (.iload 4, 2) := by decide +kernel
theorem dX7_fewest_36 : decode cX7_fewest 36 = .ok (.iaload, 1) := by decide +kernel
theorem dX7_fewest_37 : decode cX7_fewest 37 = .ok (.aload_n 0, 1) := by decide +kernel
theorem dX7_fewest_38 : decode cX7_fewest 38 = .ok (.getfield 25, 3) := by decide +kernel
theorem dX7_fewest_41 : decode cX7_fewest 41 = .ok (.iconst 1, 1) := by decide +kernel
theorem dX7_fewest_42 : decode cX7_fewest 42 = .ok (.iaload, 1) := by decide +kernel
theorem dX7_fewest_43 : decode cX7_fewest 43 = .ok (.invokestatic 164, 3) := by decide +kernel
theorem dX7_fewest_46 : decode cX7_fewest 46 = .ok (.ifCond .eq 7, 3) := by decide +kernel
theorem dX7_fewest_49 : decode cX7_fewest 49 = .ok (.iconst 1, 1) := by decide +kernel
theorem dX7_fewest_50 : decode cX7_fewest 50 = .ok (.goto 4, 3) := by decide +kernel
theorem dX7_fewest_53 : decode cX7_fewest 53 = .ok (.iconst 0, 1) := by decide +kernel
theorem dX7_fewest_54 : decode cX7_fewest 54 = .ok (.istore 5, 2) := by decide +kernel
theorem dX7_fewest_56 : decode cX7_fewest 56 = .ok (.iload 5, 2) := by decide +kernel
theorem dX7_fewest_58 : decode cX7_fewest 58 = .ok (.ifCond .eq 26, 3) := by decide +kernel
theorem dX7_fewest_61 : decode cX7_fewest 61 = .ok (.iload_n 3, 1) := by decide +kernel
theorem dX7_fewest_62 : decode cX7_fewest 62 = .ok (.ldc 53, 2) := by decide +kernel
theorem dX7_fewest_64 : decode cX7_fewest 64 = .ok (.if_icmp .eq 12, 3) := by decide +kernel
theorem dX7_fewest_67 : decode cX7_fewest 67 = .ok (.iload 4, 2) := by decide +kernel
theorem dX7_fewest_69 : decode cX7_fewest 69 = .ok (.invokestatic 168, 3) := by decide +kernel
theorem dX7_fewest_72 : decode cX7_fewest 72 = .ok (.iload_n 3, 1) := by decide +kernel
theorem dX7_fewest_73 : decode cX7_fewest 73 = .ok (.if_icmp .ge 11, 3) := by decide +kernel
theorem dX7_fewest_76 : decode cX7_fewest 76 = .ok (.iload 4, 2) := by decide +kernel
theorem dX7_fewest_78 : decode cX7_fewest 78 = .ok (.invokestatic 168, 3) := by decide +kernel
theorem dX7_fewest_81 : decode cX7_fewest 81 = .ok (.goto 4, 3) := by decide +kernel
theorem dX7_fewest_84 : decode cX7_fewest 84 = .ok (.iload_n 3, 1) := by decide +kernel
theorem dX7_fewest_85 : decode cX7_fewest 85 = .ok (.istore_n 3, 1) := by decide +kernel
theorem dX7_fewest_86 : decode cX7_fewest 86 = .ok (.iinc 4 1, 3) := by decide +kernel
theorem dX7_fewest_89 : decode cX7_fewest 89 = .ok (.goto (-83), 3) := by decide +kernel
theorem dX7_fewest_92 : decode cX7_fewest 92 = .ok (.iload_n 3, 1) := by decide +kernel
theorem dX7_fewest_93 : decode cX7_fewest 93 = .ok (.ireturn, 1) := by decide +kernel
theorem dX7_power_0 : decode cX7_power 0 = .ok (.iconst 1, 1) := by decide +kernel
theorem dX7_power_1 : decode cX7_power 1 = .ok (.istore_n 2, 1) := by decide +kernel
theorem dX7_power_2 : decode cX7_power 2 = .ok (.iconst 0, 1) := by decide +kernel
theorem dX7_power_3 : decode cX7_power 3 = .ok (.istore_n 3, 1) := by decide +kernel
theorem dX7_power_4 : decode cX7_power 4 = .ok (.iload_n 3, 1) := by decide +kernel
theorem dX7_power_5 : decode cX7_power 5 = .ok (.iload_n 1, 1) := by decide +kernel
theorem dX7_power_6 : decode cX7_power 6 = .ok (.if_icmp .ge 13, 3) := by decide +kernel
theorem dX7_power_9 : decode cX7_power 9 = .ok (.iload_n 2, 1) := by decide +kernel
theorem dX7_power_10 : decode cX7_power 10 = .ok (.iload_n 0, 1) := by decide +kernel
theorem dX7_power_11 : decode cX7_power 11 = .ok (.imul, 1) := by decide +kernel
theorem dX7_power_12 : decode cX7_power 12 = .ok (.istore_n 2, 1) := by decide +kernel
theorem dX7_power_13 : decode cX7_power 13 = .ok (.iinc 3 1, 3) := by decide +kernel
theorem dX7_power_16 : decode cX7_power 16 = .ok (.goto (-12), 3) := by decide +kernel
theorem dX7_power_19 : decode cX7_power 19 = .ok (.iload_n 2, 1) := by decide +kernel
theorem dX7_power_20 : decode cX7_power 20 = .ok (.ireturn, 1) := by decide +kernel
theorem dX7_endOf_0 : decode cX7_endOf 0 = .ok (.aload_n 0, 1) := by decide +kernel
theorem dX7_endOf_1 : decode cX7_endOf 1 = .ok (.iload_n 1, 1) := by decide +kernel
theorem dX7_endOf_2 : decode cX7_endOf 2 = .ok (.iconst 0, 1) := by decide +kernel
theorem dX7_endOf_3 : decode cX7_endOf 3 = .ok (.invokevirtual 144, 3) := by decide +kernel
theorem dX7_endOf_6 : decode cX7_endOf 6 = .ok (.istore 5, 2) := by decide +kernel
theorem dX7_endOf_8 : decode cX7_endOf 8 = .ok (.aload_n 0, 1) := by decide +kernel
theorem dX7_endOf_9 : decode cX7_endOf 9 = .ok (.iload_n 1, 1) := by decide +kernel
theorem dX7_endOf_10 : decode cX7_endOf 10 = .ok (.invokevirtual 181, 3) := by decide +kernel
theorem dX7_endOf_13 : decode cX7_endOf 13 = .ok (.iconst (-1), 1) := by decide +kernel
theorem dX7_endOf_14 : decode cX7_endOf 14 = .ok (.ixor, 1) := by decide +kernel
theorem dX7_endOf_15 : decode cX7_endOf 15 = .ok (.istore 6, 2) := by decide +kernel
theorem dX7_endOf_17 : decode cX7_endOf 17 = .ok (.iload 4, 2) := by decide +kernel
theorem dX7_endOf_19 : decode cX7_endOf 19 = .ok (.ifCond .eq 17, 3) := by decide +kernel
theorem dX7_endOf_22 : decode cX7_endOf 22 = .ok (.iload 5, 2) := by decide +kernel
theorem dX7_endOf_24 : decode cX7_endOf 24 = .ok (.aload_n 0, 1) := by decide +kernel
theorem dX7_endOf_25 : decode cX7_endOf 25 = .ok (.getfield 25, 3) := by decide +kernel
theorem dX7_endOf_28 : decode cX7_endOf 28 = .ok (.iconst 2, 1) := by decide +kernel
theorem dX7_endOf_29 : decode cX7_endOf 29 = .ok (.iaload, 1) := by decide +kernel
theorem dX7_endOf_30 : decode cX7_endOf 30 = .ok (.if_icmp .ne 6, 3) := by decide +kernel
theorem dX7_endOf_33 : decode cX7_endOf 33 = .ok (.ldc 53, 2) := by decide +kernel
theorem dX7_endOf_35 : decode cX7_endOf 35 = .ok (.ireturn, 1) := by decide +kernel
theorem dX7_endOf_36 : decode cX7_endOf 36 = .ok (.iconst 0, 1) := by decide +kernel
theorem dX7_endOf_37 : decode cX7_endOf 37 = .ok (.istore 7, 2) := by decide +kernel
theorem dX7_endOf_39 : decode cX7_endOf 39 = .ok (.iload 7, 2) := by decide +kernel
theorem dX7_endOf_41 : decode cX7_endOf 41 = .ok (.iload_n 3, 1) := by decide +kernel
theorem dX7_endOf_42 : decode cX7_endOf 42 = .ok (.if_icmp .ge 78, 3) := by decide +kernel
theorem dX7_endOf_45 : decode cX7_endOf 45 = .ok (.iload_n 2, 1) := by decide +kernel
theorem dX7_endOf_46 : decode cX7_endOf 46 = .ok (.bipush 8, 2) := by decide +kernel
theorem dX7_endOf_48 : decode cX7_endOf 48 = .ok (.iload_n 3, 1) := by decide +kernel
theorem dX7_endOf_49 : decode cX7_endOf 49 = .ok (.iconst 1, 1) := by decide +kernel
theorem dX7_endOf_50 : decode cX7_endOf 50 = .ok (.isub, 1) := by decide +kernel
theorem dX7_endOf_51 : decode cX7_endOf 51 = .ok (.iload 7, 2) := by decide +kernel
theorem dX7_endOf_53 : decode cX7_endOf 53 = .ok (.isub, 1) := by decide +kernel
theorem dX7_endOf_54 : decode cX7_endOf 54 = .ok (.invokestatic 184, 3) := by decide +kernel
theorem dX7_endOf_57 : decode cX7_endOf 57 = .ok (.idiv, 1) := by decide +kernel
theorem dX7_endOf_58 : decode cX7_endOf 58 = .ok (.bipush 8, 2) := by decide +kernel
theorem dX7_endOf_60 : decode cX7_endOf 60 = .ok (.irem, 1) := by decide +kernel
theorem dX7_endOf_61 : decode cX7_endOf 61 = .ok (.istore 8, 2) := by decide +kernel
theorem dX7_endOf_63 : decode cX7_endOf 63 = .ok (.iload 6, 2) := by decide +kernel
theorem dX7_endOf_65 : decode cX7_endOf 65 = .ok (.iload 8, 2) := by decide +kernel
theorem dX7_endOf_67 : decode cX7_endOf 67 = .ok (.invokestatic 164, 3) := by decide +kernel
theorem dX7_endOf_70 : decode cX7_endOf 70 = .ok (.ifCond .eq 6, 3) := by decide +kernel
theorem dX7_endOf_73 : decode cX7_endOf 73 = .ok (.ldc 53, 2) := by decide +kernel
theorem dX7_endOf_75 : decode cX7_endOf 75 = .ok (.ireturn, 1) := by decide +kernel
theorem dX7_endOf_76 : decode cX7_endOf 76 = .ok (.iload 6, 2) := by decide +kernel
theorem dX7_endOf_78 : decode cX7_endOf 78 = .ok (.iconst 1, 1) := by decide +kernel
theorem dX7_endOf_79 : decode cX7_endOf 79 = .ok (.iload 8, 2) := by decide +kernel
theorem dX7_endOf_81 : decode cX7_endOf 81 = .ok (.ishl, 1) := by decide +kernel
theorem dX7_endOf_82 : decode cX7_endOf 82 = .ok (.ior, 1) := by decide +kernel
theorem dX7_endOf_83 : decode cX7_endOf 83 = .ok (.istore 6, 2) := by decide +kernel
theorem dX7_endOf_85 : decode cX7_endOf 85 = .ok (.aload_n 0, 1) := by decide +kernel
theorem dX7_endOf_86 : decode cX7_endOf 86 = .ok (.iload 8, 2) := by decide +kernel
theorem dX7_endOf_88 : decode cX7_endOf 88 = .ok (.iload 5, 2) := by decide +kernel
theorem dX7_endOf_90 : decode cX7_endOf 90 = .ok (.invokevirtual 171, 3) := by decide +kernel
theorem dX7_endOf_93 : decode cX7_endOf 93 = .ok (.istore 5, 2) := by decide +kernel
theorem dX7_endOf_95 : decode cX7_endOf 95 = .ok (.iload 4, 2) := by decide +kernel
theorem dX7_endOf_97 : decode cX7_endOf 97 = .ok (.ifCond .eq 17, 3) := by decide +kernel
theorem dX7_endOf_100 : decode cX7_endOf 100 = .ok (.iload 5, 2) := by decide +kernel
theorem dX7_endOf_102 : decode cX7_endOf 102 = .ok (.aload_n 0, 1) := by decide +kernel
theorem dX7_endOf_103 : decode cX7_endOf 103 = .ok (.getfield 25, 3) := by decide +kernel
theorem dX7_endOf_106 : decode cX7_endOf 106 = .ok (.iconst 2, 1) := by decide +kernel
theorem dX7_endOf_107 : decode cX7_endOf 107 = .ok (.iaload, 1) := by decide +kernel
theorem dX7_endOf_108 : decode cX7_endOf 108 = .ok (.if_icmp .ne 6, 3) := by decide +kernel
theorem dX7_endOf_111 : decode cX7_endOf 111 = .ok (.ldc 53, 2) := by decide +kernel
theorem dX7_endOf_113 : decode cX7_endOf 113 = .ok (.ireturn, 1) := by decide +kernel
theorem dX7_endOf_114 : decode cX7_endOf 114 = .ok (.iinc 7 1, 3) := by decide +kernel
theorem dX7_endOf_117 : decode cX7_endOf 117 = .ok (.goto (-78), 3) := by decide +kernel
theorem dX7_endOf_120 : decode cX7_endOf 120 = .ok (.iload 5, 2) := by decide +kernel
theorem dX7_endOf_122 : decode cX7_endOf 122 = .ok (.ireturn, 1) := by decide +kernel
theorem dX7_route_0 : decode cX7_route 0 = .ok (.aload_n 0, 1) := by decide +kernel
theorem dX7_route_1 : decode cX7_route 1 = .ok (.iload_n 1, 1) := by decide +kernel
theorem dX7_route_2 : decode cX7_route 2 = .ok (.invokevirtual 151, 3) := by decide +kernel
theorem dX7_route_5 : decode cX7_route 5 = .ok (.ifCond .eq 17, 3) := by decide +kernel
theorem dX7_route_8 : decode cX7_route 8 = .ok (.iload_n 2, 1) := by decide +kernel
theorem dX7_route_9 : decode cX7_route 9 = .ok (.iconst 0, 1) := by decide +kernel
theorem dX7_route_10 : decode cX7_route 10 = .ok (.iconst 1, 1) := by decide +kernel
theorem dX7_route_11 : decode cX7_route 11 = .ok (.invokestatic 59, 3) := by decide +kernel
theorem dX7_route_14 : decode cX7_route 14 = .ok (.ifCond .eq 8, 3) := by decide +kernel
theorem dX7_route_17 : decode cX7_route 17 = .ok (.iload_n 3, 1) := by decide +kernel
theorem dX7_route_18 : decode cX7_route 18 = .ok (.iconst (-1), 1) := by decide +kernel
theorem dX7_route_19 : decode cX7_route 19 = .ok (.if_icmp .ge 6, 3) := by decide +kernel
theorem dX7_route_22 : decode cX7_route 22 = .ok (.ldc 67, 2) := by decide +kernel
theorem dX7_route_24 : decode cX7_route 24 = .ok (.ireturn, 1) := by decide +kernel
theorem dX7_route_25 : decode cX7_route 25 = .ok (.aload_n 0, 1) := by decide +kernel
theorem dX7_route_26 : decode cX7_route 26 = .ok (.iload_n 1, 1) := by decide +kernel
theorem dX7_route_27 : decode cX7_route 27 = .ok (.iconst 3, 1) := by decide +kernel
theorem dX7_route_28 : decode cX7_route 28 = .ok (.invokevirtual 144, 3) := by decide +kernel
theorem dX7_route_31 : decode cX7_route 31 = .ok (.iconst 2, 1) := by decide +kernel
theorem dX7_route_32 : decode cX7_route 32 = .ok (.if_icmp .ne 6, 3) := by decide +kernel
theorem dX7_route_35 : decode cX7_route 35 = .ok (.ldc 157, 2) := by decide +kernel
theorem dX7_route_37 : decode cX7_route 37 = .ok (.ireturn, 1) := by decide +kernel
theorem dX7_route_38 : decode cX7_route 38 = .ok (.iconst 0, 1) := by decide +kernel
theorem dX7_route_39 : decode cX7_route 39 = .ok (.istore 4, 2) := by decide +kernel
theorem dX7_route_41 : decode cX7_route 41 = .ok (.iload 4, 2) := by decide +kernel
theorem dX7_route_43 : decode cX7_route 43 = .ok (.aload_n 0, 1) := by decide +kernel
theorem dX7_route_44 : decode cX7_route 44 = .ok (.iload_n 1, 1) := by decide +kernel
theorem dX7_route_45 : decode cX7_route 45 = .ok (.invokevirtual 187, 3) := by decide +kernel
theorem dX7_route_48 : decode cX7_route 48 = .ok (.if_icmp .gt 97, 3) := by decide +kernel
theorem dX7_route_51 : decode cX7_route 51 = .ok (.iconst 0, 1) := by decide +kernel
theorem dX7_route_52 : decode cX7_route 52 = .ok (.istore 5, 2) := by decide +kernel
theorem dX7_route_54 : decode cX7_route 54 = .ok (.iload 5, 2) := by decide +kernel
theorem dX7_route_56 : decode cX7_route 56 = .ok (.bipush 8, 2) := by decide +kernel
theorem dX7_route_58 : decode cX7_route 58 = .ok (.iload 4, 2) := by decide +kernel
theorem dX7_route_60 : decode cX7_route 60 = .ok (.invokestatic 184, 3) := by decide +kernel
theorem dX7_route_63 : decode cX7_route 63 = .ok (.if_icmp .ge 76, 3) := by decide +kernel
theorem dX7_route_66 : decode cX7_route 66 = .ok (.aload_n 0, 1) := by decide +kernel
theorem dX7_route_67 : decode cX7_route 67 = .ok (.iload_n 1, 1) := by decide +kernel
theorem dX7_route_68 : decode cX7_route 68 = .ok (.iload 5, 2) := by decide +kernel
theorem dX7_route_70 : decode cX7_route 70 = .ok (.iload 4, 2) := by decide +kernel
theorem dX7_route_72 : decode cX7_route 72 = .ok (.iload_n 2, 1) := by decide +kernel
theorem dX7_route_73 : decode cX7_route 73 = .ok (.iconst 1, 1) := by decide +kernel
theorem dX7_route_74 : decode cX7_route 74 = .ok (.if_icmp .ne 7, 3) := by decide +kernel
theorem dX7_route_77 : decode cX7_route 77 = .ok (.iconst 1, 1) := by decide +kernel
theorem dX7_route_78 : decode cX7_route 78 = .ok (.goto 4, 3) := by decide +kernel
theorem dX7_route_81 : decode cX7_route 81 = .ok (.iconst 0, 1) := by decide +kernel
theorem dX7_route_82 : decode cX7_route 82 = .ok (.invokevirtual 190, 3) := by decide +kernel
theorem dX7_route_85 : decode cX7_route 85 = .ok (.aload_n 0, 1) := by decide +kernel
theorem dX7_route_86 : decode cX7_route 86 = .ok (.getfield 25, 3) := by decide +kernel
theorem dX7_route_89 : decode cX7_route 89 = .ok (.iconst 1, 1) := by decide +kernel
theorem dX7_route_90 : decode cX7_route 90 = .ok (.iaload, 1) := by decide +kernel
theorem dX7_route_91 : decode cX7_route 91 = .ok (.if_icmp .ne 42, 3) := by decide +kernel
theorem dX7_route_94 : decode cX7_route 94 = .ok (.iload_n 3, 1) := by decide +kernel
theorem dX7_route_95 : decode cX7_route 95 = .ok (.iconst (-1), 1) := by decide +kernel
theorem dX7_route_96 : decode cX7_route 96 = .ok (.if_icmp .ne 8, 3) := by decide +kernel
theorem dX7_route_99 : decode cX7_route 99 = .ok (.iload 4, 2) := by decide +kernel
theorem dX7_route_101 : decode cX7_route 101 = .ok (.goto 31, 3) := by decide +kernel
theorem dX7_route_104 : decode cX7_route 104 = .ok (.iload_n 3, 1) := by decide +kernel
theorem dX7_route_105 : decode cX7_route 105 = .ok (.iload 4, 2) := by decide +kernel
theorem dX7_route_107 : decode cX7_route 107 = .ok (.if_icmp .ge 23, 3) := by decide +kernel
theorem dX7_route_110 : decode cX7_route 110 = .ok (.iload 5, 2) := by decide +kernel
theorem dX7_route_112 : decode cX7_route 112 = .ok (.bipush 8, 2) := by decide +kernel
theorem dX7_route_114 : decode cX7_route 114 = .ok (.iload 4, 2) := by decide +kernel
theorem dX7_route_116 : decode cX7_route 116 = .ok (.iconst 1, 1) := by decide +kernel
theorem dX7_route_117 : decode cX7_route 117 = .ok (.isub, 1) := by decide +kernel
theorem dX7_route_118 : decode cX7_route 118 = .ok (.iload_n 3, 1) := by decide +kernel
theorem dX7_route_119 : decode cX7_route 119 = .ok (.isub, 1) := by decide +kernel
theorem dX7_route_120 : decode cX7_route 120 = .ok (.invokestatic 184, 3) := by decide +kernel
theorem dX7_route_123 : decode cX7_route 123 = .ok (.idiv, 1) := by decide +kernel
theorem dX7_route_124 : decode cX7_route 124 = .ok (.bipush 8, 2) := by decide +kernel
theorem dX7_route_126 : decode cX7_route 126 = .ok (.irem, 1) := by decide +kernel
theorem dX7_route_127 : decode cX7_route 127 = .ok (.goto 5, 3) := by decide +kernel
theorem dX7_route_130 : decode cX7_route 130 = .ok (.ldc 53, 2) := by decide +kernel
theorem dX7_route_132 : decode cX7_route 132 = .ok (.ireturn, 1) := by decide +kernel
theorem dX7_route_133 : decode cX7_route 133 = .ok (.iinc 5 1, 3) := by decide +kernel
theorem dX7_route_136 : decode cX7_route 136 = .ok (.goto (-82), 3) := by decide +kernel
theorem dX7_route_139 : decode cX7_route 139 = .ok (.iinc 4 1, 3) := by decide +kernel
theorem dX7_route_142 : decode cX7_route 142 = .ok (.goto (-101), 3) := by decide +kernel
theorem dX7_route_145 : decode cX7_route 145 = .ok (.ldc 53, 2) := by decide +kernel
theorem dX7_route_147 : decode cX7_route 147 = .ok (.ireturn, 1) := by decide +kernel
theorem dX7_thinkable_0 : decode cX7_thinkable 0 = .ok (.aload_n 0, 1) := by decide +kernel
theorem dX7_thinkable_1 : decode cX7_thinkable 1 = .ok (.iload_n 1, 1) := by decide +kernel
theorem dX7_thinkable_2 : decode cX7_thinkable 2 = .ok (.invokevirtual 151, 3) := by decide +kernel
theorem dX7_thinkable_5 : decode cX7_thinkable 5 = .ok (.ifCond .ne 6, 3) := by decide +kernel
theorem dX7_thinkable_8 : decode cX7_thinkable 8 = .ok (.ldc 67, 2) := by decide +kernel
theorem dX7_thinkable_10 : decode cX7_thinkable 10 = .ok (.ireturn, 1) := by decide +kernel
theorem dX7_thinkable_11 : decode cX7_thinkable 11 = .ok (.aload_n 0, 1) := by decide +kernel
theorem dX7_thinkable_12 : decode cX7_thinkable 12 = .ok (.iload_n 1, 1) := by decide +kernel
theorem dX7_thinkable_13 : decode cX7_thinkable 13 = .ok (.iconst 3, 1) := by decide +kernel
theorem dX7_thinkable_14 : decode cX7_thinkable 14 = .ok (.invokevirtual 144, 3) := by decide +kernel
theorem dX7_thinkable_17 : decode cX7_thinkable 17 = .ok (.iconst 2, 1) := by decide +kernel
theorem dX7_thinkable_18 : decode cX7_thinkable 18 = .ok (.if_icmp .ne 6, 3) := by decide +kernel
theorem dX7_thinkable_21 : decode cX7_thinkable 21 = .ok (.ldc 157, 2) := by decide +kernel
theorem dX7_thinkable_23 : decode cX7_thinkable 23 = .ok (.ireturn, 1) := by decide +kernel
theorem dX7_thinkable_24 : decode cX7_thinkable 24 = .ok (.aload_n 0, 1) := by decide +kernel
theorem dX7_thinkable_25 : decode cX7_thinkable 25 = .ok (.iload_n 1, 1) := by decide +kernel
theorem dX7_thinkable_26 : decode cX7_thinkable 26 = .ok (.invokevirtual 194, 3) := by decide +kernel
theorem dX7_thinkable_29 : decode cX7_thinkable 29 = .ok (.iconst 0, 1) := by decide +kernel
theorem dX7_thinkable_30 : decode cX7_thinkable 30 = .ok (.istore_n 2, 1) := by decide +kernel
theorem dX7_thinkable_31 : decode cX7_thinkable 31 = .ok (.iconst 0, 1) := by decide +kernel
theorem dX7_thinkable_32 : decode cX7_thinkable 32 = .ok (.istore_n 3, 1) := by decide +kernel
theorem dX7_thinkable_33 : decode cX7_thinkable 33 = .ok (.iload_n 3, 1) := by decide +kernel
theorem dX7_thinkable_34 : decode cX7_thinkable 34 = .ok (.aload_n 0, 1) := by decide +kernel
theorem dX7_thinkable_35 : decode cX7_thinkable 35 = .ok (.invokevirtual 177, 3) := by decide +kernel
theorem dX7_thinkable_38 : decode cX7_thinkable 38 = .ok (.if_icmp .gt 58, 3) := by decide +kernel
theorem dX7_thinkable_41 : decode cX7_thinkable 41 = .ok (.iload_n 3, 1) := by decide +kernel
theorem dX7_thinkable_42 : decode cX7_thinkable 42 = .ok (.aload_n 0, 1) := by decide +kernel
theorem dX7_thinkable_43 : decode cX7_thinkable 43 = .ok (.iload_n 1, 1) := by decide +kernel
theorem dX7_thinkable_44 : decode cX7_thinkable 44 = .ok (.invokevirtual 181, 3) := by decide +kernel
theorem dX7_thinkable_47 : decode cX7_thinkable 47 = .ok (.iconst (-1), 1) := by decide +kernel
theorem dX7_thinkable_48 : decode cX7_thinkable 48 = .ok (.ixor, 1) := by decide +kernel
theorem dX7_thinkable_49 : decode cX7_thinkable 49 = .ok (.iand, 1) := by decide +kernel
theorem dX7_thinkable_50 : decode cX7_thinkable 50 = .ok (.ifCond .ne 19, 3) := by decide +kernel
theorem dX7_thinkable_53 : decode cX7_thinkable 53 = .ok (.iload_n 3, 1) := by decide +kernel
theorem dX7_thinkable_54 : decode cX7_thinkable 54 = .ok (.invokestatic 168, 3) := by decide +kernel
theorem dX7_thinkable_57 : decode cX7_thinkable 57 = .ok (.aload_n 0, 1) := by decide +kernel
theorem dX7_thinkable_58 : decode cX7_thinkable 58 = .ok (.iload_n 1, 1) := by decide +kernel
theorem dX7_thinkable_59 : decode cX7_thinkable 59 = .ok (.invokevirtual 187, 3) := by decide +kernel
theorem dX7_thinkable_62 : decode cX7_thinkable 62 = .ok (.if_icmp .gt 7, 3) := by decide +kernel
theorem dX7_thinkable_65 : decode cX7_thinkable 65 = .ok (.iconst 1, 1) := by decide +kernel
theorem dX7_thinkable_66 : decode cX7_thinkable 66 = .ok (.goto 4, 3) := by decide +kernel
theorem dX7_thinkable_69 : decode cX7_thinkable 69 = .ok (.iconst 0, 1) := by decide +kernel
theorem dX7_thinkable_70 : decode cX7_thinkable 70 = .ok (.istore 4, 2) := by decide +kernel
theorem dX7_thinkable_72 : decode cX7_thinkable 72 = .ok (.iload_n 2, 1) := by decide +kernel
theorem dX7_thinkable_73 : decode cX7_thinkable 73 = .ok (.iload 4, 2) := by decide +kernel
theorem dX7_thinkable_75 : decode cX7_thinkable 75 = .ok (.ifCond .eq 12, 3) := by decide +kernel
theorem dX7_thinkable_78 : decode cX7_thinkable 78 = .ok (.aload_n 0, 1) := by decide +kernel
theorem dX7_thinkable_79 : decode cX7_thinkable 79 = .ok (.getfield 44, 3) := by decide +kernel
theorem dX7_thinkable_82 : decode cX7_thinkable 82 = .ok (.iload_n 3, 1) := by decide +kernel
theorem dX7_thinkable_83 : decode cX7_thinkable 83 = .ok (.iaload, 1) := by decide +kernel
theorem dX7_thinkable_84 : decode cX7_thinkable 84 = .ok (.goto 4, 3) := by decide +kernel
theorem dX7_thinkable_87 : decode cX7_thinkable 87 = .ok (.iconst 0, 1) := by decide +kernel
theorem dX7_thinkable_88 : decode cX7_thinkable 88 = .ok (.ior, 1) := by decide +kernel
theorem dX7_thinkable_89 : decode cX7_thinkable 89 = .ok (.istore_n 2, 1) := by decide +kernel
theorem dX7_thinkable_90 : decode cX7_thinkable 90 = .ok (.iinc 3 1, 3) := by decide +kernel
theorem dX7_thinkable_93 : decode cX7_thinkable 93 = .ok (.goto (-60), 3) := by decide +kernel
theorem dX7_thinkable_96 : decode cX7_thinkable 96 = .ok (.iload_n 2, 1) := by decide +kernel
theorem dX7_thinkable_97 : decode cX7_thinkable 97 = .ok (.ireturn, 1) := by decide +kernel
theorem dX7_chance_0 : decode cX7_chance 0 = .ok (.aload_n 0, 1) := by decide +kernel
theorem dX7_chance_1 : decode cX7_chance 1 = .ok (.iload_n 1, 1) := by decide +kernel
theorem dX7_chance_2 : decode cX7_chance 2 = .ok (.invokevirtual 151, 3) := by decide +kernel
theorem dX7_chance_5 : decode cX7_chance 5 = .ok (.ifCond .eq 21, 3) := by decide +kernel
theorem dX7_chance_8 : decode cX7_chance 8 = .ok (.iload_n 2, 1) := by decide +kernel
theorem dX7_chance_9 : decode cX7_chance 9 = .ok (.iconst 0, 1) := by decide +kernel
theorem dX7_chance_10 : decode cX7_chance 10 = .ok (.iconst 4, 1) := by decide +kernel
theorem dX7_chance_11 : decode cX7_chance 11 = .ok (.invokestatic 59, 3) := by decide +kernel
theorem dX7_chance_14 : decode cX7_chance 14 = .ok (.ifCond .eq 12, 3) := by decide +kernel
theorem dX7_chance_17 : decode cX7_chance 17 = .ok (.iload_n 3, 1) := by decide +kernel
theorem dX7_chance_18 : decode cX7_chance 18 = .ok (.iconst 0, 1) := by decide +kernel
theorem dX7_chance_19 : decode cX7_chance 19 = .ok (.iconst 1, 1) := by decide +kernel
theorem dX7_chance_20 : decode cX7_chance 20 = .ok (.invokestatic 59, 3) := by decide +kernel
theorem dX7_chance_23 : decode cX7_chance 23 = .ok (.ifCond .ne 6, 3) := by decide +kernel
theorem dX7_chance_26 : decode cX7_chance 26 = .ok (.ldc 67, 2) := by decide +kernel
theorem dX7_chance_28 : decode cX7_chance 28 = .ok (.ireturn, 1) := by decide +kernel
theorem dX7_chance_29 : decode cX7_chance 29 = .ok (.aload_n 0, 1) := by decide +kernel
theorem dX7_chance_30 : decode cX7_chance 30 = .ok (.iload_n 1, 1) := by decide +kernel
theorem dX7_chance_31 : decode cX7_chance 31 = .ok (.iconst 3, 1) := by decide +kernel
theorem dX7_chance_32 : decode cX7_chance 32 = .ok (.invokevirtual 144, 3) := by decide +kernel
theorem dX7_chance_35 : decode cX7_chance 35 = .ok (.iconst 2, 1) := by decide +kernel
theorem dX7_chance_36 : decode cX7_chance 36 = .ok (.if_icmp .ne 6, 3) := by decide +kernel
theorem dX7_chance_39 : decode cX7_chance 39 = .ok (.ldc 157, 2) := by decide +kernel
theorem dX7_chance_41 : decode cX7_chance 41 = .ok (.ireturn, 1) := by decide +kernel
theorem dX7_chance_42 : decode cX7_chance 42 = .ok (.iload_n 2, 1) := by decide +kernel
theorem dX7_chance_43 : decode cX7_chance 43 = .ok (.aload_n 0, 1) := by decide +kernel
theorem dX7_chance_44 : decode cX7_chance 44 = .ok (.iload_n 1, 1) := by decide +kernel
theorem dX7_chance_45 : decode cX7_chance 45 = .ok (.invokevirtual 187, 3) := by decide +kernel
theorem dX7_chance_48 : decode cX7_chance 48 = .ok (.if_icmp .le 6, 3) := by decide +kernel
theorem dX7_chance_51 : decode cX7_chance 51 = .ok (.ldc 53, 2) := by decide +kernel
theorem dX7_chance_53 : decode cX7_chance 53 = .ok (.ireturn, 1) := by decide +kernel
theorem dX7_chance_54 : decode cX7_chance 54 = .ok (.iconst 0, 1) := by decide +kernel
theorem dX7_chance_55 : decode cX7_chance 55 = .ok (.istore 4, 2) := by decide +kernel
theorem dX7_chance_57 : decode cX7_chance 57 = .ok (.iconst 0, 1) := by decide +kernel
theorem dX7_chance_58 : decode cX7_chance 58 = .ok (.istore 5, 2) := by decide +kernel
theorem dX7_chance_60 : decode cX7_chance 60 = .ok (.iconst 0, 1) := by decide +kernel
theorem dX7_chance_61 : decode cX7_chance 61 = .ok (.istore 6, 2) := by decide +kernel
theorem dX7_chance_63 : decode cX7_chance 63 = .ok (.iload 6, 2) := by decide +kernel
theorem dX7_chance_65 : decode cX7_chance 65 = .ok (.bipush 8, 2) := by decide +kernel
theorem dX7_chance_67 : decode cX7_chance 67 = .ok (.iload_n 2, 1) := by decide +kernel
theorem dX7_chance_68 : decode cX7_chance 68 = .ok (.invokestatic 184, 3) := by decide +kernel
theorem dX7_chance_71 : decode cX7_chance 71 = .ok (.if_icmp .ge 58, 3) := by decide +kernel
theorem dX7_chance_74 : decode cX7_chance 74 = .ok (.aload_n 0, 1) := by decide +kernel
theorem dX7_chance_75 : decode cX7_chance 75 = .ok (.iload_n 1, 1) := by decide +kernel
theorem dX7_chance_76 : decode cX7_chance 76 = .ok (.iload 6, 2) := by decide +kernel
theorem dX7_chance_78 : decode cX7_chance 78 = .ok (.iload_n 2, 1) := by decide +kernel
theorem dX7_chance_79 : decode cX7_chance 79 = .ok (.iconst 0, 1) := by decide +kernel
theorem dX7_chance_80 : decode cX7_chance 80 = .ok (.invokevirtual 190, 3) := by decide +kernel
theorem dX7_chance_83 : decode cX7_chance 83 = .ok (.istore 7, 2) := by decide +kernel
theorem dX7_chance_85 : decode cX7_chance 85 = .ok (.iload 5, 2) := by decide +kernel
theorem dX7_chance_87 : decode cX7_chance 87 = .ok (.iload 7, 2) := by decide +kernel
theorem dX7_chance_89 : decode cX7_chance 89 = .ok (.ldc 53, 2) := by decide +kernel
theorem dX7_chance_91 : decode cX7_chance 91 = .ok (.if_icmp .ne 7, 3) := by decide +kernel
theorem dX7_chance_94 : decode cX7_chance 94 = .ok (.iconst 0, 1) := by decide +kernel
theorem dX7_chance_95 : decode cX7_chance 95 = .ok (.goto 4, 3) := by decide +kernel
theorem dX7_chance_98 : decode cX7_chance 98 = .ok (.iconst 1, 1) := by decide +kernel
theorem dX7_chance_99 : decode cX7_chance 99 = .ok (.iadd, 1) := by decide +kernel
theorem dX7_chance_100 : decode cX7_chance 100 = .ok (.istore 5, 2) := by decide +kernel
theorem dX7_chance_102 : decode cX7_chance 102 = .ok (.iload 4, 2) := by decide +kernel
theorem dX7_chance_104 : decode cX7_chance 104 = .ok (.iload 7, 2) := by decide +kernel
theorem dX7_chance_106 : decode cX7_chance 106 = .ok (.aload_n 0, 1) := by decide +kernel
theorem dX7_chance_107 : decode cX7_chance 107 = .ok (.getfield 25, 3) := by decide +kernel
theorem dX7_chance_110 : decode cX7_chance 110 = .ok (.iconst 1, 1) := by decide +kernel
theorem dX7_chance_111 : decode cX7_chance 111 = .ok (.iaload, 1) := by decide +kernel
theorem dX7_chance_112 : decode cX7_chance 112 = .ok (.if_icmp .ne 7, 3) := by decide +kernel
theorem dX7_chance_115 : decode cX7_chance 115 = .ok (.iconst 1, 1) := by decide +kernel
theorem dX7_chance_116 : decode cX7_chance 116 = .ok (.goto 4, 3) := by decide +kernel
theorem dX7_chance_119 : decode cX7_chance 119 = .ok (.iconst 0, 1) := by decide +kernel
theorem dX7_chance_120 : decode cX7_chance 120 = .ok (.iadd, 1) := by decide +kernel
theorem dX7_chance_121 : decode cX7_chance 121 = .ok (.istore 4, 2) := by decide +kernel
theorem dX7_chance_123 : decode cX7_chance 123 = .ok (.iinc 6 1, 3) := by decide +kernel
theorem dX7_chance_126 : decode cX7_chance 126 = .ok (.goto (-63), 3) := by decide +kernel
theorem dX7_chance_129 : decode cX7_chance 129 = .ok (.iload 4, 2) := by decide +kernel
theorem dX7_chance_131 : decode cX7_chance 131 = .ok (.istore 6, 2) := by decide +kernel
theorem dX7_chance_133 : decode cX7_chance 133 = .ok (.iload 5, 2) := by decide +kernel
theorem dX7_chance_135 : decode cX7_chance 135 = .ok (.istore 7, 2) := by decide +kernel
theorem dX7_chance_137 : decode cX7_chance 137 = .ok (.iload 7, 2) := by decide +kernel
theorem dX7_chance_139 : decode cX7_chance 139 = .ok (.ifCond .eq 21, 3) := by decide +kernel
theorem dX7_chance_142 : decode cX7_chance 142 = .ok (.iload 6, 2) := by decide +kernel
theorem dX7_chance_144 : decode cX7_chance 144 = .ok (.iload 7, 2) := by decide +kernel
theorem dX7_chance_146 : decode cX7_chance 146 = .ok (.irem, 1) := by decide +kernel
theorem dX7_chance_147 : decode cX7_chance 147 = .ok (.istore 8, 2) := by decide +kernel
theorem dX7_chance_149 : decode cX7_chance 149 = .ok (.iload 7, 2) := by decide +kernel
theorem dX7_chance_151 : decode cX7_chance 151 = .ok (.istore 6, 2) := by decide +kernel
theorem dX7_chance_153 : decode cX7_chance 153 = .ok (.iload 8, 2) := by decide +kernel
theorem dX7_chance_155 : decode cX7_chance 155 = .ok (.istore 7, 2) := by decide +kernel
theorem dX7_chance_157 : decode cX7_chance 157 = .ok (.goto (-20), 3) := by decide +kernel
theorem dX7_chance_160 : decode cX7_chance 160 = .ok (.iload_n 3, 1) := by decide +kernel
theorem dX7_chance_161 : decode cX7_chance 161 = .ok (.ifCond .ne 8, 3) := by decide +kernel
theorem dX7_chance_164 : decode cX7_chance 164 = .ok (.iload 4, 2) := by decide +kernel
theorem dX7_chance_166 : decode cX7_chance 166 = .ok (.goto 5, 3) := by decide +kernel
theorem dX7_chance_169 : decode cX7_chance 169 = .ok (.iload 5, 2) := by decide +kernel
theorem dX7_chance_171 : decode cX7_chance 171 = .ok (.iload 6, 2) := by decide +kernel
theorem dX7_chance_173 : decode cX7_chance 173 = .ok (.idiv, 1) := by decide +kernel
theorem dX7_chance_174 : decode cX7_chance 174 = .ok (.ireturn, 1) := by decide +kernel
theorem dX7_taught_0 : decode cX7_taught 0 = .ok (.aload_n 0, 1) := by decide +kernel
theorem dX7_taught_1 : decode cX7_taught 1 = .ok (.iload_n 1, 1) := by decide +kernel
theorem dX7_taught_2 : decode cX7_taught 2 = .ok (.invokevirtual 151, 3) := by decide +kernel
theorem dX7_taught_5 : decode cX7_taught 5 = .ok (.ifCond .ne 6, 3) := by decide +kernel
theorem dX7_taught_8 : decode cX7_taught 8 = .ok (.ldc 67, 2) := by decide +kernel
theorem dX7_taught_10 : decode cX7_taught 10 = .ok (.ireturn, 1) := by decide +kernel
theorem dX7_taught_11 : decode cX7_taught 11 = .ok (.aload_n 0, 1) := by decide +kernel
theorem dX7_taught_12 : decode cX7_taught 12 = .ok (.iload_n 1, 1) := by decide +kernel
theorem dX7_taught_13 : decode cX7_taught 13 = .ok (.invokevirtual 174, 3) := by decide +kernel
theorem dX7_taught_16 : decode cX7_taught 16 = .ok (.ifCond .eq 7, 3) := by decide +kernel
theorem dX7_taught_19 : decode cX7_taught 19 = .ok (.iconst 0, 1) := by decide +kernel
theorem dX7_taught_20 : decode cX7_taught 20 = .ok (.goto 16, 3) := by decide +kernel
theorem dX7_taught_23 : decode cX7_taught 23 = .ok (.aload_n 0, 1) := by decide +kernel
theorem dX7_taught_24 : decode cX7_taught 24 = .ok (.iload_n 1, 1) := by decide +kernel
theorem dX7_taught_25 : decode cX7_taught 25 = .ok (.iconst 1, 1) := by decide +kernel
theorem dX7_taught_26 : decode cX7_taught 26 = .ok (.invokevirtual 144, 3) := by decide +kernel
theorem dX7_taught_29 : decode cX7_taught 29 = .ok (.aload_n 0, 1) := by decide +kernel
theorem dX7_taught_30 : decode cX7_taught 30 = .ok (.iload_n 1, 1) := by decide +kernel
theorem dX7_taught_31 : decode cX7_taught 31 = .ok (.iconst 2, 1) := by decide +kernel
theorem dX7_taught_32 : decode cX7_taught 32 = .ok (.invokevirtual 144, 3) := by decide +kernel
theorem dX7_taught_35 : decode cX7_taught 35 = .ok (.isub, 1) := by decide +kernel
theorem dX7_taught_36 : decode cX7_taught 36 = .ok (.ireturn, 1) := by decide +kernel
theorem dX7_bestGuest_0 : decode cX7_bestGuest 0 = .ok (.aload_n 0, 1) := by decide +kernel
theorem dX7_bestGuest_1 : decode cX7_bestGuest 1 = .ok (.invokevirtual 198, 3) := by decide +kernel
theorem dX7_bestGuest_4 : decode cX7_bestGuest 4 = .ok (.ifCond .ne 6, 3) := by decide +kernel
theorem dX7_bestGuest_7 : decode cX7_bestGuest 7 = .ok (.ldc 157, 2) := by decide +kernel
theorem dX7_bestGuest_9 : decode cX7_bestGuest 9 = .ok (.ireturn, 1) := by decide +kernel
theorem dX7_bestGuest_10 : decode cX7_bestGuest 10 = .ok (.iload_n 1, 1) := by decide +kernel
theorem dX7_bestGuest_11 : decode cX7_bestGuest 11 = .ok (.iconst 0, 1) := by decide +kernel
theorem dX7_bestGuest_12 : decode cX7_bestGuest 12 = .ok (.iconst 1, 1) := by decide +kernel
theorem dX7_bestGuest_13 : decode cX7_bestGuest 13 = .ok (.invokestatic 59, 3) := by decide +kernel
theorem dX7_bestGuest_16 : decode cX7_bestGuest 16 = .ok (.ifCond .ne 6, 3) := by decide +kernel
theorem dX7_bestGuest_19 : decode cX7_bestGuest 19 = .ok (.ldc 67, 2) := by decide +kernel
theorem dX7_bestGuest_21 : decode cX7_bestGuest 21 = .ok (.ireturn, 1) := by decide +kernel
theorem dX7_bestGuest_22 : decode cX7_bestGuest 22 = .ok (.ldc 53, 2) := by decide +kernel
theorem dX7_bestGuest_24 : decode cX7_bestGuest 24 = .ok (.istore_n 2, 1) := by decide +kernel
theorem dX7_bestGuest_25 : decode cX7_bestGuest 25 = .ok (.ldc 53, 2) := by decide +kernel
theorem dX7_bestGuest_27 : decode cX7_bestGuest 27 = .ok (.istore_n 3, 1) := by decide +kernel
theorem dX7_bestGuest_28 : decode cX7_bestGuest 28 = .ok (.iconst 0, 1) := by decide +kernel
theorem dX7_bestGuest_29 : decode cX7_bestGuest 29 = .ok (.istore 4, 2) := by decide +kernel
theorem dX7_bestGuest_31 : decode cX7_bestGuest 31 = .ok (.iload 4, 2) := by decide +kernel
theorem dX7_bestGuest_33 : decode cX7_bestGuest 33 = .ok (.aload_n 0, 1) := by decide +kernel
theorem dX7_bestGuest_34 : decode cX7_bestGuest 34 = .ok (.getfield 25, 3) := by decide +kernel
theorem dX7_bestGuest_37 : decode cX7_bestGuest 37 = .ok (.bipush 8, 2) := by decide +kernel
theorem dX7_bestGuest_39 : decode cX7_bestGuest 39 = .ok (.iaload, 1) := by decide +kernel
theorem dX7_bestGuest_40 : decode cX7_bestGuest 40 = .ok (.if_icmp .ge 74, 3) := by decide +kernel
theorem dX7_bestGuest_43 : decode cX7_bestGuest 43 = .ok (.aload_n 0, 1) := by decide +kernel
theorem dX7_bestGuest_44 : decode cX7_bestGuest 44 = .ok (.iload 4, 2) := by decide +kernel
theorem dX7_bestGuest_46 : decode cX7_bestGuest 46 = .ok (.invokevirtual 154, 3) := by decide +kernel
theorem dX7_bestGuest_49 : decode cX7_bestGuest 49 = .ok (.ifCond .eq 59, 3) := by decide +kernel
theorem dX7_bestGuest_52 : decode cX7_bestGuest 52 = .ok (.aload_n 0, 1) := by decide +kernel
theorem dX7_bestGuest_53 : decode cX7_bestGuest 53 = .ok (.iload 4, 2) := by decide +kernel
theorem dX7_bestGuest_55 : decode cX7_bestGuest 55 = .ok (.invokevirtual 174, 3) := by decide +kernel
theorem dX7_bestGuest_58 : decode cX7_bestGuest 58 = .ok (.ifCond .eq 50, 3) := by decide +kernel
theorem dX7_bestGuest_61 : decode cX7_bestGuest 61 = .ok (.aload_n 0, 1) := by decide +kernel
theorem dX7_bestGuest_62 : decode cX7_bestGuest 62 = .ok (.iload 4, 2) := by decide +kernel
theorem dX7_bestGuest_64 : decode cX7_bestGuest 64 = .ok (.invokevirtual 194, 3) := by decide +kernel
theorem dX7_bestGuest_67 : decode cX7_bestGuest 67 = .ok (.aload_n 0, 1) := by decide +kernel
theorem dX7_bestGuest_68 : decode cX7_bestGuest 68 = .ok (.aload_n 0, 1) := by decide +kernel
theorem dX7_bestGuest_69 : decode cX7_bestGuest 69 = .ok (.invokevirtual 177, 3) := by decide +kernel
theorem dX7_bestGuest_72 : decode cX7_bestGuest 72 = .ok (.aload_n 0, 1) := by decide +kernel
theorem dX7_bestGuest_73 : decode cX7_bestGuest 73 = .ok (.getfield 25, 3) := by decide +kernel
theorem dX7_bestGuest_76 : decode cX7_bestGuest 76 = .ok (.iconst 0, 1) := by decide +kernel
theorem dX7_bestGuest_77 : decode cX7_bestGuest 77 = .ok (.iaload, 1) := by decide +kernel
theorem dX7_bestGuest_78 : decode cX7_bestGuest 78 = .ok (.invokevirtual 201, 3) := by decide +kernel
theorem dX7_bestGuest_81 : decode cX7_bestGuest 81 = .ok (.istore 5, 2) := by decide +kernel
theorem dX7_bestGuest_83 : decode cX7_bestGuest 83 = .ok (.iload 5, 2) := by decide +kernel
theorem dX7_bestGuest_85 : decode cX7_bestGuest 85 = .ok (.ldc 53, 2) := by decide +kernel
theorem dX7_bestGuest_87 : decode cX7_bestGuest 87 = .ok (.if_icmp .eq 21, 3) := by decide +kernel
theorem dX7_bestGuest_90 : decode cX7_bestGuest 90 = .ok (.iload_n 3, 1) := by decide +kernel
theorem dX7_bestGuest_91 : decode cX7_bestGuest 91 = .ok (.ldc 53, 2) := by decide +kernel
theorem dX7_bestGuest_93 : decode cX7_bestGuest 93 = .ok (.if_icmp .eq 9, 3) := by decide +kernel
theorem dX7_bestGuest_96 : decode cX7_bestGuest 96 = .ok (.iload 5, 2) := by decide +kernel
theorem dX7_bestGuest_98 : decode cX7_bestGuest 98 = .ok (.iload_n 3, 1) := by decide +kernel
theorem dX7_bestGuest_99 : decode cX7_bestGuest 99 = .ok (.if_icmp .ge 9, 3) := by decide +kernel
theorem dX7_bestGuest_102 : decode cX7_bestGuest 102 = .ok (.iload 4, 2) := by decide +kernel
theorem dX7_bestGuest_104 : decode cX7_bestGuest 104 = .ok (.istore_n 2, 1) := by decide +kernel
theorem dX7_bestGuest_105 : decode cX7_bestGuest 105 = .ok (.iload 5, 2) := by decide +kernel
theorem dX7_bestGuest_107 : decode cX7_bestGuest 107 = .ok (.istore_n 3, 1) := by decide +kernel
theorem dX7_bestGuest_108 : decode cX7_bestGuest 108 = .ok (.iinc 4 1, 3) := by decide +kernel
theorem dX7_bestGuest_111 : decode cX7_bestGuest 111 = .ok (.goto (-80), 3) := by decide +kernel
theorem dX7_bestGuest_114 : decode cX7_bestGuest 114 = .ok (.iload_n 1, 1) := by decide +kernel
theorem dX7_bestGuest_115 : decode cX7_bestGuest 115 = .ok (.ifCond .ne 7, 3) := by decide +kernel
theorem dX7_bestGuest_118 : decode cX7_bestGuest 118 = .ok (.iload_n 2, 1) := by decide +kernel
theorem dX7_bestGuest_119 : decode cX7_bestGuest 119 = .ok (.goto 4, 3) := by decide +kernel
theorem dX7_bestGuest_122 : decode cX7_bestGuest 122 = .ok (.iload_n 3, 1) := by decide +kernel
theorem dX7_bestGuest_123 : decode cX7_bestGuest 123 = .ok (.ireturn, 1) := by decide +kernel
theorem dX7_laysRoutes_0 : decode cX7_laysRoutes 0 = .ok (.iconst 0, 1) := by decide +kernel
theorem dX7_laysRoutes_1 : decode cX7_laysRoutes 1 = .ok (.istore_n 1, 1) := by decide +kernel
theorem dX7_laysRoutes_2 : decode cX7_laysRoutes 2 = .ok (.iload_n 1, 1) := by decide +kernel
theorem dX7_laysRoutes_3 : decode cX7_laysRoutes 3 = .ok (.aload_n 0, 1) := by decide +kernel
theorem dX7_laysRoutes_4 : decode cX7_laysRoutes 4 = .ok (.invokevirtual 177, 3) := by decide +kernel
theorem dX7_laysRoutes_7 : decode cX7_laysRoutes 7 = .ok (.if_icmp .gt 16, 3) := by decide +kernel
theorem dX7_laysRoutes_10 : decode cX7_laysRoutes 10 = .ok (.aload_n 0, 1) := by decide +kernel
theorem dX7_laysRoutes_11 : decode cX7_laysRoutes 11 = .ok (.getfield 47, 3) := by decide +kernel
theorem dX7_laysRoutes_14 : decode cX7_laysRoutes 14 = .ok (.iload_n 1, 1) := by decide +kernel
theorem dX7_laysRoutes_15 : decode cX7_laysRoutes 15 = .ok (.iconst 0, 1) := by decide +kernel
theorem dX7_laysRoutes_16 : decode cX7_laysRoutes 16 = .ok (.iastore, 1) := by decide +kernel
theorem dX7_laysRoutes_17 : decode cX7_laysRoutes 17 = .ok (.iinc 1 1, 3) := by decide +kernel
theorem dX7_laysRoutes_20 : decode cX7_laysRoutes 20 = .ok (.goto (-18), 3) := by decide +kernel
theorem dX7_laysRoutes_23 : decode cX7_laysRoutes 23 = .ok (.iconst 0, 1) := by decide +kernel
theorem dX7_laysRoutes_24 : decode cX7_laysRoutes 24 = .ok (.istore_n 1, 1) := by decide +kernel
theorem dX7_laysRoutes_25 : decode cX7_laysRoutes 25 = .ok (.iload_n 1, 1) := by decide +kernel
theorem dX7_laysRoutes_26 : decode cX7_laysRoutes 26 = .ok (.aload_n 0, 1) := by decide +kernel
theorem dX7_laysRoutes_27 : decode cX7_laysRoutes 27 = .ok (.getfield 25, 3) := by decide +kernel
theorem dX7_laysRoutes_30 : decode cX7_laysRoutes 30 = .ok (.bipush 8, 2) := by decide +kernel
theorem dX7_laysRoutes_32 : decode cX7_laysRoutes 32 = .ok (.iaload, 1) := by decide +kernel
theorem dX7_laysRoutes_33 : decode cX7_laysRoutes 33 = .ok (.if_icmp .ge 70, 3) := by decide +kernel
theorem dX7_laysRoutes_36 : decode cX7_laysRoutes 36 = .ok (.aload_n 0, 1) := by decide +kernel
theorem dX7_laysRoutes_37 : decode cX7_laysRoutes 37 = .ok (.iload_n 1, 1) := by decide +kernel
theorem dX7_laysRoutes_38 : decode cX7_laysRoutes 38 = .ok (.invokevirtual 154, 3) := by decide +kernel
theorem dX7_laysRoutes_41 : decode cX7_laysRoutes 41 = .ok (.ifCond .eq 56, 3) := by decide +kernel
theorem dX7_laysRoutes_44 : decode cX7_laysRoutes 44 = .ok (.aload_n 0, 1) := by decide +kernel
theorem dX7_laysRoutes_45 : decode cX7_laysRoutes 45 = .ok (.iload_n 1, 1) := by decide +kernel
theorem dX7_laysRoutes_46 : decode cX7_laysRoutes 46 = .ok (.invokevirtual 194, 3) := by decide +kernel
theorem dX7_laysRoutes_49 : decode cX7_laysRoutes 49 = .ok (.iconst 0, 1) := by decide +kernel
theorem dX7_laysRoutes_50 : decode cX7_laysRoutes 50 = .ok (.istore_n 2, 1) := by decide +kernel
theorem dX7_laysRoutes_51 : decode cX7_laysRoutes 51 = .ok (.iload_n 2, 1) := by decide +kernel
theorem dX7_laysRoutes_52 : decode cX7_laysRoutes 52 = .ok (.aload_n 0, 1) := by decide +kernel
theorem dX7_laysRoutes_53 : decode cX7_laysRoutes 53 = .ok (.invokevirtual 177, 3) := by decide +kernel
theorem dX7_laysRoutes_56 : decode cX7_laysRoutes 56 = .ok (.if_icmp .gt 41, 3) := by decide +kernel
theorem dX7_laysRoutes_59 : decode cX7_laysRoutes 59 = .ok (.aload_n 0, 1) := by decide +kernel
theorem dX7_laysRoutes_60 : decode cX7_laysRoutes 60 = .ok (.getfield 47, 3) := by decide +kernel
theorem dX7_laysRoutes_63 : decode cX7_laysRoutes 63 = .ok (.iload_n 2, 1) := by decide +kernel
theorem dX7_laysRoutes_64 : decode cX7_laysRoutes 64 = .ok (.dup2, 1) := by decide +kernel
theorem dX7_laysRoutes_65 : decode cX7_laysRoutes 65 = .ok (.iaload, 1) := by decide +kernel
theorem dX7_laysRoutes_66 : decode cX7_laysRoutes 66 = .ok (.aload_n 0, 1) := by decide +kernel
theorem dX7_laysRoutes_67 : decode cX7_laysRoutes 67 = .ok (.iload_n 2, 1) := by decide +kernel
theorem dX7_laysRoutes_68 : decode cX7_laysRoutes 68 = .ok (.aload_n 0, 1) := by decide +kernel
theorem dX7_laysRoutes_69 : decode cX7_laysRoutes 69 = .ok (.getfield 25, 3) := by decide +kernel
theorem dX7_laysRoutes_72 : decode cX7_laysRoutes 72 = .ok (.iconst 0, 1) := by decide +kernel
theorem dX7_laysRoutes_73 : decode cX7_laysRoutes 73 = .ok (.iaload, 1) := by decide +kernel
theorem dX7_laysRoutes_74 : decode cX7_laysRoutes 74 = .ok (.invokevirtual 201, 3) := by decide +kernel
theorem dX7_laysRoutes_77 : decode cX7_laysRoutes 77 = .ok (.ldc 53, 2) := by decide +kernel
theorem dX7_laysRoutes_79 : decode cX7_laysRoutes 79 = .ok (.if_icmp .ne 7, 3) := by decide +kernel
theorem dX7_laysRoutes_82 : decode cX7_laysRoutes 82 = .ok (.iconst 0, 1) := by decide +kernel
theorem dX7_laysRoutes_83 : decode cX7_laysRoutes 83 = .ok (.goto 6, 3) := by decide +kernel
theorem dX7_laysRoutes_86 : decode cX7_laysRoutes 86 = .ok (.iconst 1, 1) := by decide +kernel
theorem dX7_laysRoutes_87 : decode cX7_laysRoutes 87 = .ok (.iload_n 1, 1) := by decide +kernel
theorem dX7_laysRoutes_88 : decode cX7_laysRoutes 88 = .ok (.ishl, 1) := by decide +kernel
theorem dX7_laysRoutes_89 : decode cX7_laysRoutes 89 = .ok (.ior, 1) := by decide +kernel
theorem dX7_laysRoutes_90 : decode cX7_laysRoutes 90 = .ok (.iastore, 1) := by decide +kernel
theorem dX7_laysRoutes_91 : decode cX7_laysRoutes 91 = .ok (.iinc 2 1, 3) := by decide +kernel
theorem dX7_laysRoutes_94 : decode cX7_laysRoutes 94 = .ok (.goto (-43), 3) := by decide +kernel
theorem dX7_laysRoutes_97 : decode cX7_laysRoutes 97 = .ok (.iinc 1 1, 3) := by decide +kernel
theorem dX7_laysRoutes_100 : decode cX7_laysRoutes 100 = .ok (.goto (-75), 3) := by decide +kernel
theorem dX7_laysRoutes_103 : decode cX7_laysRoutes 103 = .ok (.return_, 1) := by decide +kernel
theorem dX7_allToCome_0 : decode cX7_allToCome 0 = .ok (.iconst 0, 1) := by decide +kernel
theorem dX7_allToCome_1 : decode cX7_allToCome 1 = .ok (.istore_n 1, 1) := by decide +kernel
theorem dX7_allToCome_2 : decode cX7_allToCome 2 = .ok (.iconst 0, 1) := by decide +kernel
theorem dX7_allToCome_3 : decode cX7_allToCome 3 = .ok (.istore_n 2, 1) := by decide +kernel
theorem dX7_allToCome_4 : decode cX7_allToCome 4 = .ok (.iload_n 2, 1) := by decide +kernel
theorem dX7_allToCome_5 : decode cX7_allToCome 5 = .ok (.aload_n 0, 1) := by decide +kernel
theorem dX7_allToCome_6 : decode cX7_allToCome 6 = .ok (.getfield 25, 3) := by decide +kernel
theorem dX7_allToCome_9 : decode cX7_allToCome 9 = .ok (.bipush 8, 2) := by decide +kernel
theorem dX7_allToCome_11 : decode cX7_allToCome 11 = .ok (.iaload, 1) := by decide +kernel
theorem dX7_allToCome_12 : decode cX7_allToCome 12 = .ok (.if_icmp .ge 27, 3) := by decide +kernel
theorem dX7_allToCome_15 : decode cX7_allToCome 15 = .ok (.iload_n 1, 1) := by decide +kernel
theorem dX7_allToCome_16 : decode cX7_allToCome 16 = .ok (.aload_n 0, 1) := by decide +kernel
theorem dX7_allToCome_17 : decode cX7_allToCome 17 = .ok (.iload_n 2, 1) := by decide +kernel
theorem dX7_allToCome_18 : decode cX7_allToCome 18 = .ok (.invokevirtual 154, 3) := by decide +kernel
theorem dX7_allToCome_21 : decode cX7_allToCome 21 = .ok (.ifCond .eq 9, 3) := by decide +kernel
theorem dX7_allToCome_24 : decode cX7_allToCome 24 = .ok (.iconst 1, 1) := by decide +kernel
theorem dX7_allToCome_25 : decode cX7_allToCome 25 = .ok (.iload_n 2, 1) := by decide +kernel
theorem dX7_allToCome_26 : decode cX7_allToCome 26 = .ok (.ishl, 1) := by decide +kernel
theorem dX7_allToCome_27 : decode cX7_allToCome 27 = .ok (.goto 4, 3) := by decide +kernel
theorem dX7_allToCome_30 : decode cX7_allToCome 30 = .ok (.iconst 0, 1) := by decide +kernel
theorem dX7_allToCome_31 : decode cX7_allToCome 31 = .ok (.ior, 1) := by decide +kernel
theorem dX7_allToCome_32 : decode cX7_allToCome 32 = .ok (.istore_n 1, 1) := by decide +kernel
theorem dX7_allToCome_33 : decode cX7_allToCome 33 = .ok (.iinc 2 1, 3) := by decide +kernel
theorem dX7_allToCome_36 : decode cX7_allToCome 36 = .ok (.goto (-32), 3) := by decide +kernel
theorem dX7_allToCome_39 : decode cX7_allToCome 39 = .ok (.iload_n 1, 1) := by decide +kernel
theorem dX7_allToCome_40 : decode cX7_allToCome 40 = .ok (.ireturn, 1) := by decide +kernel
theorem dX7_cover_0 : decode cX7_cover 0 = .ok (.aload_n 0, 1) := by decide +kernel
theorem dX7_cover_1 : decode cX7_cover 1 = .ok (.invokevirtual 198, 3) := by decide +kernel
theorem dX7_cover_4 : decode cX7_cover 4 = .ok (.ifCond .ne 6, 3) := by decide +kernel
theorem dX7_cover_7 : decode cX7_cover 7 = .ok (.ldc 157, 2) := by decide +kernel
theorem dX7_cover_9 : decode cX7_cover 9 = .ok (.ireturn, 1) := by decide +kernel
theorem dX7_cover_10 : decode cX7_cover 10 = .ok (.iload_n 1, 1) := by decide +kernel
theorem dX7_cover_11 : decode cX7_cover 11 = .ok (.iconst 0, 1) := by decide +kernel
theorem dX7_cover_12 : decode cX7_cover 12 = .ok (.iconst 1, 1) := by decide +kernel
theorem dX7_cover_13 : decode cX7_cover 13 = .ok (.invokestatic 59, 3) := by decide +kernel
theorem dX7_cover_16 : decode cX7_cover 16 = .ok (.ifCond .ne 6, 3) := by decide +kernel
theorem dX7_cover_19 : decode cX7_cover 19 = .ok (.ldc 67, 2) := by decide +kernel
theorem dX7_cover_21 : decode cX7_cover 21 = .ok (.ireturn, 1) := by decide +kernel
theorem dX7_cover_22 : decode cX7_cover 22 = .ok (.aload_n 0, 1) := by decide +kernel
theorem dX7_cover_23 : decode cX7_cover 23 = .ok (.invokevirtual 204, 3) := by decide +kernel
theorem dX7_cover_26 : decode cX7_cover 26 = .ok (.ldc 53, 2) := by decide +kernel
theorem dX7_cover_28 : decode cX7_cover 28 = .ok (.istore_n 2, 1) := by decide +kernel
theorem dX7_cover_29 : decode cX7_cover 29 = .ok (.iconst 0, 1) := by decide +kernel
theorem dX7_cover_30 : decode cX7_cover 30 = .ok (.istore_n 3, 1) := by decide +kernel
theorem dX7_cover_31 : decode cX7_cover 31 = .ok (.iload_n 3, 1) := by decide +kernel
theorem dX7_cover_32 : decode cX7_cover 32 = .ok (.aload_n 0, 1) := by decide +kernel
theorem dX7_cover_33 : decode cX7_cover 33 = .ok (.invokevirtual 177, 3) := by decide +kernel
theorem dX7_cover_36 : decode cX7_cover 36 = .ok (.if_icmp .gt 57, 3) := by decide +kernel
theorem dX7_cover_39 : decode cX7_cover 39 = .ok (.aload_n 0, 1) := by decide +kernel
theorem dX7_cover_40 : decode cX7_cover 40 = .ok (.getfield 47, 3) := by decide +kernel
theorem dX7_cover_43 : decode cX7_cover 43 = .ok (.iload_n 3, 1) := by decide +kernel
theorem dX7_cover_44 : decode cX7_cover 44 = .ok (.iaload, 1) := by decide +kernel
theorem dX7_cover_45 : decode cX7_cover 45 = .ok (.aload_n 0, 1) := by decide +kernel
theorem dX7_cover_46 : decode cX7_cover 46 = .ok (.invokevirtual 207, 3) := by decide +kernel
theorem dX7_cover_49 : decode cX7_cover 49 = .ok (.if_icmp .ne 24, 3) := by decide +kernel
theorem dX7_cover_52 : decode cX7_cover 52 = .ok (.iload_n 2, 1) := by decide +kernel
theorem dX7_cover_53 : decode cX7_cover 53 = .ok (.ldc 53, 2) := by decide +kernel
theorem dX7_cover_55 : decode cX7_cover 55 = .ok (.if_icmp .eq 14, 3) := by decide +kernel
theorem dX7_cover_58 : decode cX7_cover 58 = .ok (.iload_n 3, 1) := by decide +kernel
theorem dX7_cover_59 : decode cX7_cover 59 = .ok (.invokestatic 168, 3) := by decide +kernel
theorem dX7_cover_62 : decode cX7_cover 62 = .ok (.iload_n 2, 1) := by decide +kernel
theorem dX7_cover_63 : decode cX7_cover 63 = .ok (.invokestatic 168, 3) := by decide +kernel
theorem dX7_cover_66 : decode cX7_cover 66 = .ok (.if_icmp .ge 7, 3) := by decide +kernel
theorem dX7_cover_69 : decode cX7_cover 69 = .ok (.iconst 1, 1) := by decide +kernel
theorem dX7_cover_70 : decode cX7_cover 70 = .ok (.goto 4, 3) := by decide +kernel
theorem dX7_cover_73 : decode cX7_cover 73 = .ok (.iconst 0, 1) := by decide +kernel
theorem dX7_cover_74 : decode cX7_cover 74 = .ok (.istore 4, 2) := by decide +kernel
theorem dX7_cover_76 : decode cX7_cover 76 = .ok (.iload 4, 2) := by decide +kernel
theorem dX7_cover_78 : decode cX7_cover 78 = .ok (.ifCond .eq 7, 3) := by decide +kernel
theorem dX7_cover_81 : decode cX7_cover 81 = .ok (.iload_n 3, 1) := by decide +kernel
theorem dX7_cover_82 : decode cX7_cover 82 = .ok (.goto 4, 3) := by decide +kernel
theorem dX7_cover_85 : decode cX7_cover 85 = .ok (.iload_n 2, 1) := by decide +kernel
theorem dX7_cover_86 : decode cX7_cover 86 = .ok (.istore_n 2, 1) := by decide +kernel
theorem dX7_cover_87 : decode cX7_cover 87 = .ok (.iinc 3 1, 3) := by decide +kernel
theorem dX7_cover_90 : decode cX7_cover 90 = .ok (.goto (-59), 3) := by decide +kernel
theorem dX7_cover_93 : decode cX7_cover 93 = .ok (.iload_n 2, 1) := by decide +kernel
theorem dX7_cover_94 : decode cX7_cover 94 = .ok (.ldc 53, 2) := by decide +kernel
theorem dX7_cover_96 : decode cX7_cover 96 = .ok (.if_icmp .eq 8, 3) := by decide +kernel
theorem dX7_cover_99 : decode cX7_cover 99 = .ok (.iload_n 1, 1) := by decide +kernel
theorem dX7_cover_100 : decode cX7_cover 100 = .ok (.iconst 1, 1) := by decide +kernel
theorem dX7_cover_101 : decode cX7_cover 101 = .ok (.if_icmp .ne 7, 3) := by decide +kernel
theorem dX7_cover_104 : decode cX7_cover 104 = .ok (.iload_n 2, 1) := by decide +kernel
theorem dX7_cover_105 : decode cX7_cover 105 = .ok (.goto 7, 3) := by decide +kernel
theorem dX7_cover_108 : decode cX7_cover 108 = .ok (.iload_n 2, 1) := by decide +kernel
theorem dX7_cover_109 : decode cX7_cover 109 = .ok (.invokestatic 168, 3) := by decide +kernel
theorem dX7_cover_112 : decode cX7_cover 112 = .ok (.ireturn, 1) := by decide +kernel
theorem dX7_spoilt_0 : decode cX7_spoilt 0 = .ok (.aload_n 0, 1) := by decide +kernel
theorem dX7_spoilt_1 : decode cX7_spoilt 1 = .ok (.invokevirtual 198, 3) := by decide +kernel
theorem dX7_spoilt_4 : decode cX7_spoilt 4 = .ok (.ifCond .ne 6, 3) := by decide +kernel
theorem dX7_spoilt_7 : decode cX7_spoilt 7 = .ok (.ldc 157, 2) := by decide +kernel
theorem dX7_spoilt_9 : decode cX7_spoilt 9 = .ok (.ireturn, 1) := by decide +kernel
theorem dX7_spoilt_10 : decode cX7_spoilt 10 = .ok (.iload_n 1, 1) := by decide +kernel
theorem dX7_spoilt_11 : decode cX7_spoilt 11 = .ok (.iconst 0, 1) := by decide +kernel
theorem dX7_spoilt_12 : decode cX7_spoilt 12 = .ok (.iconst 1, 1) := by decide +kernel
theorem dX7_spoilt_13 : decode cX7_spoilt 13 = .ok (.invokestatic 59, 3) := by decide +kernel
theorem dX7_spoilt_16 : decode cX7_spoilt 16 = .ok (.ifCond .ne 6, 3) := by decide +kernel
theorem dX7_spoilt_19 : decode cX7_spoilt 19 = .ok (.ldc 67, 2) := by decide +kernel
theorem dX7_spoilt_21 : decode cX7_spoilt 21 = .ok (.ireturn, 1) := by decide +kernel
theorem dX7_spoilt_22 : decode cX7_spoilt 22 = .ok (.aload_n 0, 1) := by decide +kernel
theorem dX7_spoilt_23 : decode cX7_spoilt 23 = .ok (.invokevirtual 204, 3) := by decide +kernel
theorem dX7_spoilt_26 : decode cX7_spoilt 26 = .ok (.ldc 53, 2) := by decide +kernel
theorem dX7_spoilt_28 : decode cX7_spoilt 28 = .ok (.istore_n 2, 1) := by decide +kernel
theorem dX7_spoilt_29 : decode cX7_spoilt 29 = .ok (.ldc 53, 2) := by decide +kernel
theorem dX7_spoilt_31 : decode cX7_spoilt 31 = .ok (.istore_n 3, 1) := by decide +kernel
theorem dX7_spoilt_32 : decode cX7_spoilt 32 = .ok (.iconst 0, 1) := by decide +kernel
theorem dX7_spoilt_33 : decode cX7_spoilt 33 = .ok (.istore 4, 2) := by decide +kernel
theorem dX7_spoilt_35 : decode cX7_spoilt 35 = .ok (.iload 4, 2) := by decide +kernel
theorem dX7_spoilt_37 : decode cX7_spoilt 37 = .ok (.aload_n 0, 1) := by decide +kernel
theorem dX7_spoilt_38 : decode cX7_spoilt 38 = .ok (.getfield 25, 3) := by decide +kernel
theorem dX7_spoilt_41 : decode cX7_spoilt 41 = .ok (.bipush 7, 2) := by decide +kernel
theorem dX7_spoilt_43 : decode cX7_spoilt 43 = .ok (.iaload, 1) := by decide +kernel
theorem dX7_spoilt_44 : decode cX7_spoilt 44 = .ok (.if_icmp .ge 48, 3) := by decide +kernel
theorem dX7_spoilt_47 : decode cX7_spoilt 47 = .ok (.aload_n 0, 1) := by decide +kernel
theorem dX7_spoilt_48 : decode cX7_spoilt 48 = .ok (.getfield 47, 3) := by decide +kernel
theorem dX7_spoilt_51 : decode cX7_spoilt 51 = .ok (.aload_n 0, 1) := by decide +kernel
theorem dX7_spoilt_52 : decode cX7_spoilt 52 = .ok (.invokevirtual 177, 3) := by decide +kernel
theorem dX7_spoilt_55 : decode cX7_spoilt 55 = .ok (.iconst 1, 1) := by decide +kernel
theorem dX7_spoilt_56 : decode cX7_spoilt 56 = .ok (.iload 4, 2) := by decide +kernel
theorem dX7_spoilt_58 : decode cX7_spoilt 58 = .ok (.ishl, 1) := by decide +kernel
theorem dX7_spoilt_59 : decode cX7_spoilt 59 = .ok (.iconst (-1), 1) := by decide +kernel
theorem dX7_spoilt_60 : decode cX7_spoilt 60 = .ok (.ixor, 1) := by decide +kernel
theorem dX7_spoilt_61 : decode cX7_spoilt 61 = .ok (.iand, 1) := by decide +kernel
theorem dX7_spoilt_62 : decode cX7_spoilt 62 = .ok (.iaload, 1) := by decide +kernel
theorem dX7_spoilt_63 : decode cX7_spoilt 63 = .ok (.invokestatic 168, 3) := by decide +kernel
theorem dX7_spoilt_66 : decode cX7_spoilt 66 = .ok (.istore 5, 2) := by decide +kernel
theorem dX7_spoilt_68 : decode cX7_spoilt 68 = .ok (.iload_n 2, 1) := by decide +kernel
theorem dX7_spoilt_69 : decode cX7_spoilt 69 = .ok (.ldc 53, 2) := by decide +kernel
theorem dX7_spoilt_71 : decode cX7_spoilt 71 = .ok (.if_icmp .eq 9, 3) := by decide +kernel
theorem dX7_spoilt_74 : decode cX7_spoilt 74 = .ok (.iload 5, 2) := by decide +kernel
theorem dX7_spoilt_76 : decode cX7_spoilt 76 = .ok (.iload_n 3, 1) := by decide +kernel
theorem dX7_spoilt_77 : decode cX7_spoilt 77 = .ok (.if_icmp .ge 9, 3) := by decide +kernel
theorem dX7_spoilt_80 : decode cX7_spoilt 80 = .ok (.iload 4, 2) := by decide +kernel
theorem dX7_spoilt_82 : decode cX7_spoilt 82 = .ok (.istore_n 2, 1) := by decide +kernel
theorem dX7_spoilt_83 : decode cX7_spoilt 83 = .ok (.iload 5, 2) := by decide +kernel
theorem dX7_spoilt_85 : decode cX7_spoilt 85 = .ok (.istore_n 3, 1) := by decide +kernel
theorem dX7_spoilt_86 : decode cX7_spoilt 86 = .ok (.iinc 4 1, 3) := by decide +kernel
theorem dX7_spoilt_89 : decode cX7_spoilt 89 = .ok (.goto (-54), 3) := by decide +kernel
theorem dX7_spoilt_92 : decode cX7_spoilt 92 = .ok (.iload_n 1, 1) := by decide +kernel
theorem dX7_spoilt_93 : decode cX7_spoilt 93 = .ok (.ifCond .ne 7, 3) := by decide +kernel
theorem dX7_spoilt_96 : decode cX7_spoilt 96 = .ok (.iload_n 2, 1) := by decide +kernel
theorem dX7_spoilt_97 : decode cX7_spoilt 97 = .ok (.goto 4, 3) := by decide +kernel
theorem dX7_spoilt_100 : decode cX7_spoilt 100 = .ok (.iload_n 3, 1) := by decide +kernel
theorem dX7_spoilt_101 : decode cX7_spoilt 101 = .ok (.ireturn, 1) := by decide +kernel
theorem dX7_thinksBy_0 : decode cX7_thinksBy 0 = .ok (.iconst 0, 1) := by decide +kernel
theorem dX7_thinksBy_1 : decode cX7_thinksBy 1 = .ok (.istore 4, 2) := by decide +kernel
theorem dX7_thinksBy_3 : decode cX7_thinksBy 3 = .ok (.iload 4, 2) := by decide +kernel
theorem dX7_thinksBy_5 : decode cX7_thinksBy 5 = .ok (.bipush 8, 2) := by decide +kernel
theorem dX7_thinksBy_7 : decode cX7_thinksBy 7 = .ok (.if_icmp .ge 30, 3) := by decide +kernel
theorem dX7_thinksBy_10 : decode cX7_thinksBy 10 = .ok (.aload_n 0, 1) := by decide +kernel
theorem dX7_thinksBy_11 : decode cX7_thinksBy 11 = .ok (.getfield 50, 3) := by decide +kernel
theorem dX7_thinksBy_14 : decode cX7_thinksBy 14 = .ok (.iload 4, 2) := by decide +kernel
theorem dX7_thinksBy_16 : decode cX7_thinksBy 16 = .ok (.aload_n 0, 1) := by decide +kernel
theorem dX7_thinksBy_17 : decode cX7_thinksBy 17 = .ok (.getfield 25, 3) := by decide +kernel
theorem dX7_thinksBy_20 : decode cX7_thinksBy 20 = .ok (.bipush 9, 2) := by decide +kernel
theorem dX7_thinksBy_22 : decode cX7_thinksBy 22 = .ok (.iconst 4, 1) := by decide +kernel
theorem dX7_thinksBy_23 : decode cX7_thinksBy 23 = .ok (.iload 4, 2) := by decide +kernel
theorem dX7_thinksBy_25 : decode cX7_thinksBy 25 = .ok (.imul, 1) := by decide +kernel
theorem dX7_thinksBy_26 : decode cX7_thinksBy 26 = .ok (.iadd, 1) := by decide +kernel
theorem dX7_thinksBy_27 : decode cX7_thinksBy 27 = .ok (.iconst 3, 1) := by decide +kernel
theorem dX7_thinksBy_28 : decode cX7_thinksBy 28 = .ok (.iadd, 1) := by decide +kernel
theorem dX7_thinksBy_29 : decode cX7_thinksBy 29 = .ok (.iaload, 1) := by decide +kernel
theorem dX7_thinksBy_30 : decode cX7_thinksBy 30 = .ok (.iastore, 1) := by decide +kernel
theorem dX7_thinksBy_31 : decode cX7_thinksBy 31 = .ok (.iinc 4 1, 3) := by decide +kernel
theorem dX7_thinksBy_34 : decode cX7_thinksBy 34 = .ok (.goto (-31), 3) := by decide +kernel
theorem dX7_thinksBy_37 : decode cX7_thinksBy 37 = .ok (.aload_n 0, 1) := by decide +kernel
theorem dX7_thinksBy_38 : decode cX7_thinksBy 38 = .ok (.iload_n 1, 1) := by decide +kernel
theorem dX7_thinksBy_39 : decode cX7_thinksBy 39 = .ok (.iconst 0, 1) := by decide +kernel
theorem dX7_thinksBy_40 : decode cX7_thinksBy 40 = .ok (.invokevirtual 144, 3) := by decide +kernel
theorem dX7_thinksBy_43 : decode cX7_thinksBy 43 = .ok (.istore 4, 2) := by decide +kernel
theorem dX7_thinksBy_45 : decode cX7_thinksBy 45 = .ok (.iconst 0, 1) := by decide +kernel
theorem dX7_thinksBy_46 : decode cX7_thinksBy 46 = .ok (.istore 5, 2) := by decide +kernel
theorem dX7_thinksBy_48 : decode cX7_thinksBy 48 = .ok (.iload 5, 2) := by decide +kernel
theorem dX7_thinksBy_50 : decode cX7_thinksBy 50 = .ok (.iload_n 3, 1) := by decide +kernel
theorem dX7_thinksBy_51 : decode cX7_thinksBy 51 = .ok (.if_icmp .ge 48, 3) := by decide +kernel
theorem dX7_thinksBy_54 : decode cX7_thinksBy 54 = .ok (.aload_n 0, 1) := by decide +kernel
theorem dX7_thinksBy_55 : decode cX7_thinksBy 55 = .ok (.getfield 16, 3) := by decide +kernel
theorem dX7_thinksBy_58 : decode cX7_thinksBy 58 = .ok (.iload_n 2, 1) := by decide +kernel
theorem dX7_thinksBy_59 : decode cX7_thinksBy 59 = .ok (.iload 5, 2) := by decide +kernel
theorem dX7_thinksBy_61 : decode cX7_thinksBy 61 = .ok (.iadd, 1) := by decide +kernel
theorem dX7_thinksBy_62 : decode cX7_thinksBy 62 = .ok (.iaload, 1) := by decide +kernel
theorem dX7_thinksBy_63 : decode cX7_thinksBy 63 = .ok (.istore 6, 2) := by decide +kernel
theorem dX7_thinksBy_65 : decode cX7_thinksBy 65 = .ok (.aload_n 0, 1) := by decide +kernel
theorem dX7_thinksBy_66 : decode cX7_thinksBy 66 = .ok (.iload 6, 2) := by decide +kernel
theorem dX7_thinksBy_68 : decode cX7_thinksBy 68 = .ok (.iload 4, 2) := by decide +kernel
theorem dX7_thinksBy_70 : decode cX7_thinksBy 70 = .ok (.aload_n 0, 1) := by decide +kernel
theorem dX7_thinksBy_71 : decode cX7_thinksBy 71 = .ok (.getfield 50, 3) := by decide +kernel
theorem dX7_thinksBy_74 : decode cX7_thinksBy 74 = .ok (.iload 6, 2) := by decide +kernel
theorem dX7_thinksBy_76 : decode cX7_thinksBy 76 = .ok (.iaload, 1) := by decide +kernel
theorem dX7_thinksBy_77 : decode cX7_thinksBy 77 = .ok (.invokevirtual 147, 3) := by decide +kernel
theorem dX7_thinksBy_80 : decode cX7_thinksBy 80 = .ok (.istore 4, 2) := by decide +kernel
theorem dX7_thinksBy_82 : decode cX7_thinksBy 82 = .ok (.aload_n 0, 1) := by decide +kernel
theorem dX7_thinksBy_83 : decode cX7_thinksBy 83 = .ok (.getfield 50, 3) := by decide +kernel
theorem dX7_thinksBy_86 : decode cX7_thinksBy 86 = .ok (.iload 6, 2) := by decide +kernel
theorem dX7_thinksBy_88 : decode cX7_thinksBy 88 = .ok (.dup2, 1) := by decide +kernel
theorem dX7_thinksBy_89 : decode cX7_thinksBy 89 = .ok (.iaload, 1) := by decide +kernel
theorem dX7_thinksBy_90 : decode cX7_thinksBy 90 = .ok (.iconst 1, 1) := by decide +kernel
theorem dX7_thinksBy_91 : decode cX7_thinksBy 91 = .ok (.iadd, 1) := by decide +kernel
theorem dX7_thinksBy_92 : decode cX7_thinksBy 92 = .ok (.iastore, 1) := by decide +kernel
theorem dX7_thinksBy_93 : decode cX7_thinksBy 93 = .ok (.iinc 5 1, 3) := by decide +kernel
theorem dX7_thinksBy_96 : decode cX7_thinksBy 96 = .ok (.goto (-48), 3) := by decide +kernel
theorem dX7_thinksBy_99 : decode cX7_thinksBy 99 = .ok (.iload 4, 2) := by decide +kernel
theorem dX7_thinksBy_101 : decode cX7_thinksBy 101 = .ok (.ireturn, 1) := by decide +kernel
theorem dX7_nearly_0 : decode cX7_nearly 0 = .ok (.aload_n 0, 1) := by decide +kernel
theorem dX7_nearly_1 : decode cX7_nearly 1 = .ok (.invokevirtual 198, 3) := by decide +kernel
theorem dX7_nearly_4 : decode cX7_nearly 4 = .ok (.ifCond .ne 6, 3) := by decide +kernel
theorem dX7_nearly_7 : decode cX7_nearly 7 = .ok (.ldc 157, 2) := by decide +kernel
theorem dX7_nearly_9 : decode cX7_nearly 9 = .ok (.ireturn, 1) := by decide +kernel
theorem dX7_nearly_10 : decode cX7_nearly 10 = .ok (.iload_n 1, 1) := by decide +kernel
theorem dX7_nearly_11 : decode cX7_nearly 11 = .ok (.invokestatic 63, 3) := by decide +kernel
theorem dX7_nearly_14 : decode cX7_nearly 14 = .ok (.ifCond .eq 13, 3) := by decide +kernel
theorem dX7_nearly_17 : decode cX7_nearly 17 = .ok (.iload_n 3, 1) := by decide +kernel
theorem dX7_nearly_18 : decode cX7_nearly 18 = .ok (.iconst 0, 1) := by decide +kernel
theorem dX7_nearly_19 : decode cX7_nearly 19 = .ok (.bipush 8, 2) := by decide +kernel
theorem dX7_nearly_21 : decode cX7_nearly 21 = .ok (.invokestatic 59, 3) := by decide +kernel
theorem dX7_nearly_24 : decode cX7_nearly 24 = .ok (.ifCond .ne 6, 3) := by decide +kernel
theorem dX7_nearly_27 : decode cX7_nearly 27 = .ok (.ldc 67, 2) := by decide +kernel
theorem dX7_nearly_29 : decode cX7_nearly 29 = .ok (.ireturn, 1) := by decide +kernel
theorem dX7_nearly_30 : decode cX7_nearly 30 = .ok (.aload_n 0, 1) := by decide +kernel
theorem dX7_nearly_31 : decode cX7_nearly 31 = .ok (.iload_n 1, 1) := by decide +kernel
theorem dX7_nearly_32 : decode cX7_nearly 32 = .ok (.invokevirtual 75, 3) := by decide +kernel
theorem dX7_nearly_35 : decode cX7_nearly 35 = .ok (.ifCond .eq 9, 3) := by decide +kernel
theorem dX7_nearly_38 : decode cX7_nearly 38 = .ok (.aload_n 0, 1) := by decide +kernel
theorem dX7_nearly_39 : decode cX7_nearly 39 = .ok (.iconst 1, 1) := by decide +kernel
theorem dX7_nearly_40 : decode cX7_nearly 40 = .ok (.invokevirtual 68, 3) := by decide +kernel
theorem dX7_nearly_43 : decode cX7_nearly 43 = .ok (.ireturn, 1) := by decide +kernel
theorem dX7_nearly_44 : decode cX7_nearly 44 = .ok (.aload_n 0, 1) := by decide +kernel
theorem dX7_nearly_45 : decode cX7_nearly 45 = .ok (.iload_n 1, 1) := by decide +kernel
theorem dX7_nearly_46 : decode cX7_nearly 46 = .ok (.iload_n 2, 1) := by decide +kernel
theorem dX7_nearly_47 : decode cX7_nearly 47 = .ok (.iload_n 3, 1) := by decide +kernel
theorem dX7_nearly_48 : decode cX7_nearly 48 = .ok (.invokevirtual 82, 3) := by decide +kernel
theorem dX7_nearly_51 : decode cX7_nearly 51 = .ok (.ifCond .ne 9, 3) := by decide +kernel
theorem dX7_nearly_54 : decode cX7_nearly 54 = .ok (.aload_n 0, 1) := by decide +kernel
theorem dX7_nearly_55 : decode cX7_nearly 55 = .ok (.iconst 2, 1) := by decide +kernel
theorem dX7_nearly_56 : decode cX7_nearly 56 = .ok (.invokevirtual 68, 3) := by decide +kernel
theorem dX7_nearly_59 : decode cX7_nearly 59 = .ok (.ireturn, 1) := by decide +kernel
theorem dX7_nearly_60 : decode cX7_nearly 60 = .ok (.iconst 0, 1) := by decide +kernel
theorem dX7_nearly_61 : decode cX7_nearly 61 = .ok (.istore 4, 2) := by decide +kernel
theorem dX7_nearly_63 : decode cX7_nearly 63 = .ok (.iload 4, 2) := by decide +kernel
theorem dX7_nearly_65 : decode cX7_nearly 65 = .ok (.iload_n 3, 1) := by decide +kernel
theorem dX7_nearly_66 : decode cX7_nearly 66 = .ok (.if_icmp .ge 33, 3) := by decide +kernel
theorem dX7_nearly_69 : decode cX7_nearly 69 = .ok (.aload_n 0, 1) := by decide +kernel
theorem dX7_nearly_70 : decode cX7_nearly 70 = .ok (.aload_n 0, 1) := by decide +kernel
theorem dX7_nearly_71 : decode cX7_nearly 71 = .ok (.getfield 16, 3) := by decide +kernel
theorem dX7_nearly_74 : decode cX7_nearly 74 = .ok (.bipush 40, 2) := by decide +kernel
theorem dX7_nearly_76 : decode cX7_nearly 76 = .ok (.iload_n 1, 1) := by decide +kernel
theorem dX7_nearly_77 : decode cX7_nearly 77 = .ok (.imul, 1) := by decide +kernel
theorem dX7_nearly_78 : decode cX7_nearly 78 = .ok (.iload_n 2, 1) := by decide +kernel
theorem dX7_nearly_79 : decode cX7_nearly 79 = .ok (.iadd, 1) := by decide +kernel
theorem dX7_nearly_80 : decode cX7_nearly 80 = .ok (.iload 4, 2) := by decide +kernel
theorem dX7_nearly_82 : decode cX7_nearly 82 = .ok (.iadd, 1) := by decide +kernel
theorem dX7_nearly_83 : decode cX7_nearly 83 = .ok (.iaload, 1) := by decide +kernel
theorem dX7_nearly_84 : decode cX7_nearly 84 = .ok (.invokevirtual 161, 3) := by decide +kernel
theorem dX7_nearly_87 : decode cX7_nearly 87 = .ok (.ifCond .ne 6, 3) := by decide +kernel
theorem dX7_nearly_90 : decode cX7_nearly 90 = .ok (.ldc 67, 2) := by decide +kernel
theorem dX7_nearly_92 : decode cX7_nearly 92 = .ok (.ireturn, 1) := by decide +kernel
theorem dX7_nearly_93 : decode cX7_nearly 93 = .ok (.iinc 4 1, 3) := by decide +kernel
theorem dX7_nearly_96 : decode cX7_nearly 96 = .ok (.goto (-33), 3) := by decide +kernel
theorem dX7_nearly_99 : decode cX7_nearly 99 = .ok (.iconst 0, 1) := by decide +kernel
theorem dX7_nearly_100 : decode cX7_nearly 100 = .ok (.istore 4, 2) := by decide +kernel
theorem dX7_nearly_102 : decode cX7_nearly 102 = .ok (.iconst 0, 1) := by decide +kernel
theorem dX7_nearly_103 : decode cX7_nearly 103 = .ok (.istore 5, 2) := by decide +kernel
theorem dX7_nearly_105 : decode cX7_nearly 105 = .ok (.iload 5, 2) := by decide +kernel
theorem dX7_nearly_107 : decode cX7_nearly 107 = .ok (.aload_n 0, 1) := by decide +kernel
theorem dX7_nearly_108 : decode cX7_nearly 108 = .ok (.getfield 25, 3) := by decide +kernel
theorem dX7_nearly_111 : decode cX7_nearly 111 = .ok (.bipush 8, 2) := by decide +kernel
theorem dX7_nearly_113 : decode cX7_nearly 113 = .ok (.iaload, 1) := by decide +kernel
theorem dX7_nearly_114 : decode cX7_nearly 114 = .ok (.if_icmp .ge 74, 3) := by decide +kernel
theorem dX7_nearly_117 : decode cX7_nearly 117 = .ok (.aload_n 0, 1) := by decide +kernel
theorem dX7_nearly_118 : decode cX7_nearly 118 = .ok (.iload 5, 2) := by decide +kernel
theorem dX7_nearly_120 : decode cX7_nearly 120 = .ok (.invokevirtual 154, 3) := by decide +kernel
theorem dX7_nearly_123 : decode cX7_nearly 123 = .ok (.ifCond .eq 38, 3) := by decide +kernel
theorem dX7_nearly_126 : decode cX7_nearly 126 = .ok (.aload_n 0, 1) := by decide +kernel
theorem dX7_nearly_127 : decode cX7_nearly 127 = .ok (.iload 5, 2) := by decide +kernel
theorem dX7_nearly_129 : decode cX7_nearly 129 = .ok (.invokevirtual 174, 3) := by decide +kernel
theorem dX7_nearly_132 : decode cX7_nearly 132 = .ok (.ifCond .ne 29, 3) := by decide +kernel
theorem dX7_nearly_135 : decode cX7_nearly 135 = .ok (.aload_n 0, 1) := by decide +kernel
theorem dX7_nearly_136 : decode cX7_nearly 136 = .ok (.iload 5, 2) := by decide +kernel
theorem dX7_nearly_138 : decode cX7_nearly 138 = .ok (.bipush 40, 2) := by decide +kernel
theorem dX7_nearly_140 : decode cX7_nearly 140 = .ok (.iload_n 1, 1) := by decide +kernel
theorem dX7_nearly_141 : decode cX7_nearly 141 = .ok (.imul, 1) := by decide +kernel
theorem dX7_nearly_142 : decode cX7_nearly 142 = .ok (.iload_n 2, 1) := by decide +kernel
theorem dX7_nearly_143 : decode cX7_nearly 143 = .ok (.iadd, 1) := by decide +kernel
theorem dX7_nearly_144 : decode cX7_nearly 144 = .ok (.iload_n 3, 1) := by decide +kernel
theorem dX7_nearly_145 : decode cX7_nearly 145 = .ok (.invokevirtual 210, 3) := by decide +kernel
theorem dX7_nearly_148 : decode cX7_nearly 148 = .ok (.aload_n 0, 1) := by decide +kernel
theorem dX7_nearly_149 : decode cX7_nearly 149 = .ok (.getfield 25, 3) := by decide +kernel
theorem dX7_nearly_152 : decode cX7_nearly 152 = .ok (.iconst 1, 1) := by decide +kernel
theorem dX7_nearly_153 : decode cX7_nearly 153 = .ok (.iaload, 1) := by decide +kernel
theorem dX7_nearly_154 : decode cX7_nearly 154 = .ok (.if_icmp .ne 7, 3) := by decide +kernel
theorem dX7_nearly_157 : decode cX7_nearly 157 = .ok (.iconst 1, 1) := by decide +kernel
theorem dX7_nearly_158 : decode cX7_nearly 158 = .ok (.goto 4, 3) := by decide +kernel
theorem dX7_nearly_161 : decode cX7_nearly 161 = .ok (.iconst 0, 1) := by decide +kernel
theorem dX7_nearly_162 : decode cX7_nearly 162 = .ok (.istore 6, 2) := by decide +kernel
theorem dX7_nearly_164 : decode cX7_nearly 164 = .ok (.iload 4, 2) := by decide +kernel
theorem dX7_nearly_166 : decode cX7_nearly 166 = .ok (.iload 6, 2) := by decide +kernel
theorem dX7_nearly_168 : decode cX7_nearly 168 = .ok (.ifCond .eq 10, 3) := by decide +kernel
theorem dX7_nearly_171 : decode cX7_nearly 171 = .ok (.iconst 1, 1) := by decide +kernel
theorem dX7_nearly_172 : decode cX7_nearly 172 = .ok (.iload 5, 2) := by decide +kernel
theorem dX7_nearly_174 : decode cX7_nearly 174 = .ok (.ishl, 1) := by decide +kernel
theorem dX7_nearly_175 : decode cX7_nearly 175 = .ok (.goto 4, 3) := by decide +kernel
theorem dX7_nearly_178 : decode cX7_nearly 178 = .ok (.iconst 0, 1) := by decide +kernel
theorem dX7_nearly_179 : decode cX7_nearly 179 = .ok (.ior, 1) := by decide +kernel
theorem dX7_nearly_180 : decode cX7_nearly 180 = .ok (.istore 4, 2) := by decide +kernel
theorem dX7_nearly_182 : decode cX7_nearly 182 = .ok (.iinc 5 1, 3) := by decide +kernel
theorem dX7_nearly_185 : decode cX7_nearly 185 = .ok (.goto (-80), 3) := by decide +kernel
theorem dX7_nearly_188 : decode cX7_nearly 188 = .ok (.aload_n 0, 1) := by decide +kernel
theorem dX7_nearly_189 : decode cX7_nearly 189 = .ok (.iload 4, 2) := by decide +kernel
theorem dX7_nearly_191 : decode cX7_nearly 191 = .ok (.invokevirtual 72, 3) := by decide +kernel
theorem dX7_nearly_194 : decode cX7_nearly 194 = .ok (.ireturn, 1) := by decide +kernel
theorem dX7_image_0 : decode cX7_image 0 = .ok (.iload_n 1, 1) := by decide +kernel
theorem dX7_image_1 : decode cX7_image 1 = .ok (.iconst 0, 1) := by decide +kernel
theorem dX7_image_2 : decode cX7_image 2 = .ok (.iconst 1, 1) := by decide +kernel
theorem dX7_image_3 : decode cX7_image 3 = .ok (.invokestatic 59, 3) := by decide +kernel
theorem dX7_image_6 : decode cX7_image 6 = .ok (.ifCond .ne 6, 3) := by decide +kernel
theorem dX7_image_9 : decode cX7_image 9 = .ok (.ldc 67, 2) := by decide +kernel
theorem dX7_image_11 : decode cX7_image 11 = .ok (.ireturn, 1) := by decide +kernel
theorem dX7_image_12 : decode cX7_image 12 = .ok (.aload_n 0, 1) := by decide +kernel
theorem dX7_image_13 : decode cX7_image 13 = .ok (.invokevirtual 198, 3) := by decide +kernel
theorem dX7_image_16 : decode cX7_image 16 = .ok (.ifCond .ne 6, 3) := by decide +kernel
theorem dX7_image_19 : decode cX7_image 19 = .ok (.ldc 157, 2) := by decide +kernel
theorem dX7_image_21 : decode cX7_image 21 = .ok (.ireturn, 1) := by decide +kernel
theorem dX7_image_22 : decode cX7_image 22 = .ok (.aload_n 0, 1) := by decide +kernel
theorem dX7_image_23 : decode cX7_image 23 = .ok (.getfield 25, 3) := by decide +kernel
theorem dX7_image_26 : decode cX7_image 26 = .ok (.iconst 0, 1) := by decide +kernel
theorem dX7_image_27 : decode cX7_image 27 = .ok (.aload_n 0, 1) := by decide +kernel
theorem dX7_image_28 : decode cX7_image 28 = .ok (.getfield 34, 3) := by decide +kernel
theorem dX7_image_31 : decode cX7_image 31 = .ok (.bipush 71, 2) := by decide +kernel
theorem dX7_image_33 : decode cX7_image 33 = .ok (.iload_n 1, 1) := by decide +kernel
theorem dX7_image_34 : decode cX7_image 34 = .ok (.imul, 1) := by decide +kernel
theorem dX7_image_35 : decode cX7_image 35 = .ok (.invokestatic 137, 3) := by decide +kernel
theorem dX7_image_38 : decode cX7_image 38 = .ok (.aload_n 0, 1) := by decide +kernel
theorem dX7_image_39 : decode cX7_image 39 = .ok (.getfield 37, 3) := by decide +kernel
theorem dX7_image_42 : decode cX7_image 42 = .ok (.iload_n 1, 1) := by decide +kernel
theorem dX7_image_43 : decode cX7_image 43 = .ok (.iconst 1, 1) := by decide +kernel
theorem dX7_image_44 : decode cX7_image 44 = .ok (.bastore, 1) := by decide +kernel
theorem dX7_image_45 : decode cX7_image 45 = .ok (.iconst 1, 1) := by decide +kernel
theorem dX7_image_46 : decode cX7_image 46 = .ok (.ireturn, 1) := by decide +kernel
theorem dX7_restore_0 : decode cX7_restore 0 = .ok (.iload_n 1, 1) := by decide +kernel
theorem dX7_restore_1 : decode cX7_restore 1 = .ok (.iconst 0, 1) := by decide +kernel
theorem dX7_restore_2 : decode cX7_restore 2 = .ok (.iconst 1, 1) := by decide +kernel
theorem dX7_restore_3 : decode cX7_restore 3 = .ok (.invokestatic 59, 3) := by decide +kernel
theorem dX7_restore_6 : decode cX7_restore 6 = .ok (.ifCond .ne 6, 3) := by decide +kernel
theorem dX7_restore_9 : decode cX7_restore 9 = .ok (.ldc 67, 2) := by decide +kernel
theorem dX7_restore_11 : decode cX7_restore 11 = .ok (.ireturn, 1) := by decide +kernel
theorem dX7_restore_12 : decode cX7_restore 12 = .ok (.aload_n 0, 1) := by decide +kernel
theorem dX7_restore_13 : decode cX7_restore 13 = .ok (.getfield 37, 3) := by decide +kernel
theorem dX7_restore_16 : decode cX7_restore 16 = .ok (.iload_n 1, 1) := by decide +kernel
theorem dX7_restore_17 : decode cX7_restore 17 = .ok (.baload, 1) := by decide +kernel
theorem dX7_restore_18 : decode cX7_restore 18 = .ok (.ifCond .ne 6, 3) := by decide +kernel
theorem dX7_restore_21 : decode cX7_restore 21 = .ok (.ldc 157, 2) := by decide +kernel
theorem dX7_restore_23 : decode cX7_restore 23 = .ok (.ireturn, 1) := by decide +kernel
theorem dX7_restore_24 : decode cX7_restore 24 = .ok (.aload_n 0, 1) := by decide +kernel
theorem dX7_restore_25 : decode cX7_restore 25 = .ok (.getfield 34, 3) := by decide +kernel
theorem dX7_restore_28 : decode cX7_restore 28 = .ok (.bipush 71, 2) := by decide +kernel
theorem dX7_restore_30 : decode cX7_restore 30 = .ok (.iload_n 1, 1) := by decide +kernel
theorem dX7_restore_31 : decode cX7_restore 31 = .ok (.imul, 1) := by decide +kernel
theorem dX7_restore_32 : decode cX7_restore 32 = .ok (.aload_n 0, 1) := by decide +kernel
theorem dX7_restore_33 : decode cX7_restore 33 = .ok (.getfield 25, 3) := by decide +kernel
theorem dX7_restore_36 : decode cX7_restore 36 = .ok (.iconst 0, 1) := by decide +kernel
theorem dX7_restore_37 : decode cX7_restore 37 = .ok (.invokestatic 137, 3) := by decide +kernel
theorem dX7_restore_40 : decode cX7_restore 40 = .ok (.aload_n 0, 1) := by decide +kernel
theorem dX7_restore_41 : decode cX7_restore 41 = .ok (.iconst 0, 1) := by decide +kernel
theorem dX7_restore_42 : decode cX7_restore 42 = .ok (.putfield 141, 3) := by decide +kernel
theorem dX7_restore_45 : decode cX7_restore 45 = .ok (.iconst 1, 1) := by decide +kernel
theorem dX7_restore_46 : decode cX7_restore 46 = .ok (.ireturn, 1) := by decide +kernel
theorem dX7_kindIn_0 : decode cX7_kindIn 0 = .ok (.aload_n 0, 1) := by decide +kernel
theorem dX7_kindIn_1 : decode cX7_kindIn 1 = .ok (.getfield 25, 3) := by decide +kernel
theorem dX7_kindIn_4 : decode cX7_kindIn 4 = .ok (.bipush 9, 2) := by decide +kernel
theorem dX7_kindIn_6 : decode cX7_kindIn 6 = .ok (.iconst 4, 1) := by decide +kernel
theorem dX7_kindIn_7 : decode cX7_kindIn 7 = .ok (.iload_n 1, 1) := by decide +kernel
theorem dX7_kindIn_8 : decode cX7_kindIn 8 = .ok (.imul, 1) := by decide +kernel
theorem dX7_kindIn_9 : decode cX7_kindIn 9 = .ok (.iadd, 1) := by decide +kernel
theorem dX7_kindIn_10 : decode cX7_kindIn 10 = .ok (.iaload, 1) := by decide +kernel
theorem dX7_kindIn_11 : decode cX7_kindIn 11 = .ok (.ireturn, 1) := by decide +kernel
theorem dX7_kind_0 : decode cX7_kind 0 = .ok (.aload_n 0, 1) := by decide +kernel
theorem dX7_kind_1 : decode cX7_kind 1 = .ok (.iload_n 1, 1) := by decide +kernel
theorem dX7_kind_2 : decode cX7_kind 2 = .ok (.invokevirtual 161, 3) := by decide +kernel
theorem dX7_kind_5 : decode cX7_kind 5 = .ok (.ifCond .eq 11, 3) := by decide +kernel
theorem dX7_kind_8 : decode cX7_kind 8 = .ok (.aload_n 0, 1) := by decide +kernel
theorem dX7_kind_9 : decode cX7_kind 9 = .ok (.iload_n 1, 1) := by decide +kernel
theorem dX7_kind_10 : decode cX7_kind 10 = .ok (.invokevirtual 213, 3) := by decide +kernel
theorem dX7_kind_13 : decode cX7_kind 13 = .ok (.goto 5, 3) := by decide +kernel
theorem dX7_kind_16 : decode cX7_kind 16 = .ok (.ldc 67, 2) := by decide +kernel
theorem dX7_kind_18 : decode cX7_kind 18 = .ok (.ireturn, 1) := by decide +kernel
theorem dX7_as_0 : decode cX7_as 0 = .ok (.aload_n 0, 1) := by decide +kernel
theorem dX7_as_1 : decode cX7_as 1 = .ok (.iload_n 1, 1) := by decide +kernel
theorem dX7_as_2 : decode cX7_as 2 = .ok (.invokevirtual 161, 3) := by decide +kernel
theorem dX7_as_5 : decode cX7_as 5 = .ok (.ifCond .eq 12, 3) := by decide +kernel
theorem dX7_as_8 : decode cX7_as 8 = .ok (.iload_n 2, 1) := by decide +kernel
theorem dX7_as_9 : decode cX7_as 9 = .ok (.iconst 0, 1) := by decide +kernel
theorem dX7_as_10 : decode cX7_as 10 = .ok (.iconst 5, 1) := by decide +kernel
theorem dX7_as_11 : decode cX7_as 11 = .ok (.invokestatic 59, 3) := by decide +kernel
theorem dX7_as_14 : decode cX7_as 14 = .ok (.ifCond .ne 6, 3) := by decide +kernel
theorem dX7_as_17 : decode cX7_as 17 = .ok (.ldc 67, 2) := by decide +kernel
theorem dX7_as_19 : decode cX7_as 19 = .ok (.ireturn, 1) := by decide +kernel
theorem dX7_as_20 : decode cX7_as 20 = .ok (.aload_n 0, 1) := by decide +kernel
theorem dX7_as_21 : decode cX7_as 21 = .ok (.iload_n 1, 1) := by decide +kernel
theorem dX7_as_22 : decode cX7_as 22 = .ok (.invokevirtual 213, 3) := by decide +kernel
theorem dX7_as_25 : decode cX7_as 25 = .ok (.istore_n 3, 1) := by decide +kernel
theorem dX7_as_26 : decode cX7_as 26 = .ok (.iload_n 2, 1) := by decide +kernel
theorem dX7_as_27 : decode cX7_as 27 = .ok (.ifCond .eq 28, 3) := by decide +kernel
theorem dX7_as_30 : decode cX7_as 30 = .ok (.iload_n 2, 1) := by decide +kernel
theorem dX7_as_31 : decode cX7_as 31 = .ok (.iload_n 3, 1) := by decide +kernel
theorem dX7_as_32 : decode cX7_as 32 = .ok (.if_icmp .eq 23, 3) := by decide +kernel
theorem dX7_as_35 : decode cX7_as 35 = .ok (.iload_n 2, 1) := by decide +kernel
theorem dX7_as_36 : decode cX7_as 36 = .ok (.iconst 1, 1) := by decide +kernel
theorem dX7_as_37 : decode cX7_as 37 = .ok (.if_icmp .ne 8, 3) := by decide +kernel
theorem dX7_as_40 : decode cX7_as 40 = .ok (.iload_n 3, 1) := by decide +kernel
theorem dX7_as_41 : decode cX7_as 41 = .ok (.iconst 4, 1) := by decide +kernel
theorem dX7_as_42 : decode cX7_as 42 = .ok (.if_icmp .lt 13, 3) := by decide +kernel
theorem dX7_as_45 : decode cX7_as 45 = .ok (.iload_n 2, 1) := by decide +kernel
theorem dX7_as_46 : decode cX7_as 46 = .ok (.iconst 4, 1) := by decide +kernel
theorem dX7_as_47 : decode cX7_as 47 = .ok (.if_icmp .ne 12, 3) := by decide +kernel
theorem dX7_as_50 : decode cX7_as 50 = .ok (.iload_n 3, 1) := by decide +kernel
theorem dX7_as_51 : decode cX7_as 51 = .ok (.iconst 5, 1) := by decide +kernel
theorem dX7_as_52 : decode cX7_as 52 = .ok (.if_icmp .ne 7, 3) := by decide +kernel
theorem dX7_as_55 : decode cX7_as 55 = .ok (.iconst 1, 1) := by decide +kernel
theorem dX7_as_56 : decode cX7_as 56 = .ok (.goto 4, 3) := by decide +kernel
theorem dX7_as_59 : decode cX7_as 59 = .ok (.iconst 0, 1) := by decide +kernel
theorem dX7_as_60 : decode cX7_as 60 = .ok (.istore 4, 2) := by decide +kernel
theorem dX7_as_62 : decode cX7_as 62 = .ok (.iload 4, 2) := by decide +kernel
theorem dX7_as_64 : decode cX7_as 64 = .ok (.ifCond .eq 11, 3) := by decide +kernel
theorem dX7_as_67 : decode cX7_as 67 = .ok (.aload_n 0, 1) := by decide +kernel
theorem dX7_as_68 : decode cX7_as 68 = .ok (.iload_n 1, 1) := by decide +kernel
theorem dX7_as_69 : decode cX7_as 69 = .ok (.invokevirtual 72, 3) := by decide +kernel
theorem dX7_as_72 : decode cX7_as 72 = .ok (.goto 8, 3) := by decide +kernel
theorem dX7_as_75 : decode cX7_as 75 = .ok (.aload_n 0, 1) := by decide +kernel
theorem dX7_as_76 : decode cX7_as 76 = .ok (.iconst 3, 1) := by decide +kernel
theorem dX7_as_77 : decode cX7_as 77 = .ok (.invokevirtual 68, 3) := by decide +kernel
theorem dX7_as_80 : decode cX7_as 80 = .ok (.ireturn, 1) := by decide +kernel
theorem dX7_begins_0 : decode cX7_begins 0 = .ok (.aload_n 0, 1) := by decide +kernel
theorem dX7_begins_1 : decode cX7_begins 1 = .ok (.getfield 216, 3) := by decide +kernel
theorem dX7_begins_4 : decode cX7_begins 4 = .ok (.bipush 16, 2) := by decide +kernel
theorem dX7_begins_6 : decode cX7_begins 6 = .ok (.if_icmp .ge 23, 3) := by decide +kernel
theorem dX7_begins_9 : decode cX7_begins 9 = .ok (.aload_n 0, 1) := by decide +kernel
theorem dX7_begins_10 : decode cX7_begins 10 = .ok (.getfield 41, 3) := by decide +kernel
theorem dX7_begins_13 : decode cX7_begins 13 = .ok (.aload_n 0, 1) := by decide +kernel
theorem dX7_begins_14 : decode cX7_begins 14 = .ok (.getfield 216, 3) := by decide +kernel
theorem dX7_begins_17 : decode cX7_begins 17 = .ok (.iload_n 1, 1) := by decide +kernel
theorem dX7_begins_18 : decode cX7_begins 18 = .ok (.iastore, 1) := by decide +kernel
theorem dX7_begins_19 : decode cX7_begins 19 = .ok (.aload_n 0, 1) := by decide +kernel
theorem dX7_begins_20 : decode cX7_begins 20 = .ok (.dup, 1) := by decide +kernel
theorem dX7_begins_21 : decode cX7_begins 21 = .ok (.getfield 216, 3) := by decide +kernel
theorem dX7_begins_24 : decode cX7_begins 24 = .ok (.iconst 1, 1) := by decide +kernel
theorem dX7_begins_25 : decode cX7_begins 25 = .ok (.iadd, 1) := by decide +kernel
theorem dX7_begins_26 : decode cX7_begins 26 = .ok (.putfield 216, 3) := by decide +kernel
theorem dX7_begins_29 : decode cX7_begins 29 = .ok (.return_, 1) := by decide +kernel
theorem dX7_silentMark_0 : decode cX7_silentMark 0 = .ok (.aload_n 0, 1) := by decide +kernel
theorem dX7_silentMark_1 : decode cX7_silentMark 1 = .ok (.iload_n 1, 1) := by decide +kernel
theorem dX7_silentMark_2 : decode cX7_silentMark 2 = .ok (.invokevirtual 213, 3) := by decide +kernel
theorem dX7_silentMark_5 : decode cX7_silentMark 5 = .ok (.istore_n 2, 1) := by decide +kernel
theorem dX7_silentMark_6 : decode cX7_silentMark 6 = .ok (.iload_n 2, 1) := by decide +kernel
theorem dX7_silentMark_7 : decode cX7_silentMark 7 = .ok (.iconst 1, 1) := by decide +kernel
theorem dX7_silentMark_8 : decode cX7_silentMark 8 = .ok (.if_icmp .eq 19, 3) := by decide +kernel
theorem dX7_silentMark_11 : decode cX7_silentMark 11 = .ok (.aload_n 0, 1) := by decide +kernel
theorem dX7_silentMark_12 : decode cX7_silentMark 12 = .ok (.iload_n 2, 1) := by decide +kernel
theorem dX7_silentMark_13 : decode cX7_silentMark 13 = .ok (.iconst 2, 1) := by decide +kernel
theorem dX7_silentMark_14 : decode cX7_silentMark 14 = .ok (.if_icmp .ne 8, 3) := by decide +kernel
theorem dX7_silentMark_17 : decode cX7_silentMark 17 = .ok (.bipush 24, 2) := by decide +kernel
theorem dX7_silentMark_19 : decode cX7_silentMark 19 = .ok (.goto 5, 3) := by decide +kernel
theorem dX7_silentMark_22 : decode cX7_silentMark 22 = .ok (.bipush 22, 2) := by decide +kernel
theorem dX7_silentMark_24 : decode cX7_silentMark 24 = .ok (.invokevirtual 219, 3) := by decide +kernel
theorem dX7_silentMark_27 : decode cX7_silentMark 27 = .ok (.aload_n 0, 1) := by decide +kernel
theorem dX7_silentMark_28 : decode cX7_silentMark 28 = .ok (.bipush 21, 2) := by decide +kernel
theorem dX7_silentMark_30 : decode cX7_silentMark 30 = .ok (.invokevirtual 219, 3) := by decide +kernel
theorem dX7_silentMark_33 : decode cX7_silentMark 33 = .ok (.aload_n 0, 1) := by decide +kernel
theorem dX7_silentMark_34 : decode cX7_silentMark 34 = .ok (.bipush 20, 2) := by decide +kernel
theorem dX7_silentMark_36 : decode cX7_silentMark 36 = .ok (.invokevirtual 219, 3) := by decide +kernel
theorem dX7_silentMark_39 : decode cX7_silentMark 39 = .ok (.iload_n 1, 1) := by decide +kernel
theorem dX7_silentMark_40 : decode cX7_silentMark 40 = .ok (.aload_n 0, 1) := by decide +kernel
theorem dX7_silentMark_41 : decode cX7_silentMark 41 = .ok (.getfield 25, 3) := by decide +kernel
theorem dX7_silentMark_44 : decode cX7_silentMark 44 = .ok (.bipush 9, 2) := by decide +kernel
theorem dX7_silentMark_46 : decode cX7_silentMark 46 = .ok (.iconst 4, 1) := by decide +kernel
theorem dX7_silentMark_47 : decode cX7_silentMark 47 = .ok (.iload_n 1, 1) := by decide +kernel
theorem dX7_silentMark_48 : decode cX7_silentMark 48 = .ok (.imul, 1) := by decide +kernel
theorem dX7_silentMark_49 : decode cX7_silentMark 49 = .ok (.iadd, 1) := by decide +kernel
theorem dX7_silentMark_50 : decode cX7_silentMark 50 = .ok (.iconst 1, 1) := by decide +kernel
theorem dX7_silentMark_51 : decode cX7_silentMark 51 = .ok (.iadd, 1) := by decide +kernel
theorem dX7_silentMark_52 : decode cX7_silentMark 52 = .ok (.iaload, 1) := by decide +kernel
theorem dX7_silentMark_53 : decode cX7_silentMark 53 = .ok (.iadd, 1) := by decide +kernel
theorem dX7_silentMark_54 : decode cX7_silentMark 54 = .ok (.istore_n 3, 1) := by decide +kernel
theorem dX7_silentMark_55 : decode cX7_silentMark 55 = .ok (.iload_n 2, 1) := by decide +kernel
theorem dX7_silentMark_56 : decode cX7_silentMark 56 = .ok (.iconst 2, 1) := by decide +kernel
theorem dX7_silentMark_57 : decode cX7_silentMark 57 = .ok (.if_icmp .ne 9, 3) := by decide +kernel
theorem dX7_silentMark_60 : decode cX7_silentMark 60 = .ok (.iconst 2, 1) := by decide +kernel
theorem dX7_silentMark_61 : decode cX7_silentMark 61 = .ok (.iload_n 3, 1) := by decide +kernel
theorem dX7_silentMark_62 : decode cX7_silentMark 62 = .ok (.imul, 1) := by decide +kernel
theorem dX7_silentMark_63 : decode cX7_silentMark 63 = .ok (.goto 17, 3) := by decide +kernel
theorem dX7_silentMark_66 : decode cX7_silentMark 66 = .ok (.iload_n 2, 1) := by decide +kernel
theorem dX7_silentMark_67 : decode cX7_silentMark 67 = .ok (.iconst 3, 1) := by decide +kernel
theorem dX7_silentMark_68 : decode cX7_silentMark 68 = .ok (.if_icmp .ne 11, 3) := by decide +kernel
theorem dX7_silentMark_71 : decode cX7_silentMark 71 = .ok (.iload_n 3, 1) := by decide +kernel
theorem dX7_silentMark_72 : decode cX7_silentMark 72 = .ok (.sipush 1000, 3) := by decide +kernel
theorem dX7_silentMark_75 : decode cX7_silentMark 75 = .ok (.isub, 1) := by decide +kernel
theorem dX7_silentMark_76 : decode cX7_silentMark 76 = .ok (.goto 4, 3) := by decide +kernel
theorem dX7_silentMark_79 : decode cX7_silentMark 79 = .ok (.iload_n 3, 1) := by decide +kernel
theorem dX7_silentMark_80 : decode cX7_silentMark 80 = .ok (.ireturn, 1) := by decide +kernel
theorem dX7_mistakenSize_0 : decode cX7_mistakenSize 0 = .ok (.aload_n 0, 1) := by decide +kernel
theorem dX7_mistakenSize_1 : decode cX7_mistakenSize 1 = .ok (.iload_n 1, 1) := by decide +kernel
theorem dX7_mistakenSize_2 : decode cX7_mistakenSize 2 = .ok (.invokevirtual 213, 3) := by decide +kernel
theorem dX7_mistakenSize_5 : decode cX7_mistakenSize 5 = .ok (.iconst 5, 1) := by decide +kernel
theorem dX7_mistakenSize_6 : decode cX7_mistakenSize 6 = .ok (.if_icmp .ne 7, 3) := by decide +kernel
theorem dX7_mistakenSize_9 : decode cX7_mistakenSize 9 = .ok (.iconst 1, 1) := by decide +kernel
theorem dX7_mistakenSize_10 : decode cX7_mistakenSize 10 = .ok (.goto 4, 3) := by decide +kernel
theorem dX7_mistakenSize_13 : decode cX7_mistakenSize 13 = .ok (.iconst 0, 1) := by decide +kernel
theorem dX7_mistakenSize_14 : decode cX7_mistakenSize 14 = .ok (.istore_n 2, 1) := by decide +kernel
theorem dX7_mistakenSize_15 : decode cX7_mistakenSize 15 = .ok (.iload_n 2, 1) := by decide +kernel
theorem dX7_mistakenSize_16 : decode cX7_mistakenSize 16 = .ok (.ifCond .eq 9, 3) := by decide +kernel
theorem dX7_mistakenSize_19 : decode cX7_mistakenSize 19 = .ok (.aload_n 0, 1) := by decide +kernel
theorem dX7_mistakenSize_20 : decode cX7_mistakenSize 20 = .ok (.bipush 14, 2) := by decide +kernel
theorem dX7_mistakenSize_22 : decode cX7_mistakenSize 22 = .ok (.invokevirtual 219, 3) := by decide +kernel
theorem dX7_mistakenSize_25 : decode cX7_mistakenSize 25 = .ok (.aload_n 0, 1) := by decide +kernel
theorem dX7_mistakenSize_26 : decode cX7_mistakenSize 26 = .ok (.bipush 13, 2) := by decide +kernel
theorem dX7_mistakenSize_28 : decode cX7_mistakenSize 28 = .ok (.invokevirtual 219, 3) := by decide +kernel
theorem dX7_mistakenSize_31 : decode cX7_mistakenSize 31 = .ok (.aload_n 0, 1) := by decide +kernel
theorem dX7_mistakenSize_32 : decode cX7_mistakenSize 32 = .ok (.bipush 10, 2) := by decide +kernel
theorem dX7_mistakenSize_34 : decode cX7_mistakenSize 34 = .ok (.invokevirtual 219, 3) := by decide +kernel
theorem dX7_mistakenSize_37 : decode cX7_mistakenSize 37 = .ok (.aload_n 0, 1) := by decide +kernel
theorem dX7_mistakenSize_38 : decode cX7_mistakenSize 38 = .ok (.getfield 25, 3) := by decide +kernel
theorem dX7_mistakenSize_41 : decode cX7_mistakenSize 41 = .ok (.bipush 9, 2) := by decide +kernel
theorem dX7_mistakenSize_43 : decode cX7_mistakenSize 43 = .ok (.iconst 4, 1) := by decide +kernel
theorem dX7_mistakenSize_44 : decode cX7_mistakenSize 44 = .ok (.iload_n 1, 1) := by decide +kernel
theorem dX7_mistakenSize_45 : decode cX7_mistakenSize 45 = .ok (.imul, 1) := by decide +kernel
theorem dX7_mistakenSize_46 : decode cX7_mistakenSize 46 = .ok (.iadd, 1) := by decide +kernel
theorem dX7_mistakenSize_47 : decode cX7_mistakenSize 47 = .ok (.iconst 3, 1) := by decide +kernel
theorem dX7_mistakenSize_48 : decode cX7_mistakenSize 48 = .ok (.iadd, 1) := by decide +kernel
theorem dX7_mistakenSize_49 : decode cX7_mistakenSize 49 = .ok (.iaload, 1) := by decide +kernel
theorem dX7_mistakenSize_50 : decode cX7_mistakenSize 50 = .ok (.bipush 100, 2) := by decide +kernel
theorem dX7_mistakenSize_52 : decode cX7_mistakenSize 52 = .ok (.isub, 1) := by decide +kernel
theorem dX7_mistakenSize_53 : decode cX7_mistakenSize 53 = .ok (.istore_n 3, 1) := by decide +kernel
theorem dX7_mistakenSize_54 : decode cX7_mistakenSize 54 = .ok (.iload_n 2, 1) := by decide +kernel
theorem dX7_mistakenSize_55 : decode cX7_mistakenSize 55 = .ok (.ifCond .eq 9, 3) := by decide +kernel
theorem dX7_mistakenSize_58 : decode cX7_mistakenSize 58 = .ok (.iconst 2, 1) := by decide +kernel
theorem dX7_mistakenSize_59 : decode cX7_mistakenSize 59 = .ok (.iload_n 3, 1) := by decide +kernel
theorem dX7_mistakenSize_60 : decode cX7_mistakenSize 60 = .ok (.imul, 1) := by decide +kernel
theorem dX7_mistakenSize_61 : decode cX7_mistakenSize 61 = .ok (.goto 4, 3) := by decide +kernel
theorem dX7_mistakenSize_64 : decode cX7_mistakenSize 64 = .ok (.iload_n 3, 1) := by decide +kernel
theorem dX7_mistakenSize_65 : decode cX7_mistakenSize 65 = .ok (.ireturn, 1) := by decide +kernel
theorem dX7_silentSize_0 : decode cX7_silentSize 0 = .ok (.aload_n 0, 1) := by decide +kernel
theorem dX7_silentSize_1 : decode cX7_silentSize 1 = .ok (.iload_n 1, 1) := by decide +kernel
theorem dX7_silentSize_2 : decode cX7_silentSize 2 = .ok (.invokevirtual 213, 3) := by decide +kernel
theorem dX7_silentSize_5 : decode cX7_silentSize 5 = .ok (.iconst 2, 1) := by decide +kernel
theorem dX7_silentSize_6 : decode cX7_silentSize 6 = .ok (.if_icmp .ne 7, 3) := by decide +kernel
theorem dX7_silentSize_9 : decode cX7_silentSize 9 = .ok (.iconst 1, 1) := by decide +kernel
theorem dX7_silentSize_10 : decode cX7_silentSize 10 = .ok (.goto 4, 3) := by decide +kernel
theorem dX7_silentSize_13 : decode cX7_silentSize 13 = .ok (.iconst 0, 1) := by decide +kernel
theorem dX7_silentSize_14 : decode cX7_silentSize 14 = .ok (.istore_n 2, 1) := by decide +kernel
theorem dX7_silentSize_15 : decode cX7_silentSize 15 = .ok (.iload_n 2, 1) := by decide +kernel
theorem dX7_silentSize_16 : decode cX7_silentSize 16 = .ok (.ifCond .eq 9, 3) := by decide +kernel
theorem dX7_silentSize_19 : decode cX7_silentSize 19 = .ok (.aload_n 0, 1) := by decide +kernel
theorem dX7_silentSize_20 : decode cX7_silentSize 20 = .ok (.bipush 12, 2) := by decide +kernel
theorem dX7_silentSize_22 : decode cX7_silentSize 22 = .ok (.invokevirtual 219, 3) := by decide +kernel
theorem dX7_silentSize_25 : decode cX7_silentSize 25 = .ok (.aload_n 0, 1) := by decide +kernel
theorem dX7_silentSize_26 : decode cX7_silentSize 26 = .ok (.bipush 11, 2) := by decide +kernel
theorem dX7_silentSize_28 : decode cX7_silentSize 28 = .ok (.invokevirtual 219, 3) := by decide +kernel
theorem dX7_silentSize_31 : decode cX7_silentSize 31 = .ok (.aload_n 0, 1) := by decide +kernel
theorem dX7_silentSize_32 : decode cX7_silentSize 32 = .ok (.bipush 10, 2) := by decide +kernel
theorem dX7_silentSize_34 : decode cX7_silentSize 34 = .ok (.invokevirtual 219, 3) := by decide +kernel
theorem dX7_silentSize_37 : decode cX7_silentSize 37 = .ok (.aload_n 0, 1) := by decide +kernel
theorem dX7_silentSize_38 : decode cX7_silentSize 38 = .ok (.getfield 25, 3) := by decide +kernel
theorem dX7_silentSize_41 : decode cX7_silentSize 41 = .ok (.bipush 9, 2) := by decide +kernel
theorem dX7_silentSize_43 : decode cX7_silentSize 43 = .ok (.iconst 4, 1) := by decide +kernel
theorem dX7_silentSize_44 : decode cX7_silentSize 44 = .ok (.iload_n 1, 1) := by decide +kernel
theorem dX7_silentSize_45 : decode cX7_silentSize 45 = .ok (.imul, 1) := by decide +kernel
theorem dX7_silentSize_46 : decode cX7_silentSize 46 = .ok (.iadd, 1) := by decide +kernel
theorem dX7_silentSize_47 : decode cX7_silentSize 47 = .ok (.iconst 3, 1) := by decide +kernel
theorem dX7_silentSize_48 : decode cX7_silentSize 48 = .ok (.iadd, 1) := by decide +kernel
theorem dX7_silentSize_49 : decode cX7_silentSize 49 = .ok (.iaload, 1) := by decide +kernel
theorem dX7_silentSize_50 : decode cX7_silentSize 50 = .ok (.aload_n 0, 1) := by decide +kernel
theorem dX7_silentSize_51 : decode cX7_silentSize 51 = .ok (.iload_n 1, 1) := by decide +kernel
theorem dX7_silentSize_52 : decode cX7_silentSize 52 = .ok (.invokevirtual 222, 3) := by decide +kernel
theorem dX7_silentSize_55 : decode cX7_silentSize 55 = .ok (.iadd, 1) := by decide +kernel
theorem dX7_silentSize_56 : decode cX7_silentSize 56 = .ok (.istore_n 3, 1) := by decide +kernel
theorem dX7_silentSize_57 : decode cX7_silentSize 57 = .ok (.iload_n 2, 1) := by decide +kernel
theorem dX7_silentSize_58 : decode cX7_silentSize 58 = .ok (.ifCond .eq 8, 3) := by decide +kernel
theorem dX7_silentSize_61 : decode cX7_silentSize 61 = .ok (.iload_n 3, 1) := by decide +kernel
theorem dX7_silentSize_62 : decode cX7_silentSize 62 = .ok (.ineg, 1) := by decide +kernel
theorem dX7_silentSize_63 : decode cX7_silentSize 63 = .ok (.goto 4, 3) := by decide +kernel
theorem dX7_silentSize_66 : decode cX7_silentSize 66 = .ok (.iload_n 3, 1) := by decide +kernel
theorem dX7_silentSize_67 : decode cX7_silentSize 67 = .ok (.ireturn, 1) := by decide +kernel
theorem dX7_mistakenMark_0 : decode cX7_mistakenMark 0 = .ok (.aload_n 0, 1) := by decide +kernel
theorem dX7_mistakenMark_1 : decode cX7_mistakenMark 1 = .ok (.bipush 23, 2) := by decide +kernel
theorem dX7_mistakenMark_3 : decode cX7_mistakenMark 3 = .ok (.invokevirtual 219, 3) := by decide +kernel
theorem dX7_mistakenMark_6 : decode cX7_mistakenMark 6 = .ok (.aload_n 0, 1) := by decide +kernel
theorem dX7_mistakenMark_7 : decode cX7_mistakenMark 7 = .ok (.bipush 20, 2) := by decide +kernel
theorem dX7_mistakenMark_9 : decode cX7_mistakenMark 9 = .ok (.invokevirtual 219, 3) := by decide +kernel
theorem dX7_mistakenMark_12 : decode cX7_mistakenMark 12 = .ok (.iload_n 1, 1) := by decide +kernel
theorem dX7_mistakenMark_13 : decode cX7_mistakenMark 13 = .ok (.aload_n 0, 1) := by decide +kernel
theorem dX7_mistakenMark_14 : decode cX7_mistakenMark 14 = .ok (.iload_n 1, 1) := by decide +kernel
theorem dX7_mistakenMark_15 : decode cX7_mistakenMark 15 = .ok (.invokevirtual 225, 3) := by decide +kernel
theorem dX7_mistakenMark_18 : decode cX7_mistakenMark 18 = .ok (.isub, 1) := by decide +kernel
theorem dX7_mistakenMark_19 : decode cX7_mistakenMark 19 = .ok (.ireturn, 1) := by decide +kernel
theorem dX7_ask_0 : decode cX7_ask 0 = .ok (.aload_n 0, 1) := by decide +kernel
theorem dX7_ask_1 : decode cX7_ask 1 = .ok (.iload_n 1, 1) := by decide +kernel
theorem dX7_ask_2 : decode cX7_ask 2 = .ok (.invokevirtual 161, 3) := by decide +kernel
theorem dX7_ask_5 : decode cX7_ask 5 = .ok (.ifCond .eq 12, 3) := by decide +kernel
theorem dX7_ask_8 : decode cX7_ask 8 = .ok (.iload_n 2, 1) := by decide +kernel
theorem dX7_ask_9 : decode cX7_ask 9 = .ok (.iconst 0, 1) := by decide +kernel
theorem dX7_ask_10 : decode cX7_ask 10 = .ok (.iconst 1, 1) := by decide +kernel
theorem dX7_ask_11 : decode cX7_ask 11 = .ok (.invokestatic 59, 3) := by decide +kernel
theorem dX7_ask_14 : decode cX7_ask 14 = .ok (.ifCond .ne 6, 3) := by decide +kernel
theorem dX7_ask_17 : decode cX7_ask 17 = .ok (.ldc 67, 2) := by decide +kernel
theorem dX7_ask_19 : decode cX7_ask 19 = .ok (.ireturn, 1) := by decide +kernel
theorem dX7_ask_20 : decode cX7_ask 20 = .ok (.aload_n 0, 1) := by decide +kernel
theorem dX7_ask_21 : decode cX7_ask 21 = .ok (.iconst 0, 1) := by decide +kernel
theorem dX7_ask_22 : decode cX7_ask 22 = .ok (.putfield 216, 3) := by decide +kernel
theorem dX7_ask_25 : decode cX7_ask 25 = .ok (.aload_n 0, 1) := by decide +kernel
theorem dX7_ask_26 : decode cX7_ask 26 = .ok (.iload_n 1, 1) := by decide +kernel
theorem dX7_ask_27 : decode cX7_ask 27 = .ok (.invokevirtual 213, 3) := by decide +kernel
theorem dX7_ask_30 : decode cX7_ask 30 = .ok (.iconst 4, 1) := by decide +kernel
theorem dX7_ask_31 : decode cX7_ask 31 = .ok (.if_icmp .lt 7, 3) := by decide +kernel
theorem dX7_ask_34 : decode cX7_ask 34 = .ok (.iconst 1, 1) := by decide +kernel
theorem dX7_ask_35 : decode cX7_ask 35 = .ok (.goto 4, 3) := by decide +kernel
theorem dX7_ask_38 : decode cX7_ask 38 = .ok (.iconst 0, 1) := by decide +kernel
theorem dX7_ask_39 : decode cX7_ask 39 = .ok (.istore_n 3, 1) := by decide +kernel
theorem dX7_ask_40 : decode cX7_ask 40 = .ok (.iload_n 2, 1) := by decide +kernel
theorem dX7_ask_41 : decode cX7_ask 41 = .ok (.ifCond .ne 21, 3) := by decide +kernel
theorem dX7_ask_44 : decode cX7_ask 44 = .ok (.iload_n 3, 1) := by decide +kernel
theorem dX7_ask_45 : decode cX7_ask 45 = .ok (.ifCond .eq 11, 3) := by decide +kernel
theorem dX7_ask_48 : decode cX7_ask 48 = .ok (.aload_n 0, 1) := by decide +kernel
theorem dX7_ask_49 : decode cX7_ask 49 = .ok (.iload_n 1, 1) := by decide +kernel
theorem dX7_ask_50 : decode cX7_ask 50 = .ok (.invokevirtual 225, 3) := by decide +kernel
theorem dX7_ask_53 : decode cX7_ask 53 = .ok (.goto 8, 3) := by decide +kernel
theorem dX7_ask_56 : decode cX7_ask 56 = .ok (.aload_n 0, 1) := by decide +kernel
theorem dX7_ask_57 : decode cX7_ask 57 = .ok (.iload_n 1, 1) := by decide +kernel
theorem dX7_ask_58 : decode cX7_ask 58 = .ok (.invokevirtual 228, 3) := by decide +kernel
theorem dX7_ask_61 : decode cX7_ask 61 = .ok (.ireturn, 1) := by decide +kernel
theorem dX7_ask_62 : decode cX7_ask 62 = .ok (.iload_n 3, 1) := by decide +kernel
theorem dX7_ask_63 : decode cX7_ask 63 = .ok (.ifCond .eq 11, 3) := by decide +kernel
theorem dX7_ask_66 : decode cX7_ask 66 = .ok (.aload_n 0, 1) := by decide +kernel
theorem dX7_ask_67 : decode cX7_ask 67 = .ok (.iload_n 1, 1) := by decide +kernel
theorem dX7_ask_68 : decode cX7_ask 68 = .ok (.invokevirtual 231, 3) := by decide +kernel
theorem dX7_ask_71 : decode cX7_ask 71 = .ok (.goto 8, 3) := by decide +kernel
theorem dX7_ask_74 : decode cX7_ask 74 = .ok (.aload_n 0, 1) := by decide +kernel
theorem dX7_ask_75 : decode cX7_ask 75 = .ok (.iload_n 1, 1) := by decide +kernel
theorem dX7_ask_76 : decode cX7_ask 76 = .ok (.invokevirtual 222, 3) := by decide +kernel
theorem dX7_ask_79 : decode cX7_ask 79 = .ok (.ireturn, 1) := by decide +kernel
theorem dX7_trace_0 : decode cX7_trace 0 = .ok (.iload_n 1, 1) := by decide +kernel
theorem dX7_trace_1 : decode cX7_trace 1 = .ok (.iconst 0, 1) := by decide +kernel
theorem dX7_trace_2 : decode cX7_trace 2 = .ok (.aload_n 0, 1) := by decide +kernel
theorem dX7_trace_3 : decode cX7_trace 3 = .ok (.getfield 216, 3) := by decide +kernel
theorem dX7_trace_6 : decode cX7_trace 6 = .ok (.iconst 1, 1) := by decide +kernel
theorem dX7_trace_7 : decode cX7_trace 7 = .ok (.isub, 1) := by decide +kernel
theorem dX7_trace_8 : decode cX7_trace 8 = .ok (.invokestatic 59, 3) := by decide +kernel
theorem dX7_trace_11 : decode cX7_trace 11 = .ok (.ifCond .eq 12, 3) := by decide +kernel
theorem dX7_trace_14 : decode cX7_trace 14 = .ok (.aload_n 0, 1) := by decide +kernel
theorem dX7_trace_15 : decode cX7_trace 15 = .ok (.getfield 41, 3) := by decide +kernel
theorem dX7_trace_18 : decode cX7_trace 18 = .ok (.iload_n 1, 1) := by decide +kernel
theorem dX7_trace_19 : decode cX7_trace 19 = .ok (.iaload, 1) := by decide +kernel
theorem dX7_trace_20 : decode cX7_trace 20 = .ok (.goto 5, 3) := by decide +kernel
theorem dX7_trace_23 : decode cX7_trace 23 = .ok (.ldc 53, 2) := by decide +kernel
theorem dX7_trace_25 : decode cX7_trace 25 = .ok (.ireturn, 1) := by decide +kernel
theorem dX7_count_0 : decode cX7_count 0 = .ok (.iload_n 1, 1) := by decide +kernel
theorem dX7_count_1 : decode cX7_count 1 = .ok (.ifCond .ne 37, 3) := by decide +kernel
theorem dX7_count_4 : decode cX7_count 4 = .ok (.iconst 0, 1) := by decide +kernel
theorem dX7_count_5 : decode cX7_count 5 = .ok (.istore_n 2, 1) := by decide +kernel
theorem dX7_count_6 : decode cX7_count 6 = .ok (.iconst 0, 1) := by decide +kernel
theorem dX7_count_7 : decode cX7_count 7 = .ok (.istore_n 3, 1) := by decide +kernel
theorem dX7_count_8 : decode cX7_count 8 = .ok (.iload_n 3, 1) := by decide +kernel
theorem dX7_count_9 : decode cX7_count 9 = .ok (.bipush 8, 2) := by decide +kernel
theorem dX7_count_11 : decode cX7_count 11 = .ok (.if_icmp .ge 25, 3) := by decide +kernel
theorem dX7_count_14 : decode cX7_count 14 = .ok (.iload_n 2, 1) := by decide +kernel
theorem dX7_count_15 : decode cX7_count 15 = .ok (.aload_n 0, 1) := by decide +kernel
theorem dX7_count_16 : decode cX7_count 16 = .ok (.iload_n 3, 1) := by decide +kernel
theorem dX7_count_17 : decode cX7_count 17 = .ok (.invokevirtual 75, 3) := by decide +kernel
theorem dX7_count_20 : decode cX7_count 20 = .ok (.ifCond .eq 7, 3) := by decide +kernel
theorem dX7_count_23 : decode cX7_count 23 = .ok (.iconst 0, 1) := by decide +kernel
theorem dX7_count_24 : decode cX7_count 24 = .ok (.goto 4, 3) := by decide +kernel
theorem dX7_count_27 : decode cX7_count 27 = .ok (.iconst 1, 1) := by decide +kernel
theorem dX7_count_28 : decode cX7_count 28 = .ok (.iadd, 1) := by decide +kernel
theorem dX7_count_29 : decode cX7_count 29 = .ok (.istore_n 2, 1) := by decide +kernel
theorem dX7_count_30 : decode cX7_count 30 = .ok (.iinc 3 1, 3) := by decide +kernel
theorem dX7_count_33 : decode cX7_count 33 = .ok (.goto (-25), 3) := by decide +kernel
theorem dX7_count_36 : decode cX7_count 36 = .ok (.iload_n 2, 1) := by decide +kernel
theorem dX7_count_37 : decode cX7_count 37 = .ok (.ireturn, 1) := by decide +kernel
theorem dX7_count_38 : decode cX7_count 38 = .ok (.iload_n 1, 1) := by decide +kernel
theorem dX7_count_39 : decode cX7_count 39 = .ok (.iconst 1, 1) := by decide +kernel
theorem dX7_count_40 : decode cX7_count 40 = .ok (.bipush 8, 2) := by decide +kernel
theorem dX7_count_42 : decode cX7_count 42 = .ok (.invokestatic 59, 3) := by decide +kernel
theorem dX7_count_45 : decode cX7_count 45 = .ok (.ifCond .ne 6, 3) := by decide +kernel
theorem dX7_count_48 : decode cX7_count 48 = .ok (.ldc 67, 2) := by decide +kernel
theorem dX7_count_50 : decode cX7_count 50 = .ok (.ireturn, 1) := by decide +kernel
theorem dX7_count_51 : decode cX7_count 51 = .ok (.iload_n 1, 1) := by decide +kernel
theorem dX7_count_52 : decode cX7_count 52 = .ok (.iconst 1, 1) := by decide +kernel
theorem dX7_count_53 : decode cX7_count 53 = .ok (.if_icmp .ne 13, 3) := by decide +kernel
theorem dX7_count_56 : decode cX7_count 56 = .ok (.aload_n 0, 1) := by decide +kernel
theorem dX7_count_57 : decode cX7_count 57 = .ok (.getfield 25, 3) := by decide +kernel
theorem dX7_count_60 : decode cX7_count 60 = .ok (.bipush 7, 2) := by decide +kernel
theorem dX7_count_62 : decode cX7_count 62 = .ok (.iaload, 1) := by decide +kernel
theorem dX7_count_63 : decode cX7_count 63 = .ok (.goto 96, 3) := by decide +kernel
theorem dX7_count_66 : decode cX7_count 66 = .ok (.iload_n 1, 1) := by decide +kernel
theorem dX7_count_67 : decode cX7_count 67 = .ok (.iconst 2, 1) := by decide +kernel
theorem dX7_count_68 : decode cX7_count 68 = .ok (.if_icmp .ne 13, 3) := by decide +kernel
theorem dX7_count_71 : decode cX7_count 71 = .ok (.aload_n 0, 1) := by decide +kernel
theorem dX7_count_72 : decode cX7_count 72 = .ok (.getfield 25, 3) := by decide +kernel
theorem dX7_count_75 : decode cX7_count 75 = .ok (.bipush 8, 2) := by decide +kernel
theorem dX7_count_77 : decode cX7_count 77 = .ok (.iaload, 1) := by decide +kernel
theorem dX7_count_78 : decode cX7_count 78 = .ok (.goto 81, 3) := by decide +kernel
theorem dX7_count_81 : decode cX7_count 81 = .ok (.iload_n 1, 1) := by decide +kernel
theorem dX7_count_82 : decode cX7_count 82 = .ok (.iconst 3, 1) := by decide +kernel
theorem dX7_count_83 : decode cX7_count 83 = .ok (.if_icmp .ne 12, 3) := by decide +kernel
theorem dX7_count_86 : decode cX7_count 86 = .ok (.aload_n 0, 1) := by decide +kernel
theorem dX7_count_87 : decode cX7_count 87 = .ok (.getfield 25, 3) := by decide +kernel
theorem dX7_count_90 : decode cX7_count 90 = .ok (.iconst 3, 1) := by decide +kernel
theorem dX7_count_91 : decode cX7_count 91 = .ok (.iaload, 1) := by decide +kernel
theorem dX7_count_92 : decode cX7_count 92 = .ok (.goto 67, 3) := by decide +kernel
theorem dX7_count_95 : decode cX7_count 95 = .ok (.iload_n 1, 1) := by decide +kernel
theorem dX7_count_96 : decode cX7_count 96 = .ok (.iconst 4, 1) := by decide +kernel
theorem dX7_count_97 : decode cX7_count 97 = .ok (.if_icmp .ne 12, 3) := by decide +kernel
theorem dX7_count_100 : decode cX7_count 100 = .ok (.aload_n 0, 1) := by decide +kernel
theorem dX7_count_101 : decode cX7_count 101 = .ok (.getfield 25, 3) := by decide +kernel
theorem dX7_count_104 : decode cX7_count 104 = .ok (.iconst 5, 1) := by decide +kernel
theorem dX7_count_105 : decode cX7_count 105 = .ok (.iaload, 1) := by decide +kernel
theorem dX7_count_106 : decode cX7_count 106 = .ok (.goto 53, 3) := by decide +kernel
theorem dX7_count_109 : decode cX7_count 109 = .ok (.iload_n 1, 1) := by decide +kernel
theorem dX7_count_110 : decode cX7_count 110 = .ok (.iconst 5, 1) := by decide +kernel
theorem dX7_count_111 : decode cX7_count 111 = .ok (.if_icmp .ne 13, 3) := by decide +kernel
theorem dX7_count_114 : decode cX7_count 114 = .ok (.aload_n 0, 1) := by decide +kernel
theorem dX7_count_115 : decode cX7_count 115 = .ok (.getfield 25, 3) := by decide +kernel
theorem dX7_count_118 : decode cX7_count 118 = .ok (.bipush 6, 2) := by decide +kernel
theorem dX7_count_120 : decode cX7_count 120 = .ok (.iaload, 1) := by decide +kernel
theorem dX7_count_121 : decode cX7_count 121 = .ok (.goto 38, 3) := by decide +kernel
theorem dX7_count_124 : decode cX7_count 124 = .ok (.iload_n 1, 1) := by decide +kernel
theorem dX7_count_125 : decode cX7_count 125 = .ok (.bipush 6, 2) := by decide +kernel
theorem dX7_count_127 : decode cX7_count 127 = .ok (.if_icmp .ne 15, 3) := by decide +kernel
theorem dX7_count_130 : decode cX7_count 130 = .ok (.aload_n 0, 1) := by decide +kernel
theorem dX7_count_131 : decode cX7_count 131 = .ok (.getfield 25, 3) := by decide +kernel
theorem dX7_count_134 : decode cX7_count 134 = .ok (.iconst 4, 1) := by decide +kernel
theorem dX7_count_135 : decode cX7_count 135 = .ok (.iaload, 1) := by decide +kernel
theorem dX7_count_136 : decode cX7_count 136 = .ok (.invokestatic 168, 3) := by decide +kernel
theorem dX7_count_139 : decode cX7_count 139 = .ok (.goto 20, 3) := by decide +kernel
theorem dX7_count_142 : decode cX7_count 142 = .ok (.iload_n 1, 1) := by decide +kernel
theorem dX7_count_143 : decode cX7_count 143 = .ok (.bipush 7, 2) := by decide +kernel
theorem dX7_count_145 : decode cX7_count 145 = .ok (.if_icmp .ne 10, 3) := by decide +kernel
theorem dX7_count_148 : decode cX7_count 148 = .ok (.aload_n 0, 1) := by decide +kernel
theorem dX7_count_149 : decode cX7_count 149 = .ok (.getfield 141, 3) := by decide +kernel
theorem dX7_count_152 : decode cX7_count 152 = .ok (.goto 7, 3) := by decide +kernel
theorem dX7_count_155 : decode cX7_count 155 = .ok (.aload_n 0, 1) := by decide +kernel
theorem dX7_count_156 : decode cX7_count 156 = .ok (.getfield 85, 3) := by decide +kernel
theorem dX7_count_159 : decode cX7_count 159 = .ok (.ireturn, 1) := by decide +kernel
theorem dX7_status_0 : decode cX7_status 0 = .ok (.aload_n 0, 1) := by decide +kernel
theorem dX7_status_1 : decode cX7_status 1 = .ok (.getfield 54, 3) := by decide +kernel
theorem dX7_status_4 : decode cX7_status 4 = .ok (.ireturn, 1) := by decide +kernel
