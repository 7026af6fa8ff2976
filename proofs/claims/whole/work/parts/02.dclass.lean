theorem dX0_init_0 : decode cX0_init 0 = .ok (.aload_n 0, 1) := by decide +kernel
theorem dX0_init_1 : decode cX0_init 1 = .ok (.invokespecial 3, 3) := by decide +kernel
theorem dX0_init_4 : decode cX0_init 4 = .ok (.aload_n 0, 1) := by decide +kernel
theorem dX0_init_5 : decode cX0_init 5 = .ok (.bipush 24, 2) := by decide +kernel
theorem dX0_init_7 : decode cX0_init 7 = .ok (.newarray .int, 2) := by decide +kernel
theorem dX0_init_9 : decode cX0_init 9 = .ok (.putfield 9, 3) := by decide +kernel
theorem dX0_init_12 : decode cX0_init 12 = .ok (.aload_n 0, 1) := by decide +kernel
theorem dX0_init_13 : decode cX0_init 13 = .ok (.bipush 24, 2) := by decide +kernel
theorem dX0_init_15 : decode cX0_init 15 = .ok (.newarray .int, 2) := by decide +kernel
theorem dX0_init_17 : decode cX0_init 17 = .ok (.putfield 15, 3) := by decide +kernel
theorem dX0_init_20 : decode cX0_init 20 = .ok (.aload_n 0, 1) := by decide +kernel
theorem dX0_init_21 : decode cX0_init 21 = .ok (.bipush 24, 2) := by decide +kernel
theorem dX0_init_23 : decode cX0_init 23 = .ok (.newarray .int, 2) := by decide +kernel
theorem dX0_init_25 : decode cX0_init 25 = .ok (.putfield 18, 3) := by decide +kernel
theorem dX0_init_28 : decode cX0_init 28 = .ok (.return_, 1) := by decide +kernel
theorem dX0_keep_0 : decode cX0_keep 0 = .ok (.aload_n 0, 1) := by decide +kernel
theorem dX0_keep_1 : decode cX0_keep 1 = .ok (.getfield 21, 3) := by decide +kernel
theorem dX0_keep_4 : decode cX0_keep 4 = .ok (.aload_n 0, 1) := by decide +kernel
theorem dX0_keep_5 : decode cX0_keep 5 = .ok (.getfield 25, 3) := by decide +kernel
theorem dX0_keep_8 : decode cX0_keep 8 = .ok (.iadd, 1) := by decide +kernel
theorem dX0_keep_9 : decode cX0_keep 9 = .ok (.bipush 24, 2) := by decide +kernel
theorem dX0_keep_11 : decode cX0_keep 11 = .ok (.irem, 1) := by decide +kernel
theorem dX0_keep_12 : decode cX0_keep 12 = .ok (.istore 4, 2) := by decide +kernel
theorem dX0_keep_14 : decode cX0_keep 14 = .ok (.aload_n 0, 1) := by decide +kernel
theorem dX0_keep_15 : decode cX0_keep 15 = .ok (.getfield 9, 3) := by decide +kernel
theorem dX0_keep_18 : decode cX0_keep 18 = .ok (.iload 4, 2) := by decide +kernel
theorem dX0_keep_20 : decode cX0_keep 20 = .ok (.iload_n 1, 1) := by decide +kernel
theorem dX0_keep_21 : decode cX0_keep 21 = .ok (.iastore, 1) := by decide +kernel
theorem dX0_keep_22 : decode cX0_keep 22 = .ok (.aload_n 0, 1) := by decide +kernel
theorem dX0_keep_23 : decode cX0_keep 23 = .ok (.getfield 15, 3) := by decide +kernel
theorem dX0_keep_26 : decode cX0_keep 26 = .ok (.iload 4, 2) := by decide +kernel
theorem dX0_keep_28 : decode cX0_keep 28 = .ok (.iload_n 2, 1) := by decide +kernel
theorem dX0_keep_29 : decode cX0_keep 29 = .ok (.iastore, 1) := by decide +kernel
theorem dX0_keep_30 : decode cX0_keep 30 = .ok (.aload_n 0, 1) := by decide +kernel
theorem dX0_keep_31 : decode cX0_keep 31 = .ok (.getfield 18, 3) := by decide +kernel
theorem dX0_keep_34 : decode cX0_keep 34 = .ok (.iload 4, 2) := by decide +kernel
theorem dX0_keep_36 : decode cX0_keep 36 = .ok (.iload_n 3, 1) := by decide +kernel
theorem dX0_keep_37 : decode cX0_keep 37 = .ok (.iastore, 1) := by decide +kernel
theorem dX0_keep_38 : decode cX0_keep 38 = .ok (.aload_n 0, 1) := by decide +kernel
theorem dX0_keep_39 : decode cX0_keep 39 = .ok (.getfield 25, 3) := by decide +kernel
theorem dX0_keep_42 : decode cX0_keep 42 = .ok (.bipush 24, 2) := by decide +kernel
theorem dX0_keep_44 : decode cX0_keep 44 = .ok (.if_icmp .ge 16, 3) := by decide +kernel
theorem dX0_keep_47 : decode cX0_keep 47 = .ok (.aload_n 0, 1) := by decide +kernel
theorem dX0_keep_48 : decode cX0_keep 48 = .ok (.dup, 1) := by decide +kernel
theorem dX0_keep_49 : decode cX0_keep 49 = .ok (.getfield 25, 3) := by decide +kernel
theorem dX0_keep_52 : decode cX0_keep 52 = .ok (.iconst 1, 1) := by decide +kernel
theorem dX0_keep_53 : decode cX0_keep 53 = .ok (.iadd, 1) := by decide +kernel
theorem dX0_keep_54 : decode cX0_keep 54 = .ok (.putfield 25, 3) := by decide +kernel
theorem dX0_keep_57 : decode cX0_keep 57 = .ok (.goto 16, 3) := by decide +kernel
theorem dX0_keep_60 : decode cX0_keep 60 = .ok (.aload_n 0, 1) := by decide +kernel
theorem dX0_keep_61 : decode cX0_keep 61 = .ok (.aload_n 0, 1) := by decide +kernel
theorem dX0_keep_62 : decode cX0_keep 62 = .ok (.getfield 21, 3) := by decide +kernel
theorem dX0_keep_65 : decode cX0_keep 65 = .ok (.iconst 1, 1) := by decide +kernel
theorem dX0_keep_66 : decode cX0_keep 66 = .ok (.iadd, 1) := by decide +kernel
theorem dX0_keep_67 : decode cX0_keep 67 = .ok (.bipush 24, 2) := by decide +kernel
theorem dX0_keep_69 : decode cX0_keep 69 = .ok (.irem, 1) := by decide +kernel
theorem dX0_keep_70 : decode cX0_keep 70 = .ok (.putfield 21, 3) := by decide +kernel
theorem dX0_keep_73 : decode cX0_keep 73 = .ok (.return_, 1) := by decide +kernel
theorem dX0_takeLatest_0 : decode cX0_takeLatest 0 = .ok (.aload_n 0, 1) := by decide +kernel
theorem dX0_takeLatest_1 : decode cX0_takeLatest 1 = .ok (.dup, 1) := by decide +kernel
theorem dX0_takeLatest_2 : decode cX0_takeLatest 2 = .ok (.getfield 25, 3) := by decide +kernel
theorem dX0_takeLatest_5 : decode cX0_takeLatest 5 = .ok (.iconst 1, 1) := by decide +kernel
theorem dX0_takeLatest_6 : decode cX0_takeLatest 6 = .ok (.isub, 1) := by decide +kernel
theorem dX0_takeLatest_7 : decode cX0_takeLatest 7 = .ok (.putfield 25, 3) := by decide +kernel
theorem dX0_takeLatest_10 : decode cX0_takeLatest 10 = .ok (.aload_n 0, 1) := by decide +kernel
theorem dX0_takeLatest_11 : decode cX0_takeLatest 11 = .ok (.getfield 21, 3) := by decide +kernel
theorem dX0_takeLatest_14 : decode cX0_takeLatest 14 = .ok (.aload_n 0, 1) := by decide +kernel
theorem dX0_takeLatest_15 : decode cX0_takeLatest 15 = .ok (.getfield 25, 3) := by decide +kernel
theorem dX0_takeLatest_18 : decode cX0_takeLatest 18 = .ok (.iadd, 1) := by decide +kernel
theorem dX0_takeLatest_19 : decode cX0_takeLatest 19 = .ok (.bipush 24, 2) := by decide +kernel
theorem dX0_takeLatest_21 : decode cX0_takeLatest 21 = .ok (.irem, 1) := by decide +kernel
theorem dX0_takeLatest_22 : decode cX0_takeLatest 22 = .ok (.ireturn, 1) := by decide +kernel
theorem dX0_forgetAll_0 : decode cX0_forgetAll 0 = .ok (.aload_n 0, 1) := by decide +kernel
theorem dX0_forgetAll_1 : decode cX0_forgetAll 1 = .ok (.iconst 0, 1) := by decide +kernel
theorem dX0_forgetAll_2 : decode cX0_forgetAll 2 = .ok (.putfield 25, 3) := by decide +kernel
theorem dX0_forgetAll_5 : decode cX0_forgetAll 5 = .ok (.return_, 1) := by decide +kernel
theorem dX1_init_0 : decode cX1_init 0 = .ok (.aload_n 0, 1) := by decide +kernel
theorem dX1_init_1 : decode cX1_init 1 = .ok (.invokespecial 3, 3) := by decide +kernel
theorem dX1_init_4 : decode cX1_init 4 = .ok (.aload_n 0, 1) := by decide +kernel
theorem dX1_init_5 : decode cX1_init 5 = .ok (.bipush 16, 2) := by decide +kernel
theorem dX1_init_7 : decode cX1_init 7 = .ok (.newarray .int, 2) := by decide +kernel
theorem dX1_init_9 : decode cX1_init 9 = .ok (.putfield 9, 3) := by decide +kernel
theorem dX1_init_12 : decode cX1_init 12 = .ok (.return_, 1) := by decide +kernel
theorem dX1_answer_0 : decode cX1_answer 0 = .ok (.aload_n 1, 1) := by decide +kernel
theorem dX1_answer_1 : decode cX1_answer 1 = .ok (.getfield 15, 3) := by decide +kernel
theorem dX1_answer_4 : decode cX1_answer 4 = .ok (.iload_n 2, 1) := by decide +kernel
theorem dX1_answer_5 : decode cX1_answer 5 = .ok (.iaload, 1) := by decide +kernel
theorem dX1_answer_6 : decode cX1_answer 6 = .ok (.istore 4, 2) := by decide +kernel
theorem dX1_answer_8 : decode cX1_answer 8 = .ok (.aload_n 0, 1) := by decide +kernel
theorem dX1_answer_9 : decode cX1_answer 9 = .ok (.iconst 0, 1) := by decide +kernel
theorem dX1_answer_10 : decode cX1_answer 10 = .ok (.putfield 20, 3) := by decide +kernel
theorem dX1_answer_13 : decode cX1_answer 13 = .ok (.aload_n 0, 1) := by decide +kernel
theorem dX1_answer_14 : decode cX1_answer 14 = .ok (.aload_n 1, 1) := by decide +kernel
theorem dX1_answer_15 : decode cX1_answer 15 = .ok (.iload_n 3, 1) := by decide +kernel
theorem dX1_answer_16 : decode cX1_answer 16 = .ok (.ifCond .ne 11, 3) := by decide +kernel
theorem dX1_answer_19 : decode cX1_answer 19 = .ok (.iload 4, 2) := by decide +kernel
theorem dX1_answer_21 : decode cX1_answer 21 = .ok (.invokestatic 24, 3) := by decide +kernel
theorem dX1_answer_24 : decode cX1_answer 24 = .ok (.goto 8, 3) := by decide +kernel
theorem dX1_answer_27 : decode cX1_answer 27 = .ok (.iload 4, 2) := by decide +kernel
theorem dX1_answer_29 : decode cX1_answer 29 = .ok (.invokestatic 28, 3) := by decide +kernel
theorem dX1_answer_32 : decode cX1_answer 32 = .ok (.iload_n 2, 1) := by decide +kernel
theorem dX1_answer_33 : decode cX1_answer 33 = .ok (.iconst 0, 1) := by decide +kernel
theorem dX1_answer_34 : decode cX1_answer 34 = .ok (.invokestatic 31, 3) := by decide +kernel
theorem dX1_answer_37 : decode cX1_answer 37 = .ok (.ireturn, 1) := by decide +kernel
theorem dX1_sizeBody_0 : decode cX1_sizeBody 0 = .ok (.iload_n 0, 1) := by decide +kernel
theorem dX1_sizeBody_1 : decode cX1_sizeBody 1 = .ok (.tableswitch 50 1 5 #[35, 38, 41, 44, 47], 35) := by decide +kernel
theorem dX1_sizeBody_36 : decode cX1_sizeBody 36 = .ok (.bipush 11, 2) := by decide +kernel
theorem dX1_sizeBody_38 : decode cX1_sizeBody 38 = .ok (.ireturn, 1) := by decide +kernel
theorem dX1_sizeBody_39 : decode cX1_sizeBody 39 = .ok (.bipush 12, 2) := by decide +kernel
theorem dX1_sizeBody_41 : decode cX1_sizeBody 41 = .ok (.ireturn, 1) := by decide +kernel
theorem dX1_sizeBody_42 : decode cX1_sizeBody 42 = .ok (.bipush 11, 2) := by decide +kernel
theorem dX1_sizeBody_44 : decode cX1_sizeBody 44 = .ok (.ireturn, 1) := by decide +kernel
theorem dX1_sizeBody_45 : decode cX1_sizeBody 45 = .ok (.bipush 13, 2) := by decide +kernel
theorem dX1_sizeBody_47 : decode cX1_sizeBody 47 = .ok (.ireturn, 1) := by decide +kernel
theorem dX1_sizeBody_48 : decode cX1_sizeBody 48 = .ok (.bipush 14, 2) := by decide +kernel
theorem dX1_sizeBody_50 : decode cX1_sizeBody 50 = .ok (.ireturn, 1) := by decide +kernel
theorem dX1_sizeBody_51 : decode cX1_sizeBody 51 = .ok (.bipush 10, 2) := by decide +kernel
theorem dX1_sizeBody_53 : decode cX1_sizeBody 53 = .ok (.ireturn, 1) := by decide +kernel
theorem dX1_markBody_0 : decode cX1_markBody 0 = .ok (.iload_n 0, 1) := by decide +kernel
theorem dX1_markBody_1 : decode cX1_markBody 1 = .ok (.tableswitch 50 1 5 #[35, 38, 41, 44, 47], 35) := by decide +kernel
theorem dX1_markBody_36 : decode cX1_markBody 36 = .ok (.bipush 21, 2) := by decide +kernel
theorem dX1_markBody_38 : decode cX1_markBody 38 = .ok (.ireturn, 1) := by decide +kernel
theorem dX1_markBody_39 : decode cX1_markBody 39 = .ok (.bipush 24, 2) := by decide +kernel
theorem dX1_markBody_41 : decode cX1_markBody 41 = .ok (.ireturn, 1) := by decide +kernel
theorem dX1_markBody_42 : decode cX1_markBody 42 = .ok (.bipush 22, 2) := by decide +kernel
theorem dX1_markBody_44 : decode cX1_markBody 44 = .ok (.ireturn, 1) := by decide +kernel
theorem dX1_markBody_45 : decode cX1_markBody 45 = .ok (.bipush 23, 2) := by decide +kernel
theorem dX1_markBody_47 : decode cX1_markBody 47 = .ok (.ireturn, 1) := by decide +kernel
theorem dX1_markBody_48 : decode cX1_markBody 48 = .ok (.bipush 23, 2) := by decide +kernel
theorem dX1_markBody_50 : decode cX1_markBody 50 = .ok (.ireturn, 1) := by decide +kernel
theorem dX1_markBody_51 : decode cX1_markBody 51 = .ok (.bipush 20, 2) := by decide +kernel
theorem dX1_markBody_53 : decode cX1_markBody 53 = .ok (.ireturn, 1) := by decide +kernel
theorem dX1_leave_0 : decode cX1_leave 0 = .ok (.aload_n 0, 1) := by decide +kernel
theorem dX1_leave_1 : decode cX1_leave 1 = .ok (.getfield 20, 3) := by decide +kernel
theorem dX1_leave_4 : decode cX1_leave 4 = .ok (.bipush 16, 2) := by decide +kernel
theorem dX1_leave_6 : decode cX1_leave 6 = .ok (.if_icmp .ge 23, 3) := by decide +kernel
theorem dX1_leave_9 : decode cX1_leave 9 = .ok (.aload_n 0, 1) := by decide +kernel
theorem dX1_leave_10 : decode cX1_leave 10 = .ok (.getfield 9, 3) := by decide +kernel
theorem dX1_leave_13 : decode cX1_leave 13 = .ok (.aload_n 0, 1) := by decide +kernel
theorem dX1_leave_14 : decode cX1_leave 14 = .ok (.getfield 20, 3) := by decide +kernel
theorem dX1_leave_17 : decode cX1_leave 17 = .ok (.iload_n 1, 1) := by decide +kernel
theorem dX1_leave_18 : decode cX1_leave 18 = .ok (.iastore, 1) := by decide +kernel
theorem dX1_leave_19 : decode cX1_leave 19 = .ok (.aload_n 0, 1) := by decide +kernel
theorem dX1_leave_20 : decode cX1_leave 20 = .ok (.dup, 1) := by decide +kernel
theorem dX1_leave_21 : decode cX1_leave 21 = .ok (.getfield 20, 3) := by decide +kernel
theorem dX1_leave_24 : decode cX1_leave 24 = .ok (.iconst 1, 1) := by decide +kernel
theorem dX1_leave_25 : decode cX1_leave 25 = .ok (.iadd, 1) := by decide +kernel
theorem dX1_leave_26 : decode cX1_leave 26 = .ok (.putfield 20, 3) := by decide +kernel
theorem dX1_leave_29 : decode cX1_leave 29 = .ok (.return_, 1) := by decide +kernel
theorem dX1_given_0 : decode cX1_given 0 = .ok (.iload 4, 2) := by decide +kernel
theorem dX1_given_2 : decode cX1_given 2 = .ok (.bipush 8, 2) := by decide +kernel
theorem dX1_given_4 : decode cX1_given 4 = .ok (.if_icmp .lt 5, 3) := by decide +kernel
theorem dX1_given_7 : decode cX1_given 7 = .ok (.iconst 0, 1) := by decide +kernel
theorem dX1_given_8 : decode cX1_given 8 = .ok (.ireturn, 1) := by decide +kernel
theorem dX1_given_9 : decode cX1_given 9 = .ok (.aload_n 1, 1) := by decide +kernel
theorem dX1_given_10 : decode cX1_given 10 = .ok (.getfield 15, 3) := by decide +kernel
theorem dX1_given_13 : decode cX1_given 13 = .ok (.iload_n 3, 1) := by decide +kernel
theorem dX1_given_14 : decode cX1_given 14 = .ok (.iaload, 1) := by decide +kernel
theorem dX1_given_15 : decode cX1_given 15 = .ok (.istore 5, 2) := by decide +kernel
theorem dX1_given_17 : decode cX1_given 17 = .ok (.aload_n 0, 1) := by decide +kernel
theorem dX1_given_18 : decode cX1_given 18 = .ok (.iload_n 2, 1) := by decide +kernel
theorem dX1_given_19 : decode cX1_given 19 = .ok (.invokevirtual 35, 3) := by decide +kernel
theorem dX1_given_22 : decode cX1_given 22 = .ok (.iload_n 2, 1) := by decide +kernel
theorem dX1_given_23 : decode cX1_given 23 = .ok (.tableswitch 237 10 24 #[73, 80, 109, 123, 139, 237, 237, 237, 237, 237, 154, 156, 176, 193, 222], 73) := by decide +kernel
theorem dX1_given_96 : decode cX1_given 96 = .ok (.aload_n 1, 1) := by decide +kernel
theorem dX1_given_97 : decode cX1_given 97 = .ok (.getfield 39, 3) := by decide +kernel
theorem dX1_given_100 : decode cX1_given 100 = .ok (.iload_n 3, 1) := by decide +kernel
theorem dX1_given_101 : decode cX1_given 101 = .ok (.iaload, 1) := by decide +kernel
theorem dX1_given_102 : decode cX1_given 102 = .ok (.ireturn, 1) := by decide +kernel
theorem dX1_given_103 : decode cX1_given 103 = .ok (.aload_n 0, 1) := by decide +kernel
theorem dX1_given_104 : decode cX1_given 104 = .ok (.aload_n 1, 1) := by decide +kernel
theorem dX1_given_105 : decode cX1_given 105 = .ok (.bipush 10, 2) := by decide +kernel
theorem dX1_given_107 : decode cX1_given 107 = .ok (.iload_n 3, 1) := by decide +kernel
theorem dX1_given_108 : decode cX1_given 108 = .ok (.iload 4, 2) := by decide +kernel
theorem dX1_given_110 : decode cX1_given 110 = .ok (.iconst 1, 1) := by decide +kernel
theorem dX1_given_111 : decode cX1_given 111 = .ok (.iadd, 1) := by decide +kernel
theorem dX1_given_112 : decode cX1_given 112 = .ok (.invokestatic 31, 3) := by decide +kernel
theorem dX1_given_115 : decode cX1_given 115 = .ok (.aload_n 0, 1) := by decide +kernel
theorem dX1_given_116 : decode cX1_given 116 = .ok (.aload_n 1, 1) := by decide +kernel
theorem dX1_given_117 : decode cX1_given 117 = .ok (.iload 5, 2) := by decide +kernel
theorem dX1_given_119 : decode cX1_given 119 = .ok (.invokestatic 28, 3) := by decide +kernel
theorem dX1_given_122 : decode cX1_given 122 = .ok (.iload_n 3, 1) := by decide +kernel
theorem dX1_given_123 : decode cX1_given 123 = .ok (.iload 4, 2) := by decide +kernel
theorem dX1_given_125 : decode cX1_given 125 = .ok (.iconst 1, 1) := by decide +kernel
theorem dX1_given_126 : decode cX1_given 126 = .ok (.iadd, 1) := by decide +kernel
theorem dX1_given_127 : decode cX1_given 127 = .ok (.invokestatic 31, 3) := by decide +kernel
theorem dX1_given_130 : decode cX1_given 130 = .ok (.iadd, 1) := by decide +kernel
theorem dX1_given_131 : decode cX1_given 131 = .ok (.ireturn, 1) := by decide +kernel
theorem dX1_given_132 : decode cX1_given 132 = .ok (.aload_n 0, 1) := by decide +kernel
theorem dX1_given_133 : decode cX1_given 133 = .ok (.aload_n 1, 1) := by decide +kernel
theorem dX1_given_134 : decode cX1_given 134 = .ok (.bipush 11, 2) := by decide +kernel
theorem dX1_given_136 : decode cX1_given 136 = .ok (.iload_n 3, 1) := by decide +kernel
theorem dX1_given_137 : decode cX1_given 137 = .ok (.iload 4, 2) := by decide +kernel
theorem dX1_given_139 : decode cX1_given 139 = .ok (.iconst 1, 1) := by decide +kernel
theorem dX1_given_140 : decode cX1_given 140 = .ok (.iadd, 1) := by decide +kernel
theorem dX1_given_141 : decode cX1_given 141 = .ok (.invokestatic 31, 3) := by decide +kernel
theorem dX1_given_144 : decode cX1_given 144 = .ok (.ineg, 1) := by decide +kernel
theorem dX1_given_145 : decode cX1_given 145 = .ok (.ireturn, 1) := by decide +kernel
theorem dX1_given_146 : decode cX1_given 146 = .ok (.aload_n 0, 1) := by decide +kernel
theorem dX1_given_147 : decode cX1_given 147 = .ok (.aload_n 1, 1) := by decide +kernel
theorem dX1_given_148 : decode cX1_given 148 = .ok (.bipush 10, 2) := by decide +kernel
theorem dX1_given_150 : decode cX1_given 150 = .ok (.iload_n 3, 1) := by decide +kernel
theorem dX1_given_151 : decode cX1_given 151 = .ok (.iload 4, 2) := by decide +kernel
theorem dX1_given_153 : decode cX1_given 153 = .ok (.iconst 1, 1) := by decide +kernel
theorem dX1_given_154 : decode cX1_given 154 = .ok (.iadd, 1) := by decide +kernel
theorem dX1_given_155 : decode cX1_given 155 = .ok (.invokestatic 31, 3) := by decide +kernel
theorem dX1_given_158 : decode cX1_given 158 = .ok (.bipush 100, 2) := by decide +kernel
theorem dX1_given_160 : decode cX1_given 160 = .ok (.isub, 1) := by decide +kernel
theorem dX1_given_161 : decode cX1_given 161 = .ok (.ireturn, 1) := by decide +kernel
theorem dX1_given_162 : decode cX1_given 162 = .ok (.iconst 2, 1) := by decide +kernel
theorem dX1_given_163 : decode cX1_given 163 = .ok (.aload_n 0, 1) := by decide +kernel
theorem dX1_given_164 : decode cX1_given 164 = .ok (.aload_n 1, 1) := by decide +kernel
theorem dX1_given_165 : decode cX1_given 165 = .ok (.bipush 13, 2) := by decide +kernel
theorem dX1_given_167 : decode cX1_given 167 = .ok (.iload_n 3, 1) := by decide +kernel
theorem dX1_given_168 : decode cX1_given 168 = .ok (.iload 4, 2) := by decide +kernel
theorem dX1_given_170 : decode cX1_given 170 = .ok (.iconst 1, 1) := by decide +kernel
theorem dX1_given_171 : decode cX1_given 171 = .ok (.iadd, 1) := by decide +kernel
theorem dX1_given_172 : decode cX1_given 172 = .ok (.invokestatic 31, 3) := by decide +kernel
theorem dX1_given_175 : decode cX1_given 175 = .ok (.imul, 1) := by decide +kernel
theorem dX1_given_176 : decode cX1_given 176 = .ok (.ireturn, 1) := by decide +kernel
theorem dX1_given_177 : decode cX1_given 177 = .ok (.iload_n 3, 1) := by decide +kernel
theorem dX1_given_178 : decode cX1_given 178 = .ok (.ireturn, 1) := by decide +kernel
theorem dX1_given_179 : decode cX1_given 179 = .ok (.aload_n 0, 1) := by decide +kernel
theorem dX1_given_180 : decode cX1_given 180 = .ok (.aload_n 1, 1) := by decide +kernel
theorem dX1_given_181 : decode cX1_given 181 = .ok (.bipush 20, 2) := by decide +kernel
theorem dX1_given_183 : decode cX1_given 183 = .ok (.iload_n 3, 1) := by decide +kernel
theorem dX1_given_184 : decode cX1_given 184 = .ok (.iload 4, 2) := by decide +kernel
theorem dX1_given_186 : decode cX1_given 186 = .ok (.iconst 1, 1) := by decide +kernel
theorem dX1_given_187 : decode cX1_given 187 = .ok (.iadd, 1) := by decide +kernel
theorem dX1_given_188 : decode cX1_given 188 = .ok (.invokestatic 31, 3) := by decide +kernel
theorem dX1_given_191 : decode cX1_given 191 = .ok (.aload_n 1, 1) := by decide +kernel
theorem dX1_given_192 : decode cX1_given 192 = .ok (.getfield 42, 3) := by decide +kernel
theorem dX1_given_195 : decode cX1_given 195 = .ok (.iload_n 3, 1) := by decide +kernel
theorem dX1_given_196 : decode cX1_given 196 = .ok (.iaload, 1) := by decide +kernel
theorem dX1_given_197 : decode cX1_given 197 = .ok (.iadd, 1) := by decide +kernel
theorem dX1_given_198 : decode cX1_given 198 = .ok (.ireturn, 1) := by decide +kernel
theorem dX1_given_199 : decode cX1_given 199 = .ok (.aload_n 0, 1) := by decide +kernel
theorem dX1_given_200 : decode cX1_given 200 = .ok (.aload_n 1, 1) := by decide +kernel
theorem dX1_given_201 : decode cX1_given 201 = .ok (.bipush 21, 2) := by decide +kernel
theorem dX1_given_203 : decode cX1_given 203 = .ok (.iload_n 3, 1) := by decide +kernel
theorem dX1_given_204 : decode cX1_given 204 = .ok (.iload 4, 2) := by decide +kernel
theorem dX1_given_206 : decode cX1_given 206 = .ok (.iconst 1, 1) := by decide +kernel
theorem dX1_given_207 : decode cX1_given 207 = .ok (.iadd, 1) := by decide +kernel
theorem dX1_given_208 : decode cX1_given 208 = .ok (.invokestatic 31, 3) := by decide +kernel
theorem dX1_given_211 : decode cX1_given 211 = .ok (.sipush 1000, 3) := by decide +kernel
theorem dX1_given_214 : decode cX1_given 214 = .ok (.isub, 1) := by decide +kernel
theorem dX1_given_215 : decode cX1_given 215 = .ok (.ireturn, 1) := by decide +kernel
theorem dX1_given_216 : decode cX1_given 216 = .ok (.aload_n 0, 1) := by decide +kernel
theorem dX1_given_217 : decode cX1_given 217 = .ok (.aload_n 1, 1) := by decide +kernel
theorem dX1_given_218 : decode cX1_given 218 = .ok (.bipush 20, 2) := by decide +kernel
theorem dX1_given_220 : decode cX1_given 220 = .ok (.iload_n 3, 1) := by decide +kernel
theorem dX1_given_221 : decode cX1_given 221 = .ok (.iload 4, 2) := by decide +kernel
theorem dX1_given_223 : decode cX1_given 223 = .ok (.iconst 1, 1) := by decide +kernel
theorem dX1_given_224 : decode cX1_given 224 = .ok (.iadd, 1) := by decide +kernel
theorem dX1_given_225 : decode cX1_given 225 = .ok (.invokestatic 31, 3) := by decide +kernel
theorem dX1_given_228 : decode cX1_given 228 = .ok (.aload_n 0, 1) := by decide +kernel
theorem dX1_given_229 : decode cX1_given 229 = .ok (.aload_n 1, 1) := by decide +kernel
theorem dX1_given_230 : decode cX1_given 230 = .ok (.iload 5, 2) := by decide +kernel
theorem dX1_given_232 : decode cX1_given 232 = .ok (.invokestatic 24, 3) := by decide +kernel
theorem dX1_given_235 : decode cX1_given 235 = .ok (.iload_n 3, 1) := by decide +kernel
theorem dX1_given_236 : decode cX1_given 236 = .ok (.iload 4, 2) := by decide +kernel
theorem dX1_given_238 : decode cX1_given 238 = .ok (.iconst 1, 1) := by decide +kernel
theorem dX1_given_239 : decode cX1_given 239 = .ok (.iadd, 1) := by decide +kernel
theorem dX1_given_240 : decode cX1_given 240 = .ok (.invokestatic 31, 3) := by decide +kernel
theorem dX1_given_243 : decode cX1_given 243 = .ok (.isub, 1) := by decide +kernel
theorem dX1_given_244 : decode cX1_given 244 = .ok (.ireturn, 1) := by decide +kernel
theorem dX1_given_245 : decode cX1_given 245 = .ok (.iconst 2, 1) := by decide +kernel
theorem dX1_given_246 : decode cX1_given 246 = .ok (.aload_n 0, 1) := by decide +kernel
theorem dX1_given_247 : decode cX1_given 247 = .ok (.aload_n 1, 1) := by decide +kernel
theorem dX1_given_248 : decode cX1_given 248 = .ok (.bipush 21, 2) := by decide +kernel
theorem dX1_given_250 : decode cX1_given 250 = .ok (.iload_n 3, 1) := by decide +kernel
theorem dX1_given_251 : decode cX1_given 251 = .ok (.iload 4, 2) := by decide +kernel
theorem dX1_given_253 : decode cX1_given 253 = .ok (.iconst 1, 1) := by decide +kernel
theorem dX1_given_254 : decode cX1_given 254 = .ok (.iadd, 1) := by decide +kernel
theorem dX1_given_255 : decode cX1_given 255 = .ok (.invokestatic 31, 3) := by decide +kernel
theorem dX1_given_258 : decode cX1_given 258 = .ok (.imul, 1) := by decide +kernel
theorem dX1_given_259 : decode cX1_given 259 = .ok (.ireturn, 1) := by decide +kernel
theorem dX1_given_260 : decode cX1_given 260 = .ok (.iconst 0, 1) := by decide +kernel
theorem dX1_given_261 : decode cX1_given 261 = .ok (.ireturn, 1) := by decide +kernel
theorem dX2_init_0 : decode cX2_init 0 = .ok (.aload_n 0, 1) := by decide +kernel
theorem dX2_init_1 : decode cX2_init 1 = .ok (.invokespecial 3, 3) := by decide +kernel
theorem dX2_init_4 : decode cX2_init 4 = .ok (.aload_n 0, 1) := by decide +kernel
theorem dX2_init_5 : decode cX2_init 5 = .ok (.bipush 8, 2) := by decide +kernel
theorem dX2_init_7 : decode cX2_init 7 = .ok (.newarray .int, 2) := by decide +kernel
theorem dX2_init_9 : decode cX2_init 9 = .ok (.putfield 9, 3) := by decide +kernel
theorem dX2_init_12 : decode cX2_init 12 = .ok (.aload_n 0, 1) := by decide +kernel
theorem dX2_init_13 : decode cX2_init 13 = .ok (.bipush 8, 2) := by decide +kernel
theorem dX2_init_15 : decode cX2_init 15 = .ok (.newarray .int, 2) := by decide +kernel
theorem dX2_init_17 : decode cX2_init 17 = .ok (.putfield 15, 3) := by decide +kernel
theorem dX2_init_20 : decode cX2_init 20 = .ok (.aload_n 0, 1) := by decide +kernel
theorem dX2_init_21 : decode cX2_init 21 = .ok (.bipush 8, 2) := by decide +kernel
theorem dX2_init_23 : decode cX2_init 23 = .ok (.newarray .int, 2) := by decide +kernel
theorem dX2_init_25 : decode cX2_init 25 = .ok (.putfield 18, 3) := by decide +kernel
theorem dX2_init_28 : decode cX2_init 28 = .ok (.aload_n 0, 1) := by decide +kernel
theorem dX2_init_29 : decode cX2_init 29 = .ok (.bipush 8, 2) := by decide +kernel
theorem dX2_init_31 : decode cX2_init 31 = .ok (.newarray .int, 2) := by decide +kernel
theorem dX2_init_33 : decode cX2_init 33 = .ok (.putfield 21, 3) := by decide +kernel
theorem dX2_init_36 : decode cX2_init 36 = .ok (.aload_n 0, 1) := by decide +kernel
theorem dX2_init_37 : decode cX2_init 37 = .ok (.bipush 6, 2) := by decide +kernel
theorem dX2_init_39 : decode cX2_init 39 = .ok (.newarray .int, 2) := by decide +kernel
theorem dX2_init_41 : decode cX2_init 41 = .ok (.putfield 24, 3) := by decide +kernel
theorem dX2_init_44 : decode cX2_init 44 = .ok (.aload_n 0, 1) := by decide +kernel
theorem dX2_init_45 : decode cX2_init 45 = .ok (.bipush 6, 2) := by decide +kernel
theorem dX2_init_47 : decode cX2_init 47 = .ok (.newarray .int, 2) := by decide +kernel
theorem dX2_init_49 : decode cX2_init 49 = .ok (.putfield 27, 3) := by decide +kernel
theorem dX2_init_52 : decode cX2_init 52 = .ok (.aload_n 0, 1) := by decide +kernel
theorem dX2_init_53 : decode cX2_init 53 = .ok (.bipush 6, 2) := by decide +kernel
theorem dX2_init_55 : decode cX2_init 55 = .ok (.newarray .int, 2) := by decide +kernel
theorem dX2_init_57 : decode cX2_init 57 = .ok (.putfield 30, 3) := by decide +kernel
theorem dX2_init_60 : decode cX2_init 60 = .ok (.aload_n 0, 1) := by decide +kernel
theorem dX2_init_61 : decode cX2_init 61 = .ok (.bipush 6, 2) := by decide +kernel
theorem dX2_init_63 : decode cX2_init 63 = .ok (.newarray .int, 2) := by decide +kernel
theorem dX2_init_65 : decode cX2_init 65 = .ok (.putfield 33, 3) := by decide +kernel
theorem dX2_init_68 : decode cX2_init 68 = .ok (.aload_n 0, 1) := by decide +kernel
theorem dX2_init_69 : decode cX2_init 69 = .ok (.iconst (-1), 1) := by decide +kernel
theorem dX2_init_70 : decode cX2_init 70 = .ok (.putfield 36, 3) := by decide +kernel
theorem dX2_init_73 : decode cX2_init 73 = .ok (.iconst 0, 1) := by decide +kernel
theorem dX2_init_74 : decode cX2_init 74 = .ok (.istore_n 1, 1) := by decide +kernel
theorem dX2_init_75 : decode cX2_init 75 = .ok (.iload_n 1, 1) := by decide +kernel
theorem dX2_init_76 : decode cX2_init 76 = .ok (.bipush 6, 2) := by decide +kernel
theorem dX2_init_78 : decode cX2_init 78 = .ok (.if_icmp .ge 17, 3) := by decide +kernel
theorem dX2_init_81 : decode cX2_init 81 = .ok (.aload_n 0, 1) := by decide +kernel
theorem dX2_init_82 : decode cX2_init 82 = .ok (.getfield 33, 3) := by decide +kernel
theorem dX2_init_85 : decode cX2_init 85 = .ok (.iload_n 1, 1) := by decide +kernel
theorem dX2_init_86 : decode cX2_init 86 = .ok (.ldc 40, 2) := by decide +kernel
theorem dX2_init_88 : decode cX2_init 88 = .ok (.iastore, 1) := by decide +kernel
theorem dX2_init_89 : decode cX2_init 89 = .ok (.iinc 1 1, 3) := by decide +kernel
theorem dX2_init_92 : decode cX2_init 92 = .ok (.goto (-17), 3) := by decide +kernel
theorem dX2_init_95 : decode cX2_init 95 = .ok (.return_, 1) := by decide +kernel
theorem dX2_become_0 : decode cX2_become 0 = .ok (.aload_n 0, 1) := by decide +kernel
theorem dX2_become_1 : decode cX2_become 1 = .ok (.aload_n 1, 1) := by decide +kernel
theorem dX2_become_2 : decode cX2_become 2 = .ok (.getfield 41, 3) := by decide +kernel
theorem dX2_become_5 : decode cX2_become 5 = .ok (.putfield 41, 3) := by decide +kernel
theorem dX2_become_8 : decode cX2_become 8 = .ok (.aload_n 0, 1) := by decide +kernel
theorem dX2_become_9 : decode cX2_become 9 = .ok (.aload_n 1, 1) := by decide +kernel
theorem dX2_become_10 : decode cX2_become 10 = .ok (.getfield 45, 3) := by decide +kernel
theorem dX2_become_13 : decode cX2_become 13 = .ok (.putfield 45, 3) := by decide +kernel
theorem dX2_become_16 : decode cX2_become 16 = .ok (.aload_n 0, 1) := by decide +kernel
theorem dX2_become_17 : decode cX2_become 17 = .ok (.aload_n 1, 1) := by decide +kernel
theorem dX2_become_18 : decode cX2_become 18 = .ok (.getfield 48, 3) := by decide +kernel
theorem dX2_become_21 : decode cX2_become 21 = .ok (.putfield 48, 3) := by decide +kernel
theorem dX2_become_24 : decode cX2_become 24 = .ok (.aload_n 0, 1) := by decide +kernel
theorem dX2_become_25 : decode cX2_become 25 = .ok (.aload_n 1, 1) := by decide +kernel
theorem dX2_become_26 : decode cX2_become 26 = .ok (.getfield 51, 3) := by decide +kernel
theorem dX2_become_29 : decode cX2_become 29 = .ok (.putfield 51, 3) := by decide +kernel
theorem dX2_become_32 : decode cX2_become 32 = .ok (.aload_n 0, 1) := by decide +kernel
theorem dX2_become_33 : decode cX2_become 33 = .ok (.aload_n 1, 1) := by decide +kernel
theorem dX2_become_34 : decode cX2_become 34 = .ok (.getfield 54, 3) := by decide +kernel
theorem dX2_become_37 : decode cX2_become 37 = .ok (.putfield 54, 3) := by decide +kernel
theorem dX2_become_40 : decode cX2_become 40 = .ok (.aload_n 0, 1) := by decide +kernel
theorem dX2_become_41 : decode cX2_become 41 = .ok (.aload_n 1, 1) := by decide +kernel
theorem dX2_become_42 : decode cX2_become 42 = .ok (.getfield 57, 3) := by decide +kernel
theorem dX2_become_45 : decode cX2_become 45 = .ok (.putfield 57, 3) := by decide +kernel
theorem dX2_become_48 : decode cX2_become 48 = .ok (.aload_n 0, 1) := by decide +kernel
theorem dX2_become_49 : decode cX2_become 49 = .ok (.aload_n 1, 1) := by decide +kernel
theorem dX2_become_50 : decode cX2_become 50 = .ok (.getfield 36, 3) := by decide +kernel
theorem dX2_become_53 : decode cX2_become 53 = .ok (.putfield 36, 3) := by decide +kernel
theorem dX2_become_56 : decode cX2_become 56 = .ok (.aload_n 0, 1) := by decide +kernel
theorem dX2_become_57 : decode cX2_become 57 = .ok (.aload_n 1, 1) := by decide +kernel
theorem dX2_become_58 : decode cX2_become 58 = .ok (.getfield 60, 3) := by decide +kernel
theorem dX2_become_61 : decode cX2_become 61 = .ok (.putfield 60, 3) := by decide +kernel
theorem dX2_become_64 : decode cX2_become 64 = .ok (.aload_n 0, 1) := by decide +kernel
theorem dX2_become_65 : decode cX2_become 65 = .ok (.aload_n 1, 1) := by decide +kernel
theorem dX2_become_66 : decode cX2_become 66 = .ok (.getfield 63, 3) := by decide +kernel
theorem dX2_become_69 : decode cX2_become 69 = .ok (.putfield 63, 3) := by decide +kernel
theorem dX2_become_72 : decode cX2_become 72 = .ok (.aload_n 0, 1) := by decide +kernel
theorem dX2_become_73 : decode cX2_become 73 = .ok (.aload_n 1, 1) := by decide +kernel
theorem dX2_become_74 : decode cX2_become 74 = .ok (.getfield 66, 3) := by decide +kernel
theorem dX2_become_77 : decode cX2_become 77 = .ok (.putfield 66, 3) := by decide +kernel
theorem dX2_become_80 : decode cX2_become 80 = .ok (.aload_n 0, 1) := by decide +kernel
theorem dX2_become_81 : decode cX2_become 81 = .ok (.aload_n 1, 1) := by decide +kernel
theorem dX2_become_82 : decode cX2_become 82 = .ok (.getfield 69, 3) := by decide +kernel
theorem dX2_become_85 : decode cX2_become 85 = .ok (.putfield 69, 3) := by decide +kernel
theorem dX2_become_88 : decode cX2_become 88 = .ok (.aload_n 1, 1) := by decide +kernel
theorem dX2_become_89 : decode cX2_become 89 = .ok (.getfield 9, 3) := by decide +kernel
theorem dX2_become_92 : decode cX2_become 92 = .ok (.iconst 0, 1) := by decide +kernel
theorem dX2_become_93 : decode cX2_become 93 = .ok (.aload_n 0, 1) := by decide +kernel
theorem dX2_become_94 : decode cX2_become 94 = .ok (.getfield 9, 3) := by decide +kernel
theorem dX2_become_97 : decode cX2_become 97 = .ok (.iconst 0, 1) := by decide +kernel
theorem dX2_become_98 : decode cX2_become 98 = .ok (.bipush 8, 2) := by decide +kernel
theorem dX2_become_100 : decode cX2_become 100 = .ok (.invokestatic 72, 3) := by decide +kernel
theorem dX2_become_103 : decode cX2_become 103 = .ok (.aload_n 1, 1) := by decide +kernel
theorem dX2_become_104 : decode cX2_become 104 = .ok (.getfield 15, 3) := by decide +kernel
theorem dX2_become_107 : decode cX2_become 107 = .ok (.iconst 0, 1) := by decide +kernel
theorem dX2_become_108 : decode cX2_become 108 = .ok (.aload_n 0, 1) := by decide +kernel
theorem dX2_become_109 : decode cX2_become 109 = .ok (.getfield 15, 3) := by decide +kernel
theorem dX2_become_112 : decode cX2_become 112 = .ok (.iconst 0, 1) := by decide +kernel
theorem dX2_become_113 : decode cX2_become 113 = .ok (.bipush 8, 2) := by decide +kernel
theorem dX2_become_115 : decode cX2_become 115 = .ok (.invokestatic 72, 3) := by decide +kernel
theorem dX2_become_118 : decode cX2_become 118 = .ok (.aload_n 1, 1) := by decide +kernel
theorem dX2_become_119 : decode cX2_become 119 = .ok (.getfield 18, 3) := by decide +kernel
theorem dX2_become_122 : decode cX2_become 122 = .ok (.iconst 0, 1) := by decide +kernel
theorem dX2_become_123 : decode cX2_become 123 = .ok (.aload_n 0, 1) := by decide +kernel
theorem dX2_become_124 : decode cX2_become 124 = .ok (.getfield 18, 3) := by decide +kernel
theorem dX2_become_127 : decode cX2_become 127 = .ok (.iconst 0, 1) := by decide +kernel
theorem dX2_become_128 : decode cX2_become 128 = .ok (.bipush 8, 2) := by decide +kernel
theorem dX2_become_130 : decode cX2_become 130 = .ok (.invokestatic 72, 3) := by decide +kernel
theorem dX2_become_133 : decode cX2_become 133 = .ok (.aload_n 1, 1) := by decide +kernel
theorem dX2_become_134 : decode cX2_become 134 = .ok (.getfield 21, 3) := by decide +kernel
theorem dX2_become_137 : decode cX2_become 137 = .ok (.iconst 0, 1) := by decide +kernel
theorem dX2_become_138 : decode cX2_become 138 = .ok (.aload_n 0, 1) := by decide +kernel
theorem dX2_become_139 : decode cX2_become 139 = .ok (.getfield 21, 3) := by decide +kernel
theorem dX2_become_142 : decode cX2_become 142 = .ok (.iconst 0, 1) := by decide +kernel
theorem dX2_become_143 : decode cX2_become 143 = .ok (.bipush 8, 2) := by decide +kernel
theorem dX2_become_145 : decode cX2_become 145 = .ok (.invokestatic 72, 3) := by decide +kernel
theorem dX2_become_148 : decode cX2_become 148 = .ok (.aload_n 1, 1) := by decide +kernel
theorem dX2_become_149 : decode cX2_become 149 = .ok (.getfield 24, 3) := by decide +kernel
theorem dX2_become_152 : decode cX2_become 152 = .ok (.iconst 0, 1) := by decide +kernel
theorem dX2_become_153 : decode cX2_become 153 = .ok (.aload_n 0, 1) := by decide +kernel
theorem dX2_become_154 : decode cX2_become 154 = .ok (.getfield 24, 3) := by decide +kernel
theorem dX2_become_157 : decode cX2_become 157 = .ok (.iconst 0, 1) := by decide +kernel
theorem dX2_become_158 : decode cX2_become 158 = .ok (.bipush 6, 2) := by decide +kernel
theorem dX2_become_160 : decode cX2_become 160 = .ok (.invokestatic 72, 3) := by decide +kernel
theorem dX2_become_163 : decode cX2_become 163 = .ok (.aload_n 1, 1) := by decide +kernel
theorem dX2_become_164 : decode cX2_become 164 = .ok (.getfield 27, 3) := by decide +kernel
theorem dX2_become_167 : decode cX2_become 167 = .ok (.iconst 0, 1) := by decide +kernel
theorem dX2_become_168 : decode cX2_become 168 = .ok (.aload_n 0, 1) := by decide +kernel
theorem dX2_become_169 : decode cX2_become 169 = .ok (.getfield 27, 3) := by decide +kernel
theorem dX2_become_172 : decode cX2_become 172 = .ok (.iconst 0, 1) := by decide +kernel
theorem dX2_become_173 : decode cX2_become 173 = .ok (.bipush 6, 2) := by decide +kernel
theorem dX2_become_175 : decode cX2_become 175 = .ok (.invokestatic 72, 3) := by decide +kernel
theorem dX2_become_178 : decode cX2_become 178 = .ok (.aload_n 1, 1) := by decide +kernel
theorem dX2_become_179 : decode cX2_become 179 = .ok (.getfield 30, 3) := by decide +kernel
theorem dX2_become_182 : decode cX2_become 182 = .ok (.iconst 0, 1) := by decide +kernel
theorem dX2_become_183 : decode cX2_become 183 = .ok (.aload_n 0, 1) := by decide +kernel
theorem dX2_become_184 : decode cX2_become 184 = .ok (.getfield 30, 3) := by decide +kernel
theorem dX2_become_187 : decode cX2_become 187 = .ok (.iconst 0, 1) := by decide +kernel
theorem dX2_become_188 : decode cX2_become 188 = .ok (.bipush 6, 2) := by decide +kernel
theorem dX2_become_190 : decode cX2_become 190 = .ok (.invokestatic 72, 3) := by decide +kernel
theorem dX2_become_193 : decode cX2_become 193 = .ok (.aload_n 1, 1) := by decide +kernel
theorem dX2_become_194 : decode cX2_become 194 = .ok (.getfield 33, 3) := by decide +kernel
theorem dX2_become_197 : decode cX2_become 197 = .ok (.iconst 0, 1) := by decide +kernel
theorem dX2_become_198 : decode cX2_become 198 = .ok (.aload_n 0, 1) := by decide +kernel
theorem dX2_become_199 : decode cX2_become 199 = .ok (.getfield 33, 3) := by decide +kernel
theorem dX2_become_202 : decode cX2_become 202 = .ok (.iconst 0, 1) := by decide +kernel
theorem dX2_become_203 : decode cX2_become 203 = .ok (.bipush 6, 2) := by decide +kernel
theorem dX2_become_205 : decode cX2_become 205 = .ok (.invokestatic 72, 3) := by decide +kernel
theorem dX2_become_208 : decode cX2_become 208 = .ok (.return_, 1) := by decide +kernel
theorem dX2_isHint_0 : decode cX2_isHint 0 = .ok (.iload_n 1, 1) := by decide +kernel
theorem dX2_isHint_1 : decode cX2_isHint 1 = .ok (.aload_n 0, 1) := by decide +kernel
theorem dX2_isHint_2 : decode cX2_isHint 2 = .ok (.getfield 54, 3) := by decide +kernel
theorem dX2_isHint_5 : decode cX2_isHint 5 = .ok (.invokestatic 78, 3) := by decide +kernel
theorem dX2_isHint_8 : decode cX2_isHint 8 = .ok (.ireturn, 1) := by decide +kernel
theorem dX2_isGuest_0 : decode cX2_isGuest 0 = .ok (.iload_n 1, 1) := by decide +kernel
theorem dX2_isGuest_1 : decode cX2_isGuest 1 = .ok (.aload_n 0, 1) := by decide +kernel
theorem dX2_isGuest_2 : decode cX2_isGuest 2 = .ok (.getfield 57, 3) := by decide +kernel
theorem dX2_isGuest_5 : decode cX2_isGuest 5 = .ok (.invokestatic 78, 3) := by decide +kernel
theorem dX2_isGuest_8 : decode cX2_isGuest 8 = .ok (.ireturn, 1) := by decide +kernel
theorem dX2_stateOf_0 : decode cX2_stateOf 0 = .ok (.aload_n 0, 1) := by decide +kernel
theorem dX2_stateOf_1 : decode cX2_stateOf 1 = .ok (.getfield 60, 3) := by decide +kernel
theorem dX2_stateOf_4 : decode cX2_stateOf 4 = .ok (.iload_n 1, 1) := by decide +kernel
theorem dX2_stateOf_5 : decode cX2_stateOf 5 = .ok (.invokestatic 82, 3) := by decide +kernel
theorem dX2_stateOf_8 : decode cX2_stateOf 8 = .ok (.ifCond .eq 5, 3) := by decide +kernel
theorem dX2_stateOf_11 : decode cX2_stateOf 11 = .ok (.iconst 2, 1) := by decide +kernel
theorem dX2_stateOf_12 : decode cX2_stateOf 12 = .ok (.ireturn, 1) := by decide +kernel
theorem dX2_stateOf_13 : decode cX2_stateOf 13 = .ok (.aload_n 0, 1) := by decide +kernel
theorem dX2_stateOf_14 : decode cX2_stateOf 14 = .ok (.getfield 36, 3) := by decide +kernel
theorem dX2_stateOf_17 : decode cX2_stateOf 17 = .ok (.iload_n 1, 1) := by decide +kernel
theorem dX2_stateOf_18 : decode cX2_stateOf 18 = .ok (.if_icmp .ne 7, 3) := by decide +kernel
theorem dX2_stateOf_21 : decode cX2_stateOf 21 = .ok (.iconst 1, 1) := by decide +kernel
theorem dX2_stateOf_22 : decode cX2_stateOf 22 = .ok (.goto 4, 3) := by decide +kernel
theorem dX2_stateOf_25 : decode cX2_stateOf 25 = .ok (.iconst 0, 1) := by decide +kernel
theorem dX2_stateOf_26 : decode cX2_stateOf 26 = .ok (.ireturn, 1) := by decide +kernel
theorem dX2_dares_0 : decode cX2_dares 0 = .ok (.aload_n 0, 1) := by decide +kernel
theorem dX2_dares_1 : decode cX2_dares 1 = .ok (.getfield 30, 3) := by decide +kernel
theorem dX2_dares_4 : decode cX2_dares 4 = .ok (.iload_n 1, 1) := by decide +kernel
theorem dX2_dares_5 : decode cX2_dares 5 = .ok (.iaload, 1) := by decide +kernel
theorem dX2_dares_6 : decode cX2_dares 6 = .ok (.aload_n 0, 1) := by decide +kernel
theorem dX2_dares_7 : decode cX2_dares 7 = .ok (.getfield 27, 3) := by decide +kernel
theorem dX2_dares_10 : decode cX2_dares 10 = .ok (.iload_n 1, 1) := by decide +kernel
theorem dX2_dares_11 : decode cX2_dares 11 = .ok (.iaload, 1) := by decide +kernel
theorem dX2_dares_12 : decode cX2_dares 12 = .ok (.if_icmp .lt 7, 3) := by decide +kernel
theorem dX2_dares_15 : decode cX2_dares 15 = .ok (.iconst 1, 1) := by decide +kernel
theorem dX2_dares_16 : decode cX2_dares 16 = .ok (.goto 4, 3) := by decide +kernel
theorem dX2_dares_19 : decode cX2_dares 19 = .ok (.iconst 0, 1) := by decide +kernel
theorem dX2_dares_20 : decode cX2_dares 20 = .ok (.ireturn, 1) := by decide +kernel
theorem dX2_receive_0 : decode cX2_receive 0 = .ok (.aload_n 0, 1) := by decide +kernel
theorem dX2_receive_1 : decode cX2_receive 1 = .ok (.iload_n 1, 1) := by decide +kernel
theorem dX2_receive_2 : decode cX2_receive 2 = .ok (.putfield 36, 3) := by decide +kernel
theorem dX2_receive_5 : decode cX2_receive 5 = .ok (.return_, 1) := by decide +kernel
theorem dX2_dismiss_0 : decode cX2_dismiss 0 = .ok (.aload_n 0, 1) := by decide +kernel
theorem dX2_dismiss_1 : decode cX2_dismiss 1 = .ok (.iconst (-1), 1) := by decide +kernel
theorem dX2_dismiss_2 : decode cX2_dismiss 2 = .ok (.putfield 36, 3) := by decide +kernel
theorem dX2_dismiss_5 : decode cX2_dismiss 5 = .ok (.return_, 1) := by decide +kernel
theorem dX2_reveal_0 : decode cX2_reveal 0 = .ok (.aload_n 0, 1) := by decide +kernel
theorem dX2_reveal_1 : decode cX2_reveal 1 = .ok (.getfield 24, 3) := by decide +kernel
theorem dX2_reveal_4 : decode cX2_reveal 4 = .ok (.aload_n 0, 1) := by decide +kernel
theorem dX2_reveal_5 : decode cX2_reveal 5 = .ok (.getfield 36, 3) := by decide +kernel
theorem dX2_reveal_8 : decode cX2_reveal 8 = .ok (.aload_n 0, 1) := by decide +kernel
theorem dX2_reveal_9 : decode cX2_reveal 9 = .ok (.aload_n 0, 1) := by decide +kernel
theorem dX2_reveal_10 : decode cX2_reveal 10 = .ok (.getfield 24, 3) := by decide +kernel
theorem dX2_reveal_13 : decode cX2_reveal 13 = .ok (.aload_n 0, 1) := by decide +kernel
theorem dX2_reveal_14 : decode cX2_reveal 14 = .ok (.getfield 36, 3) := by decide +kernel
theorem dX2_reveal_17 : decode cX2_reveal 17 = .ok (.iaload, 1) := by decide +kernel
theorem dX2_reveal_18 : decode cX2_reveal 18 = .ok (.iload_n 1, 1) := by decide +kernel
theorem dX2_reveal_19 : decode cX2_reveal 19 = .ok (.aload_n 0, 1) := by decide +kernel
theorem dX2_reveal_20 : decode cX2_reveal 20 = .ok (.getfield 21, 3) := by decide +kernel
theorem dX2_reveal_23 : decode cX2_reveal 23 = .ok (.iload_n 1, 1) := by decide +kernel
theorem dX2_reveal_24 : decode cX2_reveal 24 = .ok (.iaload, 1) := by decide +kernel
theorem dX2_reveal_25 : decode cX2_reveal 25 = .ok (.invokevirtual 85, 3) := by decide +kernel
theorem dX2_reveal_28 : decode cX2_reveal 28 = .ok (.iastore, 1) := by decide +kernel
theorem dX2_reveal_29 : decode cX2_reveal 29 = .ok (.aload_n 0, 1) := by decide +kernel
theorem dX2_reveal_30 : decode cX2_reveal 30 = .ok (.getfield 21, 3) := by decide +kernel
theorem dX2_reveal_33 : decode cX2_reveal 33 = .ok (.iload_n 1, 1) := by decide +kernel
theorem dX2_reveal_34 : decode cX2_reveal 34 = .ok (.dup2, 1) := by decide +kernel
theorem dX2_reveal_35 : decode cX2_reveal 35 = .ok (.iaload, 1) := by decide +kernel
theorem dX2_reveal_36 : decode cX2_reveal 36 = .ok (.iconst 1, 1) := by decide +kernel
theorem dX2_reveal_37 : decode cX2_reveal 37 = .ok (.iadd, 1) := by decide +kernel
theorem dX2_reveal_38 : decode cX2_reveal 38 = .ok (.iastore, 1) := by decide +kernel
theorem dX2_reveal_39 : decode cX2_reveal 39 = .ok (.aload_n 0, 1) := by decide +kernel
theorem dX2_reveal_40 : decode cX2_reveal 40 = .ok (.dup, 1) := by decide +kernel
theorem dX2_reveal_41 : decode cX2_reveal 41 = .ok (.getfield 63, 3) := by decide +kernel
theorem dX2_reveal_44 : decode cX2_reveal 44 = .ok (.iconst 1, 1) := by decide +kernel
theorem dX2_reveal_45 : decode cX2_reveal 45 = .ok (.iload_n 1, 1) := by decide +kernel
theorem dX2_reveal_46 : decode cX2_reveal 46 = .ok (.ishl, 1) := by decide +kernel
theorem dX2_reveal_47 : decode cX2_reveal 47 = .ok (.ior, 1) := by decide +kernel
theorem dX2_reveal_48 : decode cX2_reveal 48 = .ok (.putfield 63, 3) := by decide +kernel
theorem dX2_reveal_51 : decode cX2_reveal 51 = .ok (.return_, 1) := by decide +kernel
theorem dX2_conceal_0 : decode cX2_conceal 0 = .ok (.aload_n 0, 1) := by decide +kernel
theorem dX2_conceal_1 : decode cX2_conceal 1 = .ok (.aload_n 0, 1) := by decide +kernel
theorem dX2_conceal_2 : decode cX2_conceal 2 = .ok (.getfield 36, 3) := by decide +kernel
theorem dX2_conceal_5 : decode cX2_conceal 5 = .ok (.invokevirtual 89, 3) := by decide +kernel
theorem dX2_conceal_8 : decode cX2_conceal 8 = .ok (.ifCond .eq 13, 3) := by decide +kernel
theorem dX2_conceal_11 : decode cX2_conceal 11 = .ok (.aload_n 0, 1) := by decide +kernel
theorem dX2_conceal_12 : decode cX2_conceal 12 = .ok (.getfield 24, 3) := by decide +kernel
theorem dX2_conceal_15 : decode cX2_conceal 15 = .ok (.aload_n 0, 1) := by decide +kernel
theorem dX2_conceal_16 : decode cX2_conceal 16 = .ok (.getfield 36, 3) := by decide +kernel
theorem dX2_conceal_19 : decode cX2_conceal 19 = .ok (.iload_n 2, 1) := by decide +kernel
theorem dX2_conceal_20 : decode cX2_conceal 20 = .ok (.iastore, 1) := by decide +kernel
theorem dX2_conceal_21 : decode cX2_conceal 21 = .ok (.aload_n 0, 1) := by decide +kernel
theorem dX2_conceal_22 : decode cX2_conceal 22 = .ok (.getfield 21, 3) := by decide +kernel
theorem dX2_conceal_25 : decode cX2_conceal 25 = .ok (.iload_n 1, 1) := by decide +kernel
theorem dX2_conceal_26 : decode cX2_conceal 26 = .ok (.dup2, 1) := by decide +kernel
theorem dX2_conceal_27 : decode cX2_conceal 27 = .ok (.iaload, 1) := by decide +kernel
theorem dX2_conceal_28 : decode cX2_conceal 28 = .ok (.iconst 1, 1) := by decide +kernel
theorem dX2_conceal_29 : decode cX2_conceal 29 = .ok (.isub, 1) := by decide +kernel
theorem dX2_conceal_30 : decode cX2_conceal 30 = .ok (.iastore, 1) := by decide +kernel
theorem dX2_conceal_31 : decode cX2_conceal 31 = .ok (.aload_n 0, 1) := by decide +kernel
theorem dX2_conceal_32 : decode cX2_conceal 32 = .ok (.dup, 1) := by decide +kernel
theorem dX2_conceal_33 : decode cX2_conceal 33 = .ok (.getfield 63, 3) := by decide +kernel
theorem dX2_conceal_36 : decode cX2_conceal 36 = .ok (.iconst 1, 1) := by decide +kernel
theorem dX2_conceal_37 : decode cX2_conceal 37 = .ok (.iload_n 1, 1) := by decide +kernel
theorem dX2_conceal_38 : decode cX2_conceal 38 = .ok (.ishl, 1) := by decide +kernel
theorem dX2_conceal_39 : decode cX2_conceal 39 = .ok (.iconst (-1), 1) := by decide +kernel
theorem dX2_conceal_40 : decode cX2_conceal 40 = .ok (.ixor, 1) := by decide +kernel
theorem dX2_conceal_41 : decode cX2_conceal 41 = .ok (.iand, 1) := by decide +kernel
theorem dX2_conceal_42 : decode cX2_conceal 42 = .ok (.putfield 63, 3) := by decide +kernel
theorem dX2_conceal_45 : decode cX2_conceal 45 = .ok (.return_, 1) := by decide +kernel
theorem dX2_hear_0 : decode cX2_hear 0 = .ok (.aload_n 0, 1) := by decide +kernel
theorem dX2_hear_1 : decode cX2_hear 1 = .ok (.getfield 24, 3) := by decide +kernel
theorem dX2_hear_4 : decode cX2_hear 4 = .ok (.iload_n 1, 1) := by decide +kernel
theorem dX2_hear_5 : decode cX2_hear 5 = .ok (.iaload, 1) := by decide +kernel
theorem dX2_hear_6 : decode cX2_hear 6 = .ok (.istore_n 2, 1) := by decide +kernel
theorem dX2_hear_7 : decode cX2_hear 7 = .ok (.aload_n 0, 1) := by decide +kernel
theorem dX2_hear_8 : decode cX2_hear 8 = .ok (.iload_n 1, 1) := by decide +kernel
theorem dX2_hear_9 : decode cX2_hear 9 = .ok (.invokevirtual 93, 3) := by decide +kernel
theorem dX2_hear_12 : decode cX2_hear 12 = .ok (.ifCond .eq 65, 3) := by decide +kernel
theorem dX2_hear_15 : decode cX2_hear 15 = .ok (.iload_n 2, 1) := by decide +kernel
theorem dX2_hear_16 : decode cX2_hear 16 = .ok (.aload_n 0, 1) := by decide +kernel
theorem dX2_hear_17 : decode cX2_hear 17 = .ok (.getfield 45, 3) := by decide +kernel
theorem dX2_hear_20 : decode cX2_hear 20 = .ok (.if_icmp .eq 11, 3) := by decide +kernel
theorem dX2_hear_23 : decode cX2_hear 23 = .ok (.iload_n 2, 1) := by decide +kernel
theorem dX2_hear_24 : decode cX2_hear 24 = .ok (.aload_n 0, 1) := by decide +kernel
theorem dX2_hear_25 : decode cX2_hear 25 = .ok (.getfield 48, 3) := by decide +kernel
theorem dX2_hear_28 : decode cX2_hear 28 = .ok (.if_icmp .ne 49, 3) := by decide +kernel
theorem dX2_hear_31 : decode cX2_hear 31 = .ok (.aload_n 0, 1) := by decide +kernel
theorem dX2_hear_32 : decode cX2_hear 32 = .ok (.getfield 33, 3) := by decide +kernel
theorem dX2_hear_35 : decode cX2_hear 35 = .ok (.iload_n 1, 1) := by decide +kernel
theorem dX2_hear_36 : decode cX2_hear 36 = .ok (.iload_n 2, 1) := by decide +kernel
theorem dX2_hear_37 : decode cX2_hear 37 = .ok (.iastore, 1) := by decide +kernel
theorem dX2_hear_38 : decode cX2_hear 38 = .ok (.aload_n 0, 1) := by decide +kernel
theorem dX2_hear_39 : decode cX2_hear 39 = .ok (.iload_n 2, 1) := by decide +kernel
theorem dX2_hear_40 : decode cX2_hear 40 = .ok (.aload_n 0, 1) := by decide +kernel
theorem dX2_hear_41 : decode cX2_hear 41 = .ok (.getfield 45, 3) := by decide +kernel
theorem dX2_hear_44 : decode cX2_hear 44 = .ok (.if_icmp .ne 7, 3) := by decide +kernel
theorem dX2_hear_47 : decode cX2_hear 47 = .ok (.iconst 1, 1) := by decide +kernel
theorem dX2_hear_48 : decode cX2_hear 48 = .ok (.goto 4, 3) := by decide +kernel
theorem dX2_hear_51 : decode cX2_hear 51 = .ok (.iconst 0, 1) := by decide +kernel
theorem dX2_hear_52 : decode cX2_hear 52 = .ok (.putfield 69, 3) := by decide +kernel
theorem dX2_hear_55 : decode cX2_hear 55 = .ok (.aload_n 0, 1) := by decide +kernel
theorem dX2_hear_56 : decode cX2_hear 56 = .ok (.dup, 1) := by decide +kernel
theorem dX2_hear_57 : decode cX2_hear 57 = .ok (.getfield 66, 3) := by decide +kernel
theorem dX2_hear_60 : decode cX2_hear 60 = .ok (.iload_n 2, 1) := by decide +kernel
theorem dX2_hear_61 : decode cX2_hear 61 = .ok (.aload_n 0, 1) := by decide +kernel
theorem dX2_hear_62 : decode cX2_hear 62 = .ok (.getfield 48, 3) := by decide +kernel
theorem dX2_hear_65 : decode cX2_hear 65 = .ok (.if_icmp .ne 7, 3) := by decide +kernel
theorem dX2_hear_68 : decode cX2_hear 68 = .ok (.iconst 1, 1) := by decide +kernel
theorem dX2_hear_69 : decode cX2_hear 69 = .ok (.goto 4, 3) := by decide +kernel
theorem dX2_hear_72 : decode cX2_hear 72 = .ok (.iconst 0, 1) := by decide +kernel
theorem dX2_hear_73 : decode cX2_hear 73 = .ok (.iadd, 1) := by decide +kernel
theorem dX2_hear_74 : decode cX2_hear 74 = .ok (.putfield 66, 3) := by decide +kernel
theorem dX2_hear_77 : decode cX2_hear 77 = .ok (.aload_n 0, 1) := by decide +kernel
theorem dX2_hear_78 : decode cX2_hear 78 = .ok (.dup, 1) := by decide +kernel
theorem dX2_hear_79 : decode cX2_hear 79 = .ok (.getfield 60, 3) := by decide +kernel
theorem dX2_hear_82 : decode cX2_hear 82 = .ok (.iconst 1, 1) := by decide +kernel
theorem dX2_hear_83 : decode cX2_hear 83 = .ok (.iload_n 1, 1) := by decide +kernel
theorem dX2_hear_84 : decode cX2_hear 84 = .ok (.ishl, 1) := by decide +kernel
theorem dX2_hear_85 : decode cX2_hear 85 = .ok (.ior, 1) := by decide +kernel
theorem dX2_hear_86 : decode cX2_hear 86 = .ok (.putfield 60, 3) := by decide +kernel
theorem dX2_hear_89 : decode cX2_hear 89 = .ok (.aload_n 0, 1) := by decide +kernel
theorem dX2_hear_90 : decode cX2_hear 90 = .ok (.iconst (-1), 1) := by decide +kernel
theorem dX2_hear_91 : decode cX2_hear 91 = .ok (.putfield 36, 3) := by decide +kernel
theorem dX2_hear_94 : decode cX2_hear 94 = .ok (.aload_n 0, 1) := by decide +kernel
theorem dX2_hear_95 : decode cX2_hear 95 = .ok (.iconst 0, 1) := by decide +kernel
theorem dX2_hear_96 : decode cX2_hear 96 = .ok (.putfield 63, 3) := by decide +kernel
theorem dX2_hear_99 : decode cX2_hear 99 = .ok (.return_, 1) := by decide +kernel
theorem dX2_unhear_0 : decode cX2_unhear 0 = .ok (.aload_n 0, 1) := by decide +kernel
theorem dX2_unhear_1 : decode cX2_unhear 1 = .ok (.iconst 0, 1) := by decide +kernel
theorem dX2_unhear_2 : decode cX2_unhear 2 = .ok (.putfield 69, 3) := by decide +kernel
theorem dX2_unhear_5 : decode cX2_unhear 5 = .ok (.aload_n 0, 1) := by decide +kernel
theorem dX2_unhear_6 : decode cX2_unhear 6 = .ok (.dup, 1) := by decide +kernel
theorem dX2_unhear_7 : decode cX2_unhear 7 = .ok (.getfield 66, 3) := by decide +kernel
theorem dX2_unhear_10 : decode cX2_unhear 10 = .ok (.aload_n 0, 1) := by decide +kernel
theorem dX2_unhear_11 : decode cX2_unhear 11 = .ok (.getfield 33, 3) := by decide +kernel
theorem dX2_unhear_14 : decode cX2_unhear 14 = .ok (.iload_n 1, 1) := by decide +kernel
theorem dX2_unhear_15 : decode cX2_unhear 15 = .ok (.iaload, 1) := by decide +kernel
theorem dX2_unhear_16 : decode cX2_unhear 16 = .ok (.aload_n 0, 1) := by decide +kernel
theorem dX2_unhear_17 : decode cX2_unhear 17 = .ok (.getfield 48, 3) := by decide +kernel
theorem dX2_unhear_20 : decode cX2_unhear 20 = .ok (.if_icmp .ne 7, 3) := by decide +kernel
theorem dX2_unhear_23 : decode cX2_unhear 23 = .ok (.iconst 1, 1) := by decide +kernel
theorem dX2_unhear_24 : decode cX2_unhear 24 = .ok (.goto 4, 3) := by decide +kernel
theorem dX2_unhear_27 : decode cX2_unhear 27 = .ok (.iconst 0, 1) := by decide +kernel
theorem dX2_unhear_28 : decode cX2_unhear 28 = .ok (.isub, 1) := by decide +kernel
theorem dX2_unhear_29 : decode cX2_unhear 29 = .ok (.putfield 66, 3) := by decide +kernel
theorem dX2_unhear_32 : decode cX2_unhear 32 = .ok (.aload_n 0, 1) := by decide +kernel
theorem dX2_unhear_33 : decode cX2_unhear 33 = .ok (.getfield 33, 3) := by decide +kernel
theorem dX2_unhear_36 : decode cX2_unhear 36 = .ok (.iload_n 1, 1) := by decide +kernel
theorem dX2_unhear_37 : decode cX2_unhear 37 = .ok (.ldc 40, 2) := by decide +kernel
theorem dX2_unhear_39 : decode cX2_unhear 39 = .ok (.iastore, 1) := by decide +kernel
theorem dX2_unhear_40 : decode cX2_unhear 40 = .ok (.aload_n 0, 1) := by decide +kernel
theorem dX2_unhear_41 : decode cX2_unhear 41 = .ok (.dup, 1) := by decide +kernel
theorem dX2_unhear_42 : decode cX2_unhear 42 = .ok (.getfield 60, 3) := by decide +kernel
theorem dX2_unhear_45 : decode cX2_unhear 45 = .ok (.iconst 1, 1) := by decide +kernel
theorem dX2_unhear_46 : decode cX2_unhear 46 = .ok (.iload_n 1, 1) := by decide +kernel
theorem dX2_unhear_47 : decode cX2_unhear 47 = .ok (.ishl, 1) := by decide +kernel
theorem dX2_unhear_48 : decode cX2_unhear 48 = .ok (.iconst (-1), 1) := by decide +kernel
theorem dX2_unhear_49 : decode cX2_unhear 49 = .ok (.ixor, 1) := by decide +kernel
theorem dX2_unhear_50 : decode cX2_unhear 50 = .ok (.iand, 1) := by decide +kernel
theorem dX2_unhear_51 : decode cX2_unhear 51 = .ok (.putfield 60, 3) := by decide +kernel
theorem dX2_unhear_54 : decode cX2_unhear 54 = .ok (.aload_n 0, 1) := by decide +kernel
theorem dX2_unhear_55 : decode cX2_unhear 55 = .ok (.iload_n 1, 1) := by decide +kernel
theorem dX2_unhear_56 : decode cX2_unhear 56 = .ok (.putfield 36, 3) := by decide +kernel
theorem dX2_unhear_59 : decode cX2_unhear 59 = .ok (.aload_n 0, 1) := by decide +kernel
theorem dX2_unhear_60 : decode cX2_unhear 60 = .ok (.iload_n 2, 1) := by decide +kernel
theorem dX2_unhear_61 : decode cX2_unhear 61 = .ok (.putfield 63, 3) := by decide +kernel
theorem dX2_unhear_64 : decode cX2_unhear 64 = .ok (.return_, 1) := by decide +kernel
theorem dX2_forth_0 : decode cX2_forth 0 = .ok (.aload_n 0, 1) := by decide +kernel
theorem dX2_forth_1 : decode cX2_forth 1 = .ok (.getfield 9, 3) := by decide +kernel
theorem dX2_forth_4 : decode cX2_forth 4 = .ok (.iload_n 1, 1) := by decide +kernel
theorem dX2_forth_5 : decode cX2_forth 5 = .ok (.iaload, 1) := by decide +kernel
theorem dX2_forth_6 : decode cX2_forth 6 = .ok (.tableswitch 66 2 4 #[26, 46, 64], 26) := by decide +kernel
theorem dX2_forth_32 : decode cX2_forth 32 = .ok (.iconst 1, 1) := by decide +kernel
theorem dX2_forth_33 : decode cX2_forth 33 = .ok (.aload_n 0, 1) := by decide +kernel
theorem dX2_forth_34 : decode cX2_forth 34 = .ok (.getfield 15, 3) := by decide +kernel
theorem dX2_forth_37 : decode cX2_forth 37 = .ok (.iload_n 1, 1) := by decide +kernel
theorem dX2_forth_38 : decode cX2_forth 38 = .ok (.iaload, 1) := by decide +kernel
theorem dX2_forth_39 : decode cX2_forth 39 = .ok (.ishl, 1) := by decide +kernel
theorem dX2_forth_40 : decode cX2_forth 40 = .ok (.iconst 1, 1) := by decide +kernel
theorem dX2_forth_41 : decode cX2_forth 41 = .ok (.aload_n 0, 1) := by decide +kernel
theorem dX2_forth_42 : decode cX2_forth 42 = .ok (.getfield 15, 3) := by decide +kernel
theorem dX2_forth_45 : decode cX2_forth 45 = .ok (.iload_n 1, 1) := by decide +kernel
theorem dX2_forth_46 : decode cX2_forth 46 = .ok (.iaload, 1) := by decide +kernel
theorem dX2_forth_47 : decode cX2_forth 47 = .ok (.ishl, 1) := by decide +kernel
theorem dX2_forth_48 : decode cX2_forth 48 = .ok (.iconst 1, 1) := by decide +kernel
theorem dX2_forth_49 : decode cX2_forth 49 = .ok (.ishr, 1) := by decide +kernel
theorem dX2_forth_50 : decode cX2_forth 50 = .ok (.ior, 1) := by decide +kernel
theorem dX2_forth_51 : decode cX2_forth 51 = .ok (.ireturn, 1) := by decide +kernel
theorem dX2_forth_52 : decode cX2_forth 52 = .ok (.iload_n 2, 1) := by decide +kernel
theorem dX2_forth_53 : decode cX2_forth 53 = .ok (.iconst 2, 1) := by decide +kernel
theorem dX2_forth_54 : decode cX2_forth 54 = .ok (.if_icmp .ge 14, 3) := by decide +kernel
theorem dX2_forth_57 : decode cX2_forth 57 = .ok (.iconst 1, 1) := by decide +kernel
theorem dX2_forth_58 : decode cX2_forth 58 = .ok (.aload_n 0, 1) := by decide +kernel
theorem dX2_forth_59 : decode cX2_forth 59 = .ok (.getfield 15, 3) := by decide +kernel
theorem dX2_forth_62 : decode cX2_forth 62 = .ok (.iload_n 1, 1) := by decide +kernel
theorem dX2_forth_63 : decode cX2_forth 63 = .ok (.iaload, 1) := by decide +kernel
theorem dX2_forth_64 : decode cX2_forth 64 = .ok (.ishl, 1) := by decide +kernel
theorem dX2_forth_65 : decode cX2_forth 65 = .ok (.goto 4, 3) := by decide +kernel
theorem dX2_forth_68 : decode cX2_forth 68 = .ok (.iconst 0, 1) := by decide +kernel
theorem dX2_forth_69 : decode cX2_forth 69 = .ok (.ireturn, 1) := by decide +kernel
theorem dX2_forth_70 : decode cX2_forth 70 = .ok (.iconst 0, 1) := by decide +kernel
theorem dX2_forth_71 : decode cX2_forth 71 = .ok (.ireturn, 1) := by decide +kernel
theorem dX2_forth_72 : decode cX2_forth 72 = .ok (.iconst 1, 1) := by decide +kernel
theorem dX2_forth_73 : decode cX2_forth 73 = .ok (.aload_n 0, 1) := by decide +kernel
theorem dX2_forth_74 : decode cX2_forth 74 = .ok (.getfield 15, 3) := by decide +kernel
theorem dX2_forth_77 : decode cX2_forth 77 = .ok (.iload_n 1, 1) := by decide +kernel
theorem dX2_forth_78 : decode cX2_forth 78 = .ok (.iaload, 1) := by decide +kernel
theorem dX2_forth_79 : decode cX2_forth 79 = .ok (.ishl, 1) := by decide +kernel
theorem dX2_forth_80 : decode cX2_forth 80 = .ok (.ireturn, 1) := by decide +kernel
theorem dX2_back_0 : decode cX2_back 0 = .ok (.aload_n 0, 1) := by decide +kernel
theorem dX2_back_1 : decode cX2_back 1 = .ok (.getfield 9, 3) := by decide +kernel
theorem dX2_back_4 : decode cX2_back 4 = .ok (.iload_n 1, 1) := by decide +kernel
theorem dX2_back_5 : decode cX2_back 5 = .ok (.iaload, 1) := by decide +kernel
theorem dX2_back_6 : decode cX2_back 6 = .ok (.iconst 4, 1) := by decide +kernel
theorem dX2_back_7 : decode cX2_back 7 = .ok (.if_icmp .eq 13, 3) := by decide +kernel
theorem dX2_back_10 : decode cX2_back 10 = .ok (.aload_n 0, 1) := by decide +kernel
theorem dX2_back_11 : decode cX2_back 11 = .ok (.getfield 9, 3) := by decide +kernel
theorem dX2_back_14 : decode cX2_back 14 = .ok (.iload_n 1, 1) := by decide +kernel
theorem dX2_back_15 : decode cX2_back 15 = .ok (.iaload, 1) := by decide +kernel
theorem dX2_back_16 : decode cX2_back 16 = .ok (.iconst 5, 1) := by decide +kernel
theorem dX2_back_17 : decode cX2_back 17 = .ok (.if_icmp .ne 14, 3) := by decide +kernel
theorem dX2_back_20 : decode cX2_back 20 = .ok (.iconst 1, 1) := by decide +kernel
theorem dX2_back_21 : decode cX2_back 21 = .ok (.aload_n 0, 1) := by decide +kernel
theorem dX2_back_22 : decode cX2_back 22 = .ok (.getfield 18, 3) := by decide +kernel
theorem dX2_back_25 : decode cX2_back 25 = .ok (.iload_n 1, 1) := by decide +kernel
theorem dX2_back_26 : decode cX2_back 26 = .ok (.iaload, 1) := by decide +kernel
theorem dX2_back_27 : decode cX2_back 27 = .ok (.ishl, 1) := by decide +kernel
theorem dX2_back_28 : decode cX2_back 28 = .ok (.goto 4, 3) := by decide +kernel
theorem dX2_back_31 : decode cX2_back 31 = .ok (.iconst 0, 1) := by decide +kernel
theorem dX2_back_32 : decode cX2_back 32 = .ok (.ireturn, 1) := by decide +kernel
theorem dX2_ledFrom_0 : decode cX2_ledFrom 0 = .ok (.aload_n 0, 1) := by decide +kernel
theorem dX2_ledFrom_1 : decode cX2_ledFrom 1 = .ok (.iload_n 2, 1) := by decide +kernel
theorem dX2_ledFrom_2 : decode cX2_ledFrom 2 = .ok (.iload_n 3, 1) := by decide +kernel
theorem dX2_ledFrom_3 : decode cX2_ledFrom 3 = .ok (.invokevirtual 96, 3) := by decide +kernel
theorem dX2_ledFrom_6 : decode cX2_ledFrom 6 = .ok (.iload_n 1, 1) := by decide +kernel
theorem dX2_ledFrom_7 : decode cX2_ledFrom 7 = .ok (.invokestatic 82, 3) := by decide +kernel
theorem dX2_ledFrom_10 : decode cX2_ledFrom 10 = .ok (.ifCond .eq 10, 3) := by decide +kernel
theorem dX2_ledFrom_13 : decode cX2_ledFrom 13 = .ok (.aload_n 0, 1) := by decide +kernel
theorem dX2_ledFrom_14 : decode cX2_ledFrom 14 = .ok (.getfield 18, 3) := by decide +kernel
theorem dX2_ledFrom_17 : decode cX2_ledFrom 17 = .ok (.iload_n 2, 1) := by decide +kernel
theorem dX2_ledFrom_18 : decode cX2_ledFrom 18 = .ok (.iaload, 1) := by decide +kernel
theorem dX2_ledFrom_19 : decode cX2_ledFrom 19 = .ok (.ireturn, 1) := by decide +kernel
theorem dX2_ledFrom_20 : decode cX2_ledFrom 20 = .ok (.aload_n 0, 1) := by decide +kernel
theorem dX2_ledFrom_21 : decode cX2_ledFrom 21 = .ok (.iload_n 2, 1) := by decide +kernel
theorem dX2_ledFrom_22 : decode cX2_ledFrom 22 = .ok (.invokevirtual 100, 3) := by decide +kernel
theorem dX2_ledFrom_25 : decode cX2_ledFrom 25 = .ok (.iload_n 1, 1) := by decide +kernel
theorem dX2_ledFrom_26 : decode cX2_ledFrom 26 = .ok (.invokestatic 82, 3) := by decide +kernel
theorem dX2_ledFrom_29 : decode cX2_ledFrom 29 = .ok (.ifCond .eq 12, 3) := by decide +kernel
theorem dX2_ledFrom_32 : decode cX2_ledFrom 32 = .ok (.aload_n 0, 1) := by decide +kernel
theorem dX2_ledFrom_33 : decode cX2_ledFrom 33 = .ok (.getfield 15, 3) := by decide +kernel
theorem dX2_ledFrom_36 : decode cX2_ledFrom 36 = .ok (.iload_n 2, 1) := by decide +kernel
theorem dX2_ledFrom_37 : decode cX2_ledFrom 37 = .ok (.iaload, 1) := by decide +kernel
theorem dX2_ledFrom_38 : decode cX2_ledFrom 38 = .ok (.goto 4, 3) := by decide +kernel
theorem dX2_ledFrom_41 : decode cX2_ledFrom 41 = .ok (.iload_n 1, 1) := by decide +kernel
theorem dX2_ledFrom_42 : decode cX2_ledFrom 42 = .ok (.ireturn, 1) := by decide +kernel
theorem dX2_allHints_0 : decode cX2_allHints 0 = .ok (.iconst 1, 1) := by decide +kernel
theorem dX2_allHints_1 : decode cX2_allHints 1 = .ok (.aload_n 0, 1) := by decide +kernel
theorem dX2_allHints_2 : decode cX2_allHints 2 = .ok (.getfield 54, 3) := by decide +kernel
theorem dX2_allHints_5 : decode cX2_allHints 5 = .ok (.ishl, 1) := by decide +kernel
theorem dX2_allHints_6 : decode cX2_allHints 6 = .ok (.iconst 1, 1) := by decide +kernel
theorem dX2_allHints_7 : decode cX2_allHints 7 = .ok (.isub, 1) := by decide +kernel
theorem dX2_allHints_8 : decode cX2_allHints 8 = .ok (.ireturn, 1) := by decide +kernel
theorem dX2_hintsAhead_0 : decode cX2_hintsAhead 0 = .ok (.aload_n 0, 1) := by decide +kernel
theorem dX2_hintsAhead_1 : decode cX2_hintsAhead 1 = .ok (.getfield 36, 3) := by decide +kernel
theorem dX2_hintsAhead_4 : decode cX2_hintsAhead 4 = .ok (.iload_n 1, 1) := by decide +kernel
theorem dX2_hintsAhead_5 : decode cX2_hintsAhead 5 = .ok (.if_icmp .ne 17, 3) := by decide +kernel
theorem dX2_hintsAhead_8 : decode cX2_hintsAhead 8 = .ok (.aload_n 0, 1) := by decide +kernel
theorem dX2_hintsAhead_9 : decode cX2_hintsAhead 9 = .ok (.invokevirtual 104, 3) := by decide +kernel
theorem dX2_hintsAhead_12 : decode cX2_hintsAhead 12 = .ok (.aload_n 0, 1) := by decide +kernel
theorem dX2_hintsAhead_13 : decode cX2_hintsAhead 13 = .ok (.getfield 63, 3) := by decide +kernel
theorem dX2_hintsAhead_16 : decode cX2_hintsAhead 16 = .ok (.iconst (-1), 1) := by decide +kernel
theorem dX2_hintsAhead_17 : decode cX2_hintsAhead 17 = .ok (.ixor, 1) := by decide +kernel
theorem dX2_hintsAhead_18 : decode cX2_hintsAhead 18 = .ok (.iand, 1) := by decide +kernel
theorem dX2_hintsAhead_19 : decode cX2_hintsAhead 19 = .ok (.goto 7, 3) := by decide +kernel
theorem dX2_hintsAhead_22 : decode cX2_hintsAhead 22 = .ok (.aload_n 0, 1) := by decide +kernel
theorem dX2_hintsAhead_23 : decode cX2_hintsAhead 23 = .ok (.invokevirtual 104, 3) := by decide +kernel
theorem dX2_hintsAhead_26 : decode cX2_hintsAhead 26 = .ok (.ireturn, 1) := by decide +kernel
theorem dX2_leftAhead_0 : decode cX2_leftAhead 0 = .ok (.aload_n 0, 1) := by decide +kernel
theorem dX2_leftAhead_1 : decode cX2_leftAhead 1 = .ok (.getfield 36, 3) := by decide +kernel
theorem dX2_leftAhead_4 : decode cX2_leftAhead 4 = .ok (.iload_n 1, 1) := by decide +kernel
theorem dX2_leftAhead_5 : decode cX2_leftAhead 5 = .ok (.if_icmp .ne 18, 3) := by decide +kernel
theorem dX2_leftAhead_8 : decode cX2_leftAhead 8 = .ok (.aload_n 0, 1) := by decide +kernel
theorem dX2_leftAhead_9 : decode cX2_leftAhead 9 = .ok (.getfield 51, 3) := by decide +kernel
theorem dX2_leftAhead_12 : decode cX2_leftAhead 12 = .ok (.aload_n 0, 1) := by decide +kernel
theorem dX2_leftAhead_13 : decode cX2_leftAhead 13 = .ok (.getfield 63, 3) := by decide +kernel
theorem dX2_leftAhead_16 : decode cX2_leftAhead 16 = .ok (.invokestatic 108, 3) := by decide +kernel
theorem dX2_leftAhead_19 : decode cX2_leftAhead 19 = .ok (.isub, 1) := by decide +kernel
theorem dX2_leftAhead_20 : decode cX2_leftAhead 20 = .ok (.goto 7, 3) := by decide +kernel
theorem dX2_leftAhead_23 : decode cX2_leftAhead 23 = .ok (.aload_n 0, 1) := by decide +kernel
theorem dX2_leftAhead_24 : decode cX2_leftAhead 24 = .ok (.getfield 51, 3) := by decide +kernel
theorem dX2_leftAhead_27 : decode cX2_leftAhead 27 = .ok (.ireturn, 1) := by decide +kernel
theorem dX2_thoughtsToCome_0 : decode cX2_thoughtsToCome 0 = .ok (.iconst 0, 1) := by decide +kernel
theorem dX2_thoughtsToCome_1 : decode cX2_thoughtsToCome 1 = .ok (.istore_n 1, 1) := by decide +kernel
theorem dX2_thoughtsToCome_2 : decode cX2_thoughtsToCome 2 = .ok (.iconst 0, 1) := by decide +kernel
theorem dX2_thoughtsToCome_3 : decode cX2_thoughtsToCome 3 = .ok (.istore_n 2, 1) := by decide +kernel
theorem dX2_thoughtsToCome_4 : decode cX2_thoughtsToCome 4 = .ok (.iload_n 2, 1) := by decide +kernel
theorem dX2_thoughtsToCome_5 : decode cX2_thoughtsToCome 5 = .ok (.aload_n 0, 1) := by decide +kernel
theorem dX2_thoughtsToCome_6 : decode cX2_thoughtsToCome 6 = .ok (.getfield 57, 3) := by decide +kernel
theorem dX2_thoughtsToCome_9 : decode cX2_thoughtsToCome 9 = .ok (.if_icmp .ge 28, 3) := by decide +kernel
theorem dX2_thoughtsToCome_12 : decode cX2_thoughtsToCome 12 = .ok (.aload_n 0, 1) := by decide +kernel
theorem dX2_thoughtsToCome_13 : decode cX2_thoughtsToCome 13 = .ok (.iload_n 2, 1) := by decide +kernel
theorem dX2_thoughtsToCome_14 : decode cX2_thoughtsToCome 14 = .ok (.invokevirtual 113, 3) := by decide +kernel
theorem dX2_thoughtsToCome_17 : decode cX2_thoughtsToCome 17 = .ok (.ifCond .ne 14, 3) := by decide +kernel
theorem dX2_thoughtsToCome_20 : decode cX2_thoughtsToCome 20 = .ok (.iload_n 1, 1) := by decide +kernel
theorem dX2_thoughtsToCome_21 : decode cX2_thoughtsToCome 21 = .ok (.iconst 1, 1) := by decide +kernel
theorem dX2_thoughtsToCome_22 : decode cX2_thoughtsToCome 22 = .ok (.aload_n 0, 1) := by decide +kernel
theorem dX2_thoughtsToCome_23 : decode cX2_thoughtsToCome 23 = .ok (.getfield 24, 3) := by decide +kernel
theorem dX2_thoughtsToCome_26 : decode cX2_thoughtsToCome 26 = .ok (.iload_n 2, 1) := by decide +kernel
theorem dX2_thoughtsToCome_27 : decode cX2_thoughtsToCome 27 = .ok (.iaload, 1) := by decide +kernel
theorem dX2_thoughtsToCome_28 : decode cX2_thoughtsToCome 28 = .ok (.ishl, 1) := by decide +kernel
theorem dX2_thoughtsToCome_29 : decode cX2_thoughtsToCome 29 = .ok (.ior, 1) := by decide +kernel
theorem dX2_thoughtsToCome_30 : decode cX2_thoughtsToCome 30 = .ok (.istore_n 1, 1) := by decide +kernel
theorem dX2_thoughtsToCome_31 : decode cX2_thoughtsToCome 31 = .ok (.iinc 2 1, 3) := by decide +kernel
theorem dX2_thoughtsToCome_34 : decode cX2_thoughtsToCome 34 = .ok (.goto (-30), 3) := by decide +kernel
theorem dX2_thoughtsToCome_37 : decode cX2_thoughtsToCome 37 = .ok (.iload_n 1, 1) := by decide +kernel
theorem dX2_thoughtsToCome_38 : decode cX2_thoughtsToCome 38 = .ok (.ireturn, 1) := by decide +kernel
theorem dX2_toComeWith_0 : decode cX2_toComeWith 0 = .ok (.iconst 0, 1) := by decide +kernel
theorem dX2_toComeWith_1 : decode cX2_toComeWith 1 = .ok (.istore_n 2, 1) := by decide +kernel
theorem dX2_toComeWith_2 : decode cX2_toComeWith 2 = .ok (.iconst 0, 1) := by decide +kernel
theorem dX2_toComeWith_3 : decode cX2_toComeWith 3 = .ok (.istore_n 3, 1) := by decide +kernel
theorem dX2_toComeWith_4 : decode cX2_toComeWith 4 = .ok (.iload_n 3, 1) := by decide +kernel
theorem dX2_toComeWith_5 : decode cX2_toComeWith 5 = .ok (.aload_n 0, 1) := by decide +kernel
theorem dX2_toComeWith_6 : decode cX2_toComeWith 6 = .ok (.getfield 57, 3) := by decide +kernel
theorem dX2_toComeWith_9 : decode cX2_toComeWith 9 = .ok (.if_icmp .ge 33, 3) := by decide +kernel
theorem dX2_toComeWith_12 : decode cX2_toComeWith 12 = .ok (.aload_n 0, 1) := by decide +kernel
theorem dX2_toComeWith_13 : decode cX2_toComeWith 13 = .ok (.iload_n 3, 1) := by decide +kernel
theorem dX2_toComeWith_14 : decode cX2_toComeWith 14 = .ok (.invokevirtual 113, 3) := by decide +kernel
theorem dX2_toComeWith_17 : decode cX2_toComeWith 17 = .ok (.ifCond .ne 19, 3) := by decide +kernel
theorem dX2_toComeWith_20 : decode cX2_toComeWith 20 = .ok (.iload_n 1, 1) := by decide +kernel
theorem dX2_toComeWith_21 : decode cX2_toComeWith 21 = .ok (.aload_n 0, 1) := by decide +kernel
theorem dX2_toComeWith_22 : decode cX2_toComeWith 22 = .ok (.getfield 24, 3) := by decide +kernel
theorem dX2_toComeWith_25 : decode cX2_toComeWith 25 = .ok (.iload_n 3, 1) := by decide +kernel
theorem dX2_toComeWith_26 : decode cX2_toComeWith 26 = .ok (.iaload, 1) := by decide +kernel
theorem dX2_toComeWith_27 : decode cX2_toComeWith 27 = .ok (.invokestatic 82, 3) := by decide +kernel
theorem dX2_toComeWith_30 : decode cX2_toComeWith 30 = .ok (.ifCond .eq 6, 3) := by decide +kernel
theorem dX2_toComeWith_33 : decode cX2_toComeWith 33 = .ok (.iinc 2 1, 3) := by decide +kernel
theorem dX2_toComeWith_36 : decode cX2_toComeWith 36 = .ok (.iinc 3 1, 3) := by decide +kernel
theorem dX2_toComeWith_39 : decode cX2_toComeWith 39 = .ok (.goto (-35), 3) := by decide +kernel
theorem dX2_toComeWith_42 : decode cX2_toComeWith 42 = .ok (.iload_n 2, 1) := by decide +kernel
theorem dX2_toComeWith_43 : decode cX2_toComeWith 43 = .ok (.ireturn, 1) := by decide +kernel
theorem dX3_init_0 : decode cX3_init 0 = .ok (.aload_n 0, 1) := by decide +kernel
theorem dX3_init_1 : decode cX3_init 1 = .ok (.invokespecial 3, 3) := by decide +kernel
theorem dX3_init_4 : decode cX3_init 4 = .ok (.aload_n 0, 1) := by decide +kernel
theorem dX3_init_5 : decode cX3_init 5 = .ok (.bipush 6, 2) := by decide +kernel
theorem dX3_init_7 : decode cX3_init 7 = .ok (.newarray .int, 2) := by decide +kernel
theorem dX3_init_9 : decode cX3_init 9 = .ok (.putfield 9, 3) := by decide +kernel
theorem dX3_init_12 : decode cX3_init 12 = .ok (.return_, 1) := by decide +kernel
theorem dX3_measure_0 : decode cX3_measure 0 = .ok (.iload_n 3, 1) := by decide +kernel
theorem dX3_measure_1 : decode cX3_measure 1 = .ok (.ifCond .eq 12, 3) := by decide +kernel
theorem dX3_measure_4 : decode cX3_measure 4 = .ok (.iconst 1, 1) := by decide +kernel
theorem dX3_measure_5 : decode cX3_measure 5 = .ok (.aload_n 1, 1) := by decide +kernel
theorem dX3_measure_6 : decode cX3_measure 6 = .ok (.getfield 15, 3) := by decide +kernel
theorem dX3_measure_9 : decode cX3_measure 9 = .ok (.ishl, 1) := by decide +kernel
theorem dX3_measure_10 : decode cX3_measure 10 = .ok (.goto 4, 3) := by decide +kernel
theorem dX3_measure_13 : decode cX3_measure 13 = .ok (.iconst 0, 1) := by decide +kernel
theorem dX3_measure_14 : decode cX3_measure 14 = .ok (.istore 4, 2) := by decide +kernel
theorem dX3_measure_16 : decode cX3_measure 16 = .ok (.aload_n 0, 1) := by decide +kernel
theorem dX3_measure_17 : decode cX3_measure 17 = .ok (.iload_n 2, 1) := by decide +kernel
theorem dX3_measure_18 : decode cX3_measure 18 = .ok (.putfield 21, 3) := by decide +kernel
theorem dX3_measure_21 : decode cX3_measure 21 = .ok (.aload_n 0, 1) := by decide +kernel
theorem dX3_measure_22 : decode cX3_measure 22 = .ok (.getfield 9, 3) := by decide +kernel
theorem dX3_measure_25 : decode cX3_measure 25 = .ok (.iconst 0, 1) := by decide +kernel
theorem dX3_measure_26 : decode cX3_measure 26 = .ok (.iconst 1, 1) := by decide +kernel
theorem dX3_measure_27 : decode cX3_measure 27 = .ok (.aload_n 1, 1) := by decide +kernel
theorem dX3_measure_28 : decode cX3_measure 28 = .ok (.getfield 24, 3) := by decide +kernel
theorem dX3_measure_31 : decode cX3_measure 31 = .ok (.ishl, 1) := by decide +kernel
theorem dX3_measure_32 : decode cX3_measure 32 = .ok (.iastore, 1) := by decide +kernel
theorem dX3_measure_33 : decode cX3_measure 33 = .ok (.iconst 1, 1) := by decide +kernel
theorem dX3_measure_34 : decode cX3_measure 34 = .ok (.istore 5, 2) := by decide +kernel
theorem dX3_measure_36 : decode cX3_measure 36 = .ok (.iload 5, 2) := by decide +kernel
theorem dX3_measure_38 : decode cX3_measure 38 = .ok (.aload_n 1, 1) := by decide +kernel
theorem dX3_measure_39 : decode cX3_measure 39 = .ok (.getfield 27, 3) := by decide +kernel
theorem dX3_measure_42 : decode cX3_measure 42 = .ok (.if_icmp .gt 45, 3) := by decide +kernel
theorem dX3_measure_45 : decode cX3_measure 45 = .ok (.iload 5, 2) := by decide +kernel
theorem dX3_measure_47 : decode cX3_measure 47 = .ok (.aload_n 0, 1) := by decide +kernel
theorem dX3_measure_48 : decode cX3_measure 48 = .ok (.getfield 9, 3) := by decide +kernel
theorem dX3_measure_51 : decode cX3_measure 51 = .ok (.arraylength, 1) := by decide +kernel
theorem dX3_measure_52 : decode cX3_measure 52 = .ok (.if_icmp .ge 35, 3) := by decide +kernel
theorem dX3_measure_55 : decode cX3_measure 55 = .ok (.aload_n 0, 1) := by decide +kernel
theorem dX3_measure_56 : decode cX3_measure 56 = .ok (.getfield 9, 3) := by decide +kernel
theorem dX3_measure_59 : decode cX3_measure 59 = .ok (.iload 5, 2) := by decide +kernel
theorem dX3_measure_61 : decode cX3_measure 61 = .ok (.aload_n 0, 1) := by decide +kernel
theorem dX3_measure_62 : decode cX3_measure 62 = .ok (.aload_n 1, 1) := by decide +kernel
theorem dX3_measure_63 : decode cX3_measure 63 = .ok (.aload_n 0, 1) := by decide +kernel
theorem dX3_measure_64 : decode cX3_measure 64 = .ok (.getfield 9, 3) := by decide +kernel
theorem dX3_measure_67 : decode cX3_measure 67 = .ok (.iload 5, 2) := by decide +kernel
theorem dX3_measure_69 : decode cX3_measure 69 = .ok (.iconst 1, 1) := by decide +kernel
theorem dX3_measure_70 : decode cX3_measure 70 = .ok (.isub, 1) := by decide +kernel
theorem dX3_measure_71 : decode cX3_measure 71 = .ok (.iaload, 1) := by decide +kernel
theorem dX3_measure_72 : decode cX3_measure 72 = .ok (.invokevirtual 30, 3) := by decide +kernel
theorem dX3_measure_75 : decode cX3_measure 75 = .ok (.iload 4, 2) := by decide +kernel
theorem dX3_measure_77 : decode cX3_measure 77 = .ok (.iconst (-1), 1) := by decide +kernel
theorem dX3_measure_78 : decode cX3_measure 78 = .ok (.ixor, 1) := by decide +kernel
theorem dX3_measure_79 : decode cX3_measure 79 = .ok (.iand, 1) := by decide +kernel
theorem dX3_measure_80 : decode cX3_measure 80 = .ok (.iastore, 1) := by decide +kernel
theorem dX3_measure_81 : decode cX3_measure 81 = .ok (.iinc 5 1, 3) := by decide +kernel
theorem dX3_measure_84 : decode cX3_measure 84 = .ok (.goto (-48), 3) := by decide +kernel
theorem dX3_measure_87 : decode cX3_measure 87 = .ok (.return_, 1) := by decide +kernel
theorem dX3_leadingInto_0 : decode cX3_leadingInto 0 = .ok (.iload_n 2, 1) := by decide +kernel
theorem dX3_leadingInto_1 : decode cX3_leadingInto 1 = .ok (.istore_n 3, 1) := by decide +kernel
theorem dX3_leadingInto_2 : decode cX3_leadingInto 2 = .ok (.iconst 0, 1) := by decide +kernel
theorem dX3_leadingInto_3 : decode cX3_leadingInto 3 = .ok (.istore 4, 2) := by decide +kernel
theorem dX3_leadingInto_5 : decode cX3_leadingInto 5 = .ok (.iload 4, 2) := by decide +kernel
theorem dX3_leadingInto_7 : decode cX3_leadingInto 7 = .ok (.aload_n 1, 1) := by decide +kernel
theorem dX3_leadingInto_8 : decode cX3_leadingInto 8 = .ok (.getfield 34, 3) := by decide +kernel
theorem dX3_leadingInto_11 : decode cX3_leadingInto 11 = .ok (.if_icmp .ge 82, 3) := by decide +kernel
theorem dX3_leadingInto_14 : decode cX3_leadingInto 14 = .ok (.aload_n 0, 1) := by decide +kernel
theorem dX3_leadingInto_15 : decode cX3_leadingInto 15 = .ok (.getfield 21, 3) := by decide +kernel
theorem dX3_leadingInto_18 : decode cX3_leadingInto 18 = .ok (.iload 4, 2) := by decide +kernel
theorem dX3_leadingInto_20 : decode cX3_leadingInto 20 = .ok (.invokestatic 37, 3) := by decide +kernel
theorem dX3_leadingInto_23 : decode cX3_leadingInto 23 = .ok (.ifCond .eq 64, 3) := by decide +kernel
theorem dX3_leadingInto_26 : decode cX3_leadingInto 26 = .ok (.iload_n 3, 1) := by decide +kernel
theorem dX3_leadingInto_27 : decode cX3_leadingInto 27 = .ok (.iload_n 2, 1) := by decide +kernel
theorem dX3_leadingInto_28 : decode cX3_leadingInto 28 = .ok (.aload_n 1, 1) := by decide +kernel
theorem dX3_leadingInto_29 : decode cX3_leadingInto 29 = .ok (.getfield 41, 3) := by decide +kernel
theorem dX3_leadingInto_32 : decode cX3_leadingInto 32 = .ok (.iload 4, 2) := by decide +kernel
theorem dX3_leadingInto_34 : decode cX3_leadingInto 34 = .ok (.iaload, 1) := by decide +kernel
theorem dX3_leadingInto_35 : decode cX3_leadingInto 35 = .ok (.invokestatic 37, 3) := by decide +kernel
theorem dX3_leadingInto_38 : decode cX3_leadingInto 38 = .ok (.ifCond .eq 19, 3) := by decide +kernel
theorem dX3_leadingInto_41 : decode cX3_leadingInto 41 = .ok (.aload_n 1, 1) := by decide +kernel
theorem dX3_leadingInto_42 : decode cX3_leadingInto 42 = .ok (.iload 4, 2) := by decide +kernel
theorem dX3_leadingInto_44 : decode cX3_leadingInto 44 = .ok (.aload_n 1, 1) := by decide +kernel
theorem dX3_leadingInto_45 : decode cX3_leadingInto 45 = .ok (.getfield 44, 3) := by decide +kernel
theorem dX3_leadingInto_48 : decode cX3_leadingInto 48 = .ok (.iload 4, 2) := by decide +kernel
theorem dX3_leadingInto_50 : decode cX3_leadingInto 50 = .ok (.iaload, 1) := by decide +kernel
theorem dX3_leadingInto_51 : decode cX3_leadingInto 51 = .ok (.invokevirtual 47, 3) := by decide +kernel
theorem dX3_leadingInto_54 : decode cX3_leadingInto 54 = .ok (.goto 4, 3) := by decide +kernel
theorem dX3_leadingInto_57 : decode cX3_leadingInto 57 = .ok (.iconst 0, 1) := by decide +kernel
theorem dX3_leadingInto_58 : decode cX3_leadingInto 58 = .ok (.ior, 1) := by decide +kernel
theorem dX3_leadingInto_59 : decode cX3_leadingInto 59 = .ok (.istore_n 3, 1) := by decide +kernel
theorem dX3_leadingInto_60 : decode cX3_leadingInto 60 = .ok (.iload_n 3, 1) := by decide +kernel
theorem dX3_leadingInto_61 : decode cX3_leadingInto 61 = .ok (.iload_n 2, 1) := by decide +kernel
theorem dX3_leadingInto_62 : decode cX3_leadingInto 62 = .ok (.aload_n 1, 1) := by decide +kernel
theorem dX3_leadingInto_63 : decode cX3_leadingInto 63 = .ok (.getfield 51, 3) := by decide +kernel
theorem dX3_leadingInto_66 : decode cX3_leadingInto 66 = .ok (.iload 4, 2) := by decide +kernel
theorem dX3_leadingInto_68 : decode cX3_leadingInto 68 = .ok (.iaload, 1) := by decide +kernel
theorem dX3_leadingInto_69 : decode cX3_leadingInto 69 = .ok (.invokestatic 37, 3) := by decide +kernel
theorem dX3_leadingInto_72 : decode cX3_leadingInto 72 = .ok (.ifCond .eq 12, 3) := by decide +kernel
theorem dX3_leadingInto_75 : decode cX3_leadingInto 75 = .ok (.aload_n 1, 1) := by decide +kernel
theorem dX3_leadingInto_76 : decode cX3_leadingInto 76 = .ok (.iload 4, 2) := by decide +kernel
theorem dX3_leadingInto_78 : decode cX3_leadingInto 78 = .ok (.invokevirtual 54, 3) := by decide +kernel
theorem dX3_leadingInto_81 : decode cX3_leadingInto 81 = .ok (.goto 4, 3) := by decide +kernel
theorem dX3_leadingInto_84 : decode cX3_leadingInto 84 = .ok (.iconst 0, 1) := by decide +kernel
theorem dX3_leadingInto_85 : decode cX3_leadingInto 85 = .ok (.ior, 1) := by decide +kernel
theorem dX3_leadingInto_86 : decode cX3_leadingInto 86 = .ok (.istore_n 3, 1) := by decide +kernel
theorem dX3_leadingInto_87 : decode cX3_leadingInto 87 = .ok (.iinc 4 1, 3) := by decide +kernel
theorem dX3_leadingInto_90 : decode cX3_leadingInto 90 = .ok (.goto (-85), 3) := by decide +kernel
theorem dX3_leadingInto_93 : decode cX3_leadingInto 93 = .ok (.iload_n 3, 1) := by decide +kernel
theorem dX3_leadingInto_94 : decode cX3_leadingInto 94 = .ok (.ireturn, 1) := by decide +kernel
theorem dX3_fewestFrom_0 : decode cX3_fewestFrom 0 = .ok (.iconst 0, 1) := by decide +kernel
theorem dX3_fewestFrom_1 : decode cX3_fewestFrom 1 = .ok (.istore_n 3, 1) := by decide +kernel
theorem dX3_fewestFrom_2 : decode cX3_fewestFrom 2 = .ok (.iload_n 3, 1) := by decide +kernel
theorem dX3_fewestFrom_3 : decode cX3_fewestFrom 3 = .ok (.iload_n 2, 1) := by decide +kernel
theorem dX3_fewestFrom_4 : decode cX3_fewestFrom 4 = .ok (.if_icmp .gt 33, 3) := by decide +kernel
theorem dX3_fewestFrom_7 : decode cX3_fewestFrom 7 = .ok (.iload_n 3, 1) := by decide +kernel
theorem dX3_fewestFrom_8 : decode cX3_fewestFrom 8 = .ok (.aload_n 0, 1) := by decide +kernel
theorem dX3_fewestFrom_9 : decode cX3_fewestFrom 9 = .ok (.getfield 9, 3) := by decide +kernel
theorem dX3_fewestFrom_12 : decode cX3_fewestFrom 12 = .ok (.arraylength, 1) := by decide +kernel
theorem dX3_fewestFrom_13 : decode cX3_fewestFrom 13 = .ok (.if_icmp .ge 24, 3) := by decide +kernel
theorem dX3_fewestFrom_16 : decode cX3_fewestFrom 16 = .ok (.aload_n 0, 1) := by decide +kernel
theorem dX3_fewestFrom_17 : decode cX3_fewestFrom 17 = .ok (.getfield 9, 3) := by decide +kernel
theorem dX3_fewestFrom_20 : decode cX3_fewestFrom 20 = .ok (.iload_n 3, 1) := by decide +kernel
theorem dX3_fewestFrom_21 : decode cX3_fewestFrom 21 = .ok (.iaload, 1) := by decide +kernel
theorem dX3_fewestFrom_22 : decode cX3_fewestFrom 22 = .ok (.iload_n 1, 1) := by decide +kernel
theorem dX3_fewestFrom_23 : decode cX3_fewestFrom 23 = .ok (.invokestatic 37, 3) := by decide +kernel
theorem dX3_fewestFrom_26 : decode cX3_fewestFrom 26 = .ok (.ifCond .eq 5, 3) := by decide +kernel
theorem dX3_fewestFrom_29 : decode cX3_fewestFrom 29 = .ok (.iload_n 3, 1) := by decide +kernel
theorem dX3_fewestFrom_30 : decode cX3_fewestFrom 30 = .ok (.ireturn, 1) := by decide +kernel
theorem dX3_fewestFrom_31 : decode cX3_fewestFrom 31 = .ok (.iinc 3 1, 3) := by decide +kernel
theorem dX3_fewestFrom_34 : decode cX3_fewestFrom 34 = .ok (.goto (-32), 3) := by decide +kernel
theorem dX3_fewestFrom_37 : decode cX3_fewestFrom 37 = .ok (.ldc 58, 2) := by decide +kernel
theorem dX3_fewestFrom_39 : decode cX3_fewestFrom 39 = .ok (.ireturn, 1) := by decide +kernel
theorem dX3_hintOfRoute_0 : decode cX3_hintOfRoute 0 = .ok (.aload_n 1, 1) := by decide +kernel
theorem dX3_hintOfRoute_1 : decode cX3_hintOfRoute 1 = .ok (.getfield 59, 3) := by decide +kernel
theorem dX3_hintOfRoute_4 : decode cX3_hintOfRoute 4 = .ok (.iload_n 2, 1) := by decide +kernel
theorem dX3_hintOfRoute_5 : decode cX3_hintOfRoute 5 = .ok (.iaload, 1) := by decide +kernel
theorem dX3_hintOfRoute_6 : decode cX3_hintOfRoute 6 = .ok (.istore 5, 2) := by decide +kernel
theorem dX3_hintOfRoute_8 : decode cX3_hintOfRoute 8 = .ok (.ldc 58, 2) := by decide +kernel
theorem dX3_hintOfRoute_10 : decode cX3_hintOfRoute 10 = .ok (.istore 6, 2) := by decide +kernel
theorem dX3_hintOfRoute_12 : decode cX3_hintOfRoute 12 = .ok (.iconst 0, 1) := by decide +kernel
theorem dX3_hintOfRoute_13 : decode cX3_hintOfRoute 13 = .ok (.istore 7, 2) := by decide +kernel
theorem dX3_hintOfRoute_15 : decode cX3_hintOfRoute 15 = .ok (.iload 7, 2) := by decide +kernel
theorem dX3_hintOfRoute_17 : decode cX3_hintOfRoute 17 = .ok (.iload 4, 2) := by decide +kernel
theorem dX3_hintOfRoute_19 : decode cX3_hintOfRoute 19 = .ok (.if_icmp .gt 57, 3) := by decide +kernel
theorem dX3_hintOfRoute_22 : decode cX3_hintOfRoute 22 = .ok (.iload 7, 2) := by decide +kernel
theorem dX3_hintOfRoute_24 : decode cX3_hintOfRoute 24 = .ok (.iload_n 3, 1) := by decide +kernel
theorem dX3_hintOfRoute_25 : decode cX3_hintOfRoute 25 = .ok (.if_icmp .ge 51, 3) := by decide +kernel
theorem dX3_hintOfRoute_28 : decode cX3_hintOfRoute 28 = .ok (.aload_n 0, 1) := by decide +kernel
theorem dX3_hintOfRoute_29 : decode cX3_hintOfRoute 29 = .ok (.aload_n 1, 1) := by decide +kernel
theorem dX3_hintOfRoute_30 : decode cX3_hintOfRoute 30 = .ok (.iload 5, 2) := by decide +kernel
theorem dX3_hintOfRoute_32 : decode cX3_hintOfRoute 32 = .ok (.iload_n 3, 1) := by decide +kernel
theorem dX3_hintOfRoute_33 : decode cX3_hintOfRoute 33 = .ok (.iload 7, 2) := by decide +kernel
theorem dX3_hintOfRoute_35 : decode cX3_hintOfRoute 35 = .ok (.isub, 1) := by decide +kernel
theorem dX3_hintOfRoute_36 : decode cX3_hintOfRoute 36 = .ok (.iconst 1, 1) := by decide +kernel
theorem dX3_hintOfRoute_37 : decode cX3_hintOfRoute 37 = .ok (.isub, 1) := by decide +kernel
theorem dX3_hintOfRoute_38 : decode cX3_hintOfRoute 38 = .ok (.invokevirtual 62, 3) := by decide +kernel
theorem dX3_hintOfRoute_41 : decode cX3_hintOfRoute 41 = .ok (.istore 6, 2) := by decide +kernel
theorem dX3_hintOfRoute_43 : decode cX3_hintOfRoute 43 = .ok (.iload 6, 2) := by decide +kernel
theorem dX3_hintOfRoute_45 : decode cX3_hintOfRoute 45 = .ok (.ldc 58, 2) := by decide +kernel
theorem dX3_hintOfRoute_47 : decode cX3_hintOfRoute 47 = .ok (.if_icmp .ne 6, 3) := by decide +kernel
theorem dX3_hintOfRoute_50 : decode cX3_hintOfRoute 50 = .ok (.ldc 58, 2) := by decide +kernel
theorem dX3_hintOfRoute_52 : decode cX3_hintOfRoute 52 = .ok (.ireturn, 1) := by decide +kernel
theorem dX3_hintOfRoute_53 : decode cX3_hintOfRoute 53 = .ok (.aload_n 1, 1) := by decide +kernel
theorem dX3_hintOfRoute_54 : decode cX3_hintOfRoute 54 = .ok (.iload 5, 2) := by decide +kernel
theorem dX3_hintOfRoute_56 : decode cX3_hintOfRoute 56 = .ok (.iload 6, 2) := by decide +kernel
theorem dX3_hintOfRoute_58 : decode cX3_hintOfRoute 58 = .ok (.aload_n 1, 1) := by decide +kernel
theorem dX3_hintOfRoute_59 : decode cX3_hintOfRoute 59 = .ok (.getfield 44, 3) := by decide +kernel
theorem dX3_hintOfRoute_62 : decode cX3_hintOfRoute 62 = .ok (.iload 6, 2) := by decide +kernel
theorem dX3_hintOfRoute_64 : decode cX3_hintOfRoute 64 = .ok (.iaload, 1) := by decide +kernel
theorem dX3_hintOfRoute_65 : decode cX3_hintOfRoute 65 = .ok (.invokevirtual 66, 3) := by decide +kernel
theorem dX3_hintOfRoute_68 : decode cX3_hintOfRoute 68 = .ok (.istore 5, 2) := by decide +kernel
theorem dX3_hintOfRoute_70 : decode cX3_hintOfRoute 70 = .ok (.iinc 7 1, 3) := by decide +kernel
theorem dX3_hintOfRoute_73 : decode cX3_hintOfRoute 73 = .ok (.goto (-58), 3) := by decide +kernel
theorem dX3_hintOfRoute_76 : decode cX3_hintOfRoute 76 = .ok (.iload 6, 2) := by decide +kernel
theorem dX3_hintOfRoute_78 : decode cX3_hintOfRoute 78 = .ok (.ireturn, 1) := by decide +kernel
theorem dX3_firstNearer_0 : decode cX3_firstNearer 0 = .ok (.iconst 0, 1) := by decide +kernel
theorem dX3_firstNearer_1 : decode cX3_firstNearer 1 = .ok (.istore 4, 2) := by decide +kernel
theorem dX3_firstNearer_3 : decode cX3_firstNearer 3 = .ok (.iload 4, 2) := by decide +kernel
theorem dX3_firstNearer_5 : decode cX3_firstNearer 5 = .ok (.aload_n 1, 1) := by decide +kernel
theorem dX3_firstNearer_6 : decode cX3_firstNearer 6 = .ok (.getfield 34, 3) := by decide +kernel
theorem dX3_firstNearer_9 : decode cX3_firstNearer 9 = .ok (.if_icmp .ge 50, 3) := by decide +kernel
theorem dX3_firstNearer_12 : decode cX3_firstNearer 12 = .ok (.aload_n 0, 1) := by decide +kernel
theorem dX3_firstNearer_13 : decode cX3_firstNearer 13 = .ok (.getfield 21, 3) := by decide +kernel
theorem dX3_firstNearer_16 : decode cX3_firstNearer 16 = .ok (.iload 4, 2) := by decide +kernel
theorem dX3_firstNearer_18 : decode cX3_firstNearer 18 = .ok (.invokestatic 37, 3) := by decide +kernel
theorem dX3_firstNearer_21 : decode cX3_firstNearer 21 = .ok (.ifCond .eq 32, 3) := by decide +kernel
theorem dX3_firstNearer_24 : decode cX3_firstNearer 24 = .ok (.aload_n 0, 1) := by decide +kernel
theorem dX3_firstNearer_25 : decode cX3_firstNearer 25 = .ok (.getfield 9, 3) := by decide +kernel
theorem dX3_firstNearer_28 : decode cX3_firstNearer 28 = .ok (.iload_n 3, 1) := by decide +kernel
theorem dX3_firstNearer_29 : decode cX3_firstNearer 29 = .ok (.iaload, 1) := by decide +kernel
theorem dX3_firstNearer_30 : decode cX3_firstNearer 30 = .ok (.aload_n 1, 1) := by decide +kernel
theorem dX3_firstNearer_31 : decode cX3_firstNearer 31 = .ok (.iload_n 2, 1) := by decide +kernel
theorem dX3_firstNearer_32 : decode cX3_firstNearer 32 = .ok (.iload 4, 2) := by decide +kernel
theorem dX3_firstNearer_34 : decode cX3_firstNearer 34 = .ok (.aload_n 1, 1) := by decide +kernel
theorem dX3_firstNearer_35 : decode cX3_firstNearer 35 = .ok (.getfield 44, 3) := by decide +kernel
theorem dX3_firstNearer_38 : decode cX3_firstNearer 38 = .ok (.iload 4, 2) := by decide +kernel
theorem dX3_firstNearer_40 : decode cX3_firstNearer 40 = .ok (.iaload, 1) := by decide +kernel
theorem dX3_firstNearer_41 : decode cX3_firstNearer 41 = .ok (.invokevirtual 66, 3) := by decide +kernel
theorem dX3_firstNearer_44 : decode cX3_firstNearer 44 = .ok (.invokestatic 37, 3) := by decide +kernel
theorem dX3_firstNearer_47 : decode cX3_firstNearer 47 = .ok (.ifCond .eq 6, 3) := by decide +kernel
theorem dX3_firstNearer_50 : decode cX3_firstNearer 50 = .ok (.iload 4, 2) := by decide +kernel
theorem dX3_firstNearer_52 : decode cX3_firstNearer 52 = .ok (.ireturn, 1) := by decide +kernel
theorem dX3_firstNearer_53 : decode cX3_firstNearer 53 = .ok (.iinc 4 1, 3) := by decide +kernel
theorem dX3_firstNearer_56 : decode cX3_firstNearer 56 = .ok (.goto (-53), 3) := by decide +kernel
theorem dX3_firstNearer_59 : decode cX3_firstNearer 59 = .ok (.ldc 58, 2) := by decide +kernel
theorem dX3_firstNearer_61 : decode cX3_firstNearer 61 = .ok (.ireturn, 1) := by decide +kernel
theorem dX3_thoughtsWithin_0 : decode cX3_thoughtsWithin 0 = .ok (.iconst 1, 1) := by decide +kernel
theorem dX3_thoughtsWithin_1 : decode cX3_thoughtsWithin 1 = .ok (.iload_n 1, 1) := by decide +kernel
theorem dX3_thoughtsWithin_2 : decode cX3_thoughtsWithin 2 = .ok (.ishl, 1) := by decide +kernel
theorem dX3_thoughtsWithin_3 : decode cX3_thoughtsWithin 3 = .ok (.istore 4, 2) := by decide +kernel
theorem dX3_thoughtsWithin_5 : decode cX3_thoughtsWithin 5 = .ok (.iconst 0, 1) := by decide +kernel
theorem dX3_thoughtsWithin_6 : decode cX3_thoughtsWithin 6 = .ok (.istore 5, 2) := by decide +kernel
theorem dX3_thoughtsWithin_8 : decode cX3_thoughtsWithin 8 = .ok (.iload 5, 2) := by decide +kernel
theorem dX3_thoughtsWithin_10 : decode cX3_thoughtsWithin 10 = .ok (.iload_n 3, 1) := by decide +kernel
theorem dX3_thoughtsWithin_11 : decode cX3_thoughtsWithin 11 = .ok (.if_icmp .ge 111, 3) := by decide +kernel
theorem dX3_thoughtsWithin_14 : decode cX3_thoughtsWithin 14 = .ok (.iload 4, 2) := by decide +kernel
theorem dX3_thoughtsWithin_16 : decode cX3_thoughtsWithin 16 = .ok (.istore 6, 2) := by decide +kernel
theorem dX3_thoughtsWithin_18 : decode cX3_thoughtsWithin 18 = .ok (.iconst 0, 1) := by decide +kernel
theorem dX3_thoughtsWithin_19 : decode cX3_thoughtsWithin 19 = .ok (.istore 7, 2) := by decide +kernel
theorem dX3_thoughtsWithin_21 : decode cX3_thoughtsWithin 21 = .ok (.iload 7, 2) := by decide +kernel
theorem dX3_thoughtsWithin_23 : decode cX3_thoughtsWithin 23 = .ok (.aload_n 0, 1) := by decide +kernel
theorem dX3_thoughtsWithin_24 : decode cX3_thoughtsWithin 24 = .ok (.getfield 34, 3) := by decide +kernel
theorem dX3_thoughtsWithin_27 : decode cX3_thoughtsWithin 27 = .ok (.if_icmp .ge 85, 3) := by decide +kernel
theorem dX3_thoughtsWithin_30 : decode cX3_thoughtsWithin 30 = .ok (.iload_n 2, 1) := by decide +kernel
theorem dX3_thoughtsWithin_31 : decode cX3_thoughtsWithin 31 = .ok (.iload 7, 2) := by decide +kernel
theorem dX3_thoughtsWithin_33 : decode cX3_thoughtsWithin 33 = .ok (.invokestatic 37, 3) := by decide +kernel
theorem dX3_thoughtsWithin_36 : decode cX3_thoughtsWithin 36 = .ok (.ifCond .eq 70, 3) := by decide +kernel
theorem dX3_thoughtsWithin_39 : decode cX3_thoughtsWithin 39 = .ok (.iload 6, 2) := by decide +kernel
theorem dX3_thoughtsWithin_41 : decode cX3_thoughtsWithin 41 = .ok (.iload 4, 2) := by decide +kernel
theorem dX3_thoughtsWithin_43 : decode cX3_thoughtsWithin 43 = .ok (.aload_n 0, 1) := by decide +kernel
theorem dX3_thoughtsWithin_44 : decode cX3_thoughtsWithin 44 = .ok (.iload 7, 2) := by decide +kernel
theorem dX3_thoughtsWithin_46 : decode cX3_thoughtsWithin 46 = .ok (.aload_n 0, 1) := by decide +kernel
theorem dX3_thoughtsWithin_47 : decode cX3_thoughtsWithin 47 = .ok (.getfield 44, 3) := by decide +kernel
theorem dX3_thoughtsWithin_50 : decode cX3_thoughtsWithin 50 = .ok (.iload 7, 2) := by decide +kernel
theorem dX3_thoughtsWithin_52 : decode cX3_thoughtsWithin 52 = .ok (.iaload, 1) := by decide +kernel
theorem dX3_thoughtsWithin_53 : decode cX3_thoughtsWithin 53 = .ok (.invokevirtual 47, 3) := by decide +kernel
theorem dX3_thoughtsWithin_56 : decode cX3_thoughtsWithin 56 = .ok (.iand, 1) := by decide +kernel
theorem dX3_thoughtsWithin_57 : decode cX3_thoughtsWithin 57 = .ok (.ifCond .eq 15, 3) := by decide +kernel
theorem dX3_thoughtsWithin_60 : decode cX3_thoughtsWithin 60 = .ok (.iconst 1, 1) := by decide +kernel
theorem dX3_thoughtsWithin_61 : decode cX3_thoughtsWithin 61 = .ok (.aload_n 0, 1) := by decide +kernel
theorem dX3_thoughtsWithin_62 : decode cX3_thoughtsWithin 62 = .ok (.getfield 41, 3) := by decide +kernel
theorem dX3_thoughtsWithin_65 : decode cX3_thoughtsWithin 65 = .ok (.iload 7, 2) := by decide +kernel
theorem dX3_thoughtsWithin_67 : decode cX3_thoughtsWithin 67 = .ok (.iaload, 1) := by decide +kernel
theorem dX3_thoughtsWithin_68 : decode cX3_thoughtsWithin 68 = .ok (.ishl, 1) := by decide +kernel
theorem dX3_thoughtsWithin_69 : decode cX3_thoughtsWithin 69 = .ok (.goto 4, 3) := by decide +kernel
theorem dX3_thoughtsWithin_72 : decode cX3_thoughtsWithin 72 = .ok (.iconst 0, 1) := by decide +kernel
theorem dX3_thoughtsWithin_73 : decode cX3_thoughtsWithin 73 = .ok (.ior, 1) := by decide +kernel
theorem dX3_thoughtsWithin_74 : decode cX3_thoughtsWithin 74 = .ok (.istore 6, 2) := by decide +kernel
theorem dX3_thoughtsWithin_76 : decode cX3_thoughtsWithin 76 = .ok (.iload 6, 2) := by decide +kernel
theorem dX3_thoughtsWithin_78 : decode cX3_thoughtsWithin 78 = .ok (.iload 4, 2) := by decide +kernel
theorem dX3_thoughtsWithin_80 : decode cX3_thoughtsWithin 80 = .ok (.aload_n 0, 1) := by decide +kernel
theorem dX3_thoughtsWithin_81 : decode cX3_thoughtsWithin 81 = .ok (.iload 7, 2) := by decide +kernel
theorem dX3_thoughtsWithin_83 : decode cX3_thoughtsWithin 83 = .ok (.invokevirtual 54, 3) := by decide +kernel
theorem dX3_thoughtsWithin_86 : decode cX3_thoughtsWithin 86 = .ok (.iand, 1) := by decide +kernel
theorem dX3_thoughtsWithin_87 : decode cX3_thoughtsWithin 87 = .ok (.ifCond .eq 15, 3) := by decide +kernel
theorem dX3_thoughtsWithin_90 : decode cX3_thoughtsWithin 90 = .ok (.iconst 1, 1) := by decide +kernel
theorem dX3_thoughtsWithin_91 : decode cX3_thoughtsWithin 91 = .ok (.aload_n 0, 1) := by decide +kernel
theorem dX3_thoughtsWithin_92 : decode cX3_thoughtsWithin 92 = .ok (.getfield 51, 3) := by decide +kernel
theorem dX3_thoughtsWithin_95 : decode cX3_thoughtsWithin 95 = .ok (.iload 7, 2) := by decide +kernel
theorem dX3_thoughtsWithin_97 : decode cX3_thoughtsWithin 97 = .ok (.iaload, 1) := by decide +kernel
theorem dX3_thoughtsWithin_98 : decode cX3_thoughtsWithin 98 = .ok (.ishl, 1) := by decide +kernel
theorem dX3_thoughtsWithin_99 : decode cX3_thoughtsWithin 99 = .ok (.goto 4, 3) := by decide +kernel
theorem dX3_thoughtsWithin_102 : decode cX3_thoughtsWithin 102 = .ok (.iconst 0, 1) := by decide +kernel
theorem dX3_thoughtsWithin_103 : decode cX3_thoughtsWithin 103 = .ok (.ior, 1) := by decide +kernel
theorem dX3_thoughtsWithin_104 : decode cX3_thoughtsWithin 104 = .ok (.istore 6, 2) := by decide +kernel
theorem dX3_thoughtsWithin_106 : decode cX3_thoughtsWithin 106 = .ok (.iinc 7 1, 3) := by decide +kernel
theorem dX3_thoughtsWithin_109 : decode cX3_thoughtsWithin 109 = .ok (.goto (-88), 3) := by decide +kernel
theorem dX3_thoughtsWithin_112 : decode cX3_thoughtsWithin 112 = .ok (.iload 6, 2) := by decide +kernel
theorem dX3_thoughtsWithin_114 : decode cX3_thoughtsWithin 114 = .ok (.istore 4, 2) := by decide +kernel
theorem dX3_thoughtsWithin_116 : decode cX3_thoughtsWithin 116 = .ok (.iinc 5 1, 3) := by decide +kernel
theorem dX3_thoughtsWithin_119 : decode cX3_thoughtsWithin 119 = .ok (.goto (-111), 3) := by decide +kernel
theorem dX3_thoughtsWithin_122 : decode cX3_thoughtsWithin 122 = .ok (.iload 4, 2) := by decide +kernel
theorem dX3_thoughtsWithin_124 : decode cX3_thoughtsWithin 124 = .ok (.ireturn, 1) := by decide +kernel
theorem dX3_rowsToQuestion_0 : decode cX3_rowsToQuestion 0 = .ok (.iload_n 3, 1) := by decide +kernel
theorem dX3_rowsToQuestion_1 : decode cX3_rowsToQuestion 1 = .ok (.ifCond .gt 17, 3) := by decide +kernel
theorem dX3_rowsToQuestion_4 : decode cX3_rowsToQuestion 4 = .ok (.iload_n 1, 1) := by decide +kernel
theorem dX3_rowsToQuestion_5 : decode cX3_rowsToQuestion 5 = .ok (.aload_n 0, 1) := by decide +kernel
theorem dX3_rowsToQuestion_6 : decode cX3_rowsToQuestion 6 = .ok (.getfield 24, 3) := by decide +kernel
theorem dX3_rowsToQuestion_9 : decode cX3_rowsToQuestion 9 = .ok (.if_icmp .ne 7, 3) := by decide +kernel
theorem dX3_rowsToQuestion_12 : decode cX3_rowsToQuestion 12 = .ok (.iconst 1, 1) := by decide +kernel
theorem dX3_rowsToQuestion_13 : decode cX3_rowsToQuestion 13 = .ok (.goto 4, 3) := by decide +kernel
theorem dX3_rowsToQuestion_16 : decode cX3_rowsToQuestion 16 = .ok (.iconst 0, 1) := by decide +kernel
theorem dX3_rowsToQuestion_17 : decode cX3_rowsToQuestion 17 = .ok (.ireturn, 1) := by decide +kernel
theorem dX3_rowsToQuestion_18 : decode cX3_rowsToQuestion 18 = .ok (.iconst 0, 1) := by decide +kernel
theorem dX3_rowsToQuestion_19 : decode cX3_rowsToQuestion 19 = .ok (.istore 4, 2) := by decide +kernel
theorem dX3_rowsToQuestion_21 : decode cX3_rowsToQuestion 21 = .ok (.iconst 0, 1) := by decide +kernel
theorem dX3_rowsToQuestion_22 : decode cX3_rowsToQuestion 22 = .ok (.istore 5, 2) := by decide +kernel
theorem dX3_rowsToQuestion_24 : decode cX3_rowsToQuestion 24 = .ok (.iload 5, 2) := by decide +kernel
theorem dX3_rowsToQuestion_26 : decode cX3_rowsToQuestion 26 = .ok (.aload_n 0, 1) := by decide +kernel
theorem dX3_rowsToQuestion_27 : decode cX3_rowsToQuestion 27 = .ok (.getfield 34, 3) := by decide +kernel
theorem dX3_rowsToQuestion_30 : decode cX3_rowsToQuestion 30 = .ok (.if_icmp .ge 56, 3) := by decide +kernel
theorem dX3_rowsToQuestion_33 : decode cX3_rowsToQuestion 33 = .ok (.iload_n 2, 1) := by decide +kernel
theorem dX3_rowsToQuestion_34 : decode cX3_rowsToQuestion 34 = .ok (.iload 5, 2) := by decide +kernel
theorem dX3_rowsToQuestion_36 : decode cX3_rowsToQuestion 36 = .ok (.invokestatic 37, 3) := by decide +kernel
theorem dX3_rowsToQuestion_39 : decode cX3_rowsToQuestion 39 = .ok (.ifCond .eq 41, 3) := by decide +kernel
theorem dX3_rowsToQuestion_42 : decode cX3_rowsToQuestion 42 = .ok (.aload_n 0, 1) := by decide +kernel
theorem dX3_rowsToQuestion_43 : decode cX3_rowsToQuestion 43 = .ok (.iload_n 1, 1) := by decide +kernel
theorem dX3_rowsToQuestion_44 : decode cX3_rowsToQuestion 44 = .ok (.iload 5, 2) := by decide +kernel
theorem dX3_rowsToQuestion_46 : decode cX3_rowsToQuestion 46 = .ok (.aload_n 0, 1) := by decide +kernel
theorem dX3_rowsToQuestion_47 : decode cX3_rowsToQuestion 47 = .ok (.getfield 44, 3) := by decide +kernel
theorem dX3_rowsToQuestion_50 : decode cX3_rowsToQuestion 50 = .ok (.iload 5, 2) := by decide +kernel
theorem dX3_rowsToQuestion_52 : decode cX3_rowsToQuestion 52 = .ok (.iaload, 1) := by decide +kernel
theorem dX3_rowsToQuestion_53 : decode cX3_rowsToQuestion 53 = .ok (.invokevirtual 66, 3) := by decide +kernel
theorem dX3_rowsToQuestion_56 : decode cX3_rowsToQuestion 56 = .ok (.istore 6, 2) := by decide +kernel
theorem dX3_rowsToQuestion_58 : decode cX3_rowsToQuestion 58 = .ok (.iload 4, 2) := by decide +kernel
theorem dX3_rowsToQuestion_60 : decode cX3_rowsToQuestion 60 = .ok (.aload_n 0, 1) := by decide +kernel
theorem dX3_rowsToQuestion_61 : decode cX3_rowsToQuestion 61 = .ok (.iload 6, 2) := by decide +kernel
theorem dX3_rowsToQuestion_63 : decode cX3_rowsToQuestion 63 = .ok (.iload_n 2, 1) := by decide +kernel
theorem dX3_rowsToQuestion_64 : decode cX3_rowsToQuestion 64 = .ok (.iconst 1, 1) := by decide +kernel
theorem dX3_rowsToQuestion_65 : decode cX3_rowsToQuestion 65 = .ok (.iload 5, 2) := by decide +kernel
theorem dX3_rowsToQuestion_67 : decode cX3_rowsToQuestion 67 = .ok (.ishl, 1) := by decide +kernel
theorem dX3_rowsToQuestion_68 : decode cX3_rowsToQuestion 68 = .ok (.iconst (-1), 1) := by decide +kernel
theorem dX3_rowsToQuestion_69 : decode cX3_rowsToQuestion 69 = .ok (.ixor, 1) := by decide +kernel
theorem dX3_rowsToQuestion_70 : decode cX3_rowsToQuestion 70 = .ok (.iand, 1) := by decide +kernel
theorem dX3_rowsToQuestion_71 : decode cX3_rowsToQuestion 71 = .ok (.iload_n 3, 1) := by decide +kernel
theorem dX3_rowsToQuestion_72 : decode cX3_rowsToQuestion 72 = .ok (.iconst 1, 1) := by decide +kernel
theorem dX3_rowsToQuestion_73 : decode cX3_rowsToQuestion 73 = .ok (.isub, 1) := by decide +kernel
theorem dX3_rowsToQuestion_74 : decode cX3_rowsToQuestion 74 = .ok (.invokestatic 70, 3) := by decide +kernel
theorem dX3_rowsToQuestion_77 : decode cX3_rowsToQuestion 77 = .ok (.iadd, 1) := by decide +kernel
theorem dX3_rowsToQuestion_78 : decode cX3_rowsToQuestion 78 = .ok (.istore 4, 2) := by decide +kernel
theorem dX3_rowsToQuestion_80 : decode cX3_rowsToQuestion 80 = .ok (.iinc 5 1, 3) := by decide +kernel
theorem dX3_rowsToQuestion_83 : decode cX3_rowsToQuestion 83 = .ok (.goto (-59), 3) := by decide +kernel
theorem dX3_rowsToQuestion_86 : decode cX3_rowsToQuestion 86 = .ok (.iload 4, 2) := by decide +kernel
theorem dX3_rowsToQuestion_88 : decode cX3_rowsToQuestion 88 = .ok (.ireturn, 1) := by decide +kernel
theorem dX3_bestOf_0 : decode cX3_bestOf 0 = .ok (.ldc 58, 2) := by decide +kernel
theorem dX3_bestOf_2 : decode cX3_bestOf 2 = .ok (.istore_n 3, 1) := by decide +kernel
theorem dX3_bestOf_3 : decode cX3_bestOf 3 = .ok (.ldc 58, 2) := by decide +kernel
theorem dX3_bestOf_5 : decode cX3_bestOf 5 = .ok (.istore 4, 2) := by decide +kernel
theorem dX3_bestOf_7 : decode cX3_bestOf 7 = .ok (.aload_n 0, 1) := by decide +kernel
theorem dX3_bestOf_8 : decode cX3_bestOf 8 = .ok (.aload_n 1, 1) := by decide +kernel
theorem dX3_bestOf_9 : decode cX3_bestOf 9 = .ok (.aload_n 1, 1) := by decide +kernel
theorem dX3_bestOf_10 : decode cX3_bestOf 10 = .ok (.invokevirtual 74, 3) := by decide +kernel
theorem dX3_bestOf_13 : decode cX3_bestOf 13 = .ok (.iconst 0, 1) := by decide +kernel
theorem dX3_bestOf_14 : decode cX3_bestOf 14 = .ok (.invokevirtual 78, 3) := by decide +kernel
theorem dX3_bestOf_17 : decode cX3_bestOf 17 = .ok (.iconst 0, 1) := by decide +kernel
theorem dX3_bestOf_18 : decode cX3_bestOf 18 = .ok (.istore 5, 2) := by decide +kernel
theorem dX3_bestOf_20 : decode cX3_bestOf 20 = .ok (.iload 5, 2) := by decide +kernel
theorem dX3_bestOf_22 : decode cX3_bestOf 22 = .ok (.aload_n 1, 1) := by decide +kernel
theorem dX3_bestOf_23 : decode cX3_bestOf 23 = .ok (.getfield 82, 3) := by decide +kernel
theorem dX3_bestOf_26 : decode cX3_bestOf 26 = .ok (.if_icmp .ge 83, 3) := by decide +kernel
theorem dX3_bestOf_29 : decode cX3_bestOf 29 = .ok (.aload_n 0, 1) := by decide +kernel
theorem dX3_bestOf_30 : decode cX3_bestOf 30 = .ok (.aload_n 1, 1) := by decide +kernel
theorem dX3_bestOf_31 : decode cX3_bestOf 31 = .ok (.getfield 59, 3) := by decide +kernel
theorem dX3_bestOf_34 : decode cX3_bestOf 34 = .ok (.iload 5, 2) := by decide +kernel
theorem dX3_bestOf_36 : decode cX3_bestOf 36 = .ok (.iaload, 1) := by decide +kernel
theorem dX3_bestOf_37 : decode cX3_bestOf 37 = .ok (.aload_n 1, 1) := by decide +kernel
theorem dX3_bestOf_38 : decode cX3_bestOf 38 = .ok (.getfield 27, 3) := by decide +kernel
theorem dX3_bestOf_41 : decode cX3_bestOf 41 = .ok (.invokevirtual 85, 3) := by decide +kernel
theorem dX3_bestOf_44 : decode cX3_bestOf 44 = .ok (.istore 6, 2) := by decide +kernel
theorem dX3_bestOf_46 : decode cX3_bestOf 46 = .ok (.aload_n 1, 1) := by decide +kernel
theorem dX3_bestOf_47 : decode cX3_bestOf 47 = .ok (.iload 5, 2) := by decide +kernel
theorem dX3_bestOf_49 : decode cX3_bestOf 49 = .ok (.invokevirtual 88, 3) := by decide +kernel
theorem dX3_bestOf_52 : decode cX3_bestOf 52 = .ok (.ifCond .ne 23, 3) := by decide +kernel
theorem dX3_bestOf_55 : decode cX3_bestOf 55 = .ok (.aload_n 1, 1) := by decide +kernel
theorem dX3_bestOf_56 : decode cX3_bestOf 56 = .ok (.iload 5, 2) := by decide +kernel
theorem dX3_bestOf_58 : decode cX3_bestOf 58 = .ok (.invokevirtual 91, 3) := by decide +kernel
theorem dX3_bestOf_61 : decode cX3_bestOf 61 = .ok (.ifCond .eq 14, 3) := by decide +kernel
theorem dX3_bestOf_64 : decode cX3_bestOf 64 = .ok (.iload 6, 2) := by decide +kernel
theorem dX3_bestOf_66 : decode cX3_bestOf 66 = .ok (.ldc 58, 2) := by decide +kernel
theorem dX3_bestOf_68 : decode cX3_bestOf 68 = .ok (.if_icmp .eq 7, 3) := by decide +kernel
theorem dX3_bestOf_71 : decode cX3_bestOf 71 = .ok (.iconst 1, 1) := by decide +kernel
theorem dX3_bestOf_72 : decode cX3_bestOf 72 = .ok (.goto 4, 3) := by decide +kernel
theorem dX3_bestOf_75 : decode cX3_bestOf 75 = .ok (.iconst 0, 1) := by decide +kernel
theorem dX3_bestOf_76 : decode cX3_bestOf 76 = .ok (.istore 7, 2) := by decide +kernel
theorem dX3_bestOf_78 : decode cX3_bestOf 78 = .ok (.iload 7, 2) := by decide +kernel
theorem dX3_bestOf_80 : decode cX3_bestOf 80 = .ok (.ifCond .eq 23, 3) := by decide +kernel
theorem dX3_bestOf_83 : decode cX3_bestOf 83 = .ok (.iload_n 3, 1) := by decide +kernel
theorem dX3_bestOf_84 : decode cX3_bestOf 84 = .ok (.ldc 58, 2) := by decide +kernel
theorem dX3_bestOf_86 : decode cX3_bestOf 86 = .ok (.if_icmp .eq 10, 3) := by decide +kernel
theorem dX3_bestOf_89 : decode cX3_bestOf 89 = .ok (.iload 6, 2) := by decide +kernel
theorem dX3_bestOf_91 : decode cX3_bestOf 91 = .ok (.iload 4, 2) := by decide +kernel
theorem dX3_bestOf_93 : decode cX3_bestOf 93 = .ok (.if_icmp .ge 10, 3) := by decide +kernel
theorem dX3_bestOf_96 : decode cX3_bestOf 96 = .ok (.iload 5, 2) := by decide +kernel
theorem dX3_bestOf_98 : decode cX3_bestOf 98 = .ok (.istore_n 3, 1) := by decide +kernel
theorem dX3_bestOf_99 : decode cX3_bestOf 99 = .ok (.iload 6, 2) := by decide +kernel
theorem dX3_bestOf_101 : decode cX3_bestOf 101 = .ok (.istore 4, 2) := by decide +kernel
theorem dX3_bestOf_103 : decode cX3_bestOf 103 = .ok (.iinc 5 1, 3) := by decide +kernel
theorem dX3_bestOf_106 : decode cX3_bestOf 106 = .ok (.goto (-86), 3) := by decide +kernel
theorem dX3_bestOf_109 : decode cX3_bestOf 109 = .ok (.iload_n 2, 1) := by decide +kernel
theorem dX3_bestOf_110 : decode cX3_bestOf 110 = .ok (.ifCond .eq 7, 3) := by decide +kernel
theorem dX3_bestOf_113 : decode cX3_bestOf 113 = .ok (.iload_n 3, 1) := by decide +kernel
theorem dX3_bestOf_114 : decode cX3_bestOf 114 = .ok (.goto 5, 3) := by decide +kernel
theorem dX3_bestOf_117 : decode cX3_bestOf 117 = .ok (.iload 4, 2) := by decide +kernel
theorem dX3_bestOf_119 : decode cX3_bestOf 119 = .ok (.ireturn, 1) := by decide +kernel
theorem dX3_fewestForAll_0 : decode cX3_fewestForAll 0 = .ok (.aload_n 1, 1) := by decide +kernel
theorem dX3_fewestForAll_1 : decode cX3_fewestForAll 1 = .ok (.invokevirtual 95, 3) := by decide +kernel
theorem dX3_fewestForAll_4 : decode cX3_fewestForAll 4 = .ok (.istore_n 2, 1) := by decide +kernel
theorem dX3_fewestForAll_5 : decode cX3_fewestForAll 5 = .ok (.ldc 58, 2) := by decide +kernel
theorem dX3_fewestForAll_7 : decode cX3_fewestForAll 7 = .ok (.istore_n 3, 1) := by decide +kernel
theorem dX3_fewestForAll_8 : decode cX3_fewestForAll 8 = .ok (.aload_n 0, 1) := by decide +kernel
theorem dX3_fewestForAll_9 : decode cX3_fewestForAll 9 = .ok (.aload_n 1, 1) := by decide +kernel
theorem dX3_fewestForAll_10 : decode cX3_fewestForAll 10 = .ok (.iload_n 2, 1) := by decide +kernel
theorem dX3_fewestForAll_11 : decode cX3_fewestForAll 11 = .ok (.aload_n 1, 1) := by decide +kernel
theorem dX3_fewestForAll_12 : decode cX3_fewestForAll 12 = .ok (.invokevirtual 74, 3) := by decide +kernel
theorem dX3_fewestForAll_15 : decode cX3_fewestForAll 15 = .ok (.invokevirtual 98, 3) := by decide +kernel
theorem dX3_fewestForAll_18 : decode cX3_fewestForAll 18 = .ok (.ifCond .ne 6, 3) := by decide +kernel
theorem dX3_fewestForAll_21 : decode cX3_fewestForAll 21 = .ok (.ldc 58, 2) := by decide +kernel
theorem dX3_fewestForAll_23 : decode cX3_fewestForAll 23 = .ok (.ireturn, 1) := by decide +kernel
theorem dX3_fewestForAll_24 : decode cX3_fewestForAll 24 = .ok (.iconst 0, 1) := by decide +kernel
theorem dX3_fewestForAll_25 : decode cX3_fewestForAll 25 = .ok (.istore 4, 2) := by decide +kernel
theorem dX3_fewestForAll_27 : decode cX3_fewestForAll 27 = .ok (.iload 4, 2) := by decide +kernel
theorem dX3_fewestForAll_29 : decode cX3_fewestForAll 29 = .ok (.aload_n 1, 1) := by decide +kernel
theorem dX3_fewestForAll_30 : decode cX3_fewestForAll 30 = .ok (.invokevirtual 74, 3) := by decide +kernel
theorem dX3_fewestForAll_33 : decode cX3_fewestForAll 33 = .ok (.if_icmp .gt 53, 3) := by decide +kernel
theorem dX3_fewestForAll_36 : decode cX3_fewestForAll 36 = .ok (.iload_n 3, 1) := by decide +kernel
theorem dX3_fewestForAll_37 : decode cX3_fewestForAll 37 = .ok (.ldc 58, 2) := by decide +kernel
theorem dX3_fewestForAll_39 : decode cX3_fewestForAll 39 = .ok (.if_icmp .eq 15, 3) := by decide +kernel
theorem dX3_fewestForAll_42 : decode cX3_fewestForAll 42 = .ok (.iload 4, 2) := by decide +kernel
theorem dX3_fewestForAll_44 : decode cX3_fewestForAll 44 = .ok (.invokestatic 102, 3) := by decide +kernel
theorem dX3_fewestForAll_47 : decode cX3_fewestForAll 47 = .ok (.iload_n 3, 1) := by decide +kernel
theorem dX3_fewestForAll_48 : decode cX3_fewestForAll 48 = .ok (.invokestatic 102, 3) := by decide +kernel
theorem dX3_fewestForAll_51 : decode cX3_fewestForAll 51 = .ok (.if_icmp .ge 7, 3) := by decide +kernel
theorem dX3_fewestForAll_54 : decode cX3_fewestForAll 54 = .ok (.iconst 1, 1) := by decide +kernel
theorem dX3_fewestForAll_55 : decode cX3_fewestForAll 55 = .ok (.goto 4, 3) := by decide +kernel
theorem dX3_fewestForAll_58 : decode cX3_fewestForAll 58 = .ok (.iconst 0, 1) := by decide +kernel
theorem dX3_fewestForAll_59 : decode cX3_fewestForAll 59 = .ok (.istore 5, 2) := by decide +kernel
theorem dX3_fewestForAll_61 : decode cX3_fewestForAll 61 = .ok (.iload 5, 2) := by decide +kernel
theorem dX3_fewestForAll_63 : decode cX3_fewestForAll 63 = .ok (.ifCond .eq 17, 3) := by decide +kernel
theorem dX3_fewestForAll_66 : decode cX3_fewestForAll 66 = .ok (.aload_n 0, 1) := by decide +kernel
theorem dX3_fewestForAll_67 : decode cX3_fewestForAll 67 = .ok (.aload_n 1, 1) := by decide +kernel
theorem dX3_fewestForAll_68 : decode cX3_fewestForAll 68 = .ok (.iload_n 2, 1) := by decide +kernel
theorem dX3_fewestForAll_69 : decode cX3_fewestForAll 69 = .ok (.iload 4, 2) := by decide +kernel
theorem dX3_fewestForAll_71 : decode cX3_fewestForAll 71 = .ok (.invokevirtual 98, 3) := by decide +kernel
theorem dX3_fewestForAll_74 : decode cX3_fewestForAll 74 = .ok (.ifCond .eq 6, 3) := by decide +kernel
theorem dX3_fewestForAll_77 : decode cX3_fewestForAll 77 = .ok (.iload 4, 2) := by decide +kernel
theorem dX3_fewestForAll_79 : decode cX3_fewestForAll 79 = .ok (.istore_n 3, 1) := by decide +kernel
theorem dX3_fewestForAll_80 : decode cX3_fewestForAll 80 = .ok (.iinc 4 1, 3) := by decide +kernel
theorem dX3_fewestForAll_83 : decode cX3_fewestForAll 83 = .ok (.goto (-56), 3) := by decide +kernel
theorem dX3_fewestForAll_86 : decode cX3_fewestForAll 86 = .ok (.iload_n 3, 1) := by decide +kernel
theorem dX3_fewestForAll_87 : decode cX3_fewestForAll 87 = .ok (.ireturn, 1) := by decide +kernel
theorem dX3_haveRoute_0 : decode cX3_haveRoute 0 = .ok (.iload_n 2, 1) := by decide +kernel
theorem dX3_haveRoute_1 : decode cX3_haveRoute 1 = .ok (.aload_n 0, 1) := by decide +kernel
theorem dX3_haveRoute_2 : decode cX3_haveRoute 2 = .ok (.aload_n 1, 1) := by decide +kernel
theorem dX3_haveRoute_3 : decode cX3_haveRoute 3 = .ok (.iload_n 3, 1) := by decide +kernel
theorem dX3_haveRoute_4 : decode cX3_haveRoute 4 = .ok (.invokevirtual 107, 3) := by decide +kernel
theorem dX3_haveRoute_7 : decode cX3_haveRoute 7 = .ok (.iconst (-1), 1) := by decide +kernel
theorem dX3_haveRoute_8 : decode cX3_haveRoute 8 = .ok (.ixor, 1) := by decide +kernel
theorem dX3_haveRoute_9 : decode cX3_haveRoute 9 = .ok (.iand, 1) := by decide +kernel
theorem dX3_haveRoute_10 : decode cX3_haveRoute 10 = .ok (.ifCond .ne 7, 3) := by decide +kernel
theorem dX3_haveRoute_13 : decode cX3_haveRoute 13 = .ok (.iconst 1, 1) := by decide +kernel
theorem dX3_haveRoute_14 : decode cX3_haveRoute 14 = .ok (.goto 4, 3) := by decide +kernel
theorem dX3_haveRoute_17 : decode cX3_haveRoute 17 = .ok (.iconst 0, 1) := by decide +kernel
theorem dX3_haveRoute_18 : decode cX3_haveRoute 18 = .ok (.ireturn, 1) := by decide +kernel
theorem dX3_thoughtsWithRoute_0 : decode cX3_thoughtsWithRoute 0 = .ok (.aload_n 0, 1) := by decide +kernel
theorem dX3_thoughtsWithRoute_1 : decode cX3_thoughtsWithRoute 1 = .ok (.aload_n 1, 1) := by decide +kernel
theorem dX3_thoughtsWithRoute_2 : decode cX3_thoughtsWithRoute 2 = .ok (.iload_n 2, 1) := by decide +kernel
theorem dX3_thoughtsWithRoute_3 : decode cX3_thoughtsWithRoute 3 = .ok (.iconst 0, 1) := by decide +kernel
theorem dX3_thoughtsWithRoute_4 : decode cX3_thoughtsWithRoute 4 = .ok (.invokevirtual 78, 3) := by decide +kernel
theorem dX3_thoughtsWithRoute_7 : decode cX3_thoughtsWithRoute 7 = .ok (.aload_n 1, 1) := by decide +kernel
theorem dX3_thoughtsWithRoute_8 : decode cX3_thoughtsWithRoute 8 = .ok (.getfield 27, 3) := by decide +kernel
theorem dX3_thoughtsWithRoute_11 : decode cX3_thoughtsWithRoute 11 = .ok (.aload_n 0, 1) := by decide +kernel
theorem dX3_thoughtsWithRoute_12 : decode cX3_thoughtsWithRoute 12 = .ok (.getfield 9, 3) := by decide +kernel
theorem dX3_thoughtsWithRoute_15 : decode cX3_thoughtsWithRoute 15 = .ok (.arraylength, 1) := by decide +kernel
theorem dX3_thoughtsWithRoute_16 : decode cX3_thoughtsWithRoute 16 = .ok (.invokestatic 110, 3) := by decide +kernel
theorem dX3_thoughtsWithRoute_19 : decode cX3_thoughtsWithRoute 19 = .ok (.ifCond .eq 15, 3) := by decide +kernel
theorem dX3_thoughtsWithRoute_22 : decode cX3_thoughtsWithRoute 22 = .ok (.aload_n 0, 1) := by decide +kernel
theorem dX3_thoughtsWithRoute_23 : decode cX3_thoughtsWithRoute 23 = .ok (.getfield 9, 3) := by decide +kernel
theorem dX3_thoughtsWithRoute_26 : decode cX3_thoughtsWithRoute 26 = .ok (.aload_n 1, 1) := by decide +kernel
theorem dX3_thoughtsWithRoute_27 : decode cX3_thoughtsWithRoute 27 = .ok (.getfield 27, 3) := by decide +kernel
theorem dX3_thoughtsWithRoute_30 : decode cX3_thoughtsWithRoute 30 = .ok (.iaload, 1) := by decide +kernel
theorem dX3_thoughtsWithRoute_31 : decode cX3_thoughtsWithRoute 31 = .ok (.goto 4, 3) := by decide +kernel
theorem dX3_thoughtsWithRoute_34 : decode cX3_thoughtsWithRoute 34 = .ok (.iconst 0, 1) := by decide +kernel
theorem dX3_thoughtsWithRoute_35 : decode cX3_thoughtsWithRoute 35 = .ok (.ireturn, 1) := by decide +kernel
theorem dX3_mostMissed_0 : decode cX3_mostMissed 0 = .ok (.ldc 58, 2) := by decide +kernel
theorem dX3_mostMissed_2 : decode cX3_mostMissed 2 = .ok (.istore_n 3, 1) := by decide +kernel
theorem dX3_mostMissed_3 : decode cX3_mostMissed 3 = .ok (.ldc 58, 2) := by decide +kernel
theorem dX3_mostMissed_5 : decode cX3_mostMissed 5 = .ok (.istore 4, 2) := by decide +kernel
theorem dX3_mostMissed_7 : decode cX3_mostMissed 7 = .ok (.iconst 0, 1) := by decide +kernel
theorem dX3_mostMissed_8 : decode cX3_mostMissed 8 = .ok (.istore 5, 2) := by decide +kernel
theorem dX3_mostMissed_10 : decode cX3_mostMissed 10 = .ok (.iload 5, 2) := by decide +kernel
theorem dX3_mostMissed_12 : decode cX3_mostMissed 12 = .ok (.aload_n 1, 1) := by decide +kernel
theorem dX3_mostMissed_13 : decode cX3_mostMissed 13 = .ok (.getfield 34, 3) := by decide +kernel
theorem dX3_mostMissed_16 : decode cX3_mostMissed 16 = .ok (.if_icmp .ge 51, 3) := by decide +kernel
theorem dX3_mostMissed_19 : decode cX3_mostMissed 19 = .ok (.aload_n 1, 1) := by decide +kernel
theorem dX3_mostMissed_20 : decode cX3_mostMissed 20 = .ok (.aload_n 0, 1) := by decide +kernel
theorem dX3_mostMissed_21 : decode cX3_mostMissed 21 = .ok (.aload_n 1, 1) := by decide +kernel
theorem dX3_mostMissed_22 : decode cX3_mostMissed 22 = .ok (.aload_n 1, 1) := by decide +kernel
theorem dX3_mostMissed_23 : decode cX3_mostMissed 23 = .ok (.invokevirtual 74, 3) := by decide +kernel
theorem dX3_mostMissed_26 : decode cX3_mostMissed 26 = .ok (.iconst 1, 1) := by decide +kernel
theorem dX3_mostMissed_27 : decode cX3_mostMissed 27 = .ok (.iload 5, 2) := by decide +kernel
theorem dX3_mostMissed_29 : decode cX3_mostMissed 29 = .ok (.ishl, 1) := by decide +kernel
theorem dX3_mostMissed_30 : decode cX3_mostMissed 30 = .ok (.iconst (-1), 1) := by decide +kernel
theorem dX3_mostMissed_31 : decode cX3_mostMissed 31 = .ok (.ixor, 1) := by decide +kernel
theorem dX3_mostMissed_32 : decode cX3_mostMissed 32 = .ok (.iand, 1) := by decide +kernel
theorem dX3_mostMissed_33 : decode cX3_mostMissed 33 = .ok (.invokevirtual 107, 3) := by decide +kernel
theorem dX3_mostMissed_36 : decode cX3_mostMissed 36 = .ok (.invokevirtual 113, 3) := by decide +kernel
theorem dX3_mostMissed_39 : decode cX3_mostMissed 39 = .ok (.istore 6, 2) := by decide +kernel
theorem dX3_mostMissed_41 : decode cX3_mostMissed 41 = .ok (.iload_n 3, 1) := by decide +kernel
theorem dX3_mostMissed_42 : decode cX3_mostMissed 42 = .ok (.ldc 58, 2) := by decide +kernel
theorem dX3_mostMissed_44 : decode cX3_mostMissed 44 = .ok (.if_icmp .eq 10, 3) := by decide +kernel
theorem dX3_mostMissed_47 : decode cX3_mostMissed 47 = .ok (.iload 6, 2) := by decide +kernel
theorem dX3_mostMissed_49 : decode cX3_mostMissed 49 = .ok (.iload 4, 2) := by decide +kernel
theorem dX3_mostMissed_51 : decode cX3_mostMissed 51 = .ok (.if_icmp .ge 10, 3) := by decide +kernel
theorem dX3_mostMissed_54 : decode cX3_mostMissed 54 = .ok (.iload 5, 2) := by decide +kernel
theorem dX3_mostMissed_56 : decode cX3_mostMissed 56 = .ok (.istore_n 3, 1) := by decide +kernel
theorem dX3_mostMissed_57 : decode cX3_mostMissed 57 = .ok (.iload 6, 2) := by decide +kernel
theorem dX3_mostMissed_59 : decode cX3_mostMissed 59 = .ok (.istore 4, 2) := by decide +kernel
theorem dX3_mostMissed_61 : decode cX3_mostMissed 61 = .ok (.iinc 5 1, 3) := by decide +kernel
theorem dX3_mostMissed_64 : decode cX3_mostMissed 64 = .ok (.goto (-54), 3) := by decide +kernel
theorem dX3_mostMissed_67 : decode cX3_mostMissed 67 = .ok (.iload_n 2, 1) := by decide +kernel
theorem dX3_mostMissed_68 : decode cX3_mostMissed 68 = .ok (.ifCond .eq 7, 3) := by decide +kernel
theorem dX3_mostMissed_71 : decode cX3_mostMissed 71 = .ok (.iload_n 3, 1) := by decide +kernel
theorem dX3_mostMissed_72 : decode cX3_mostMissed 72 = .ok (.goto 5, 3) := by decide +kernel
theorem dX3_mostMissed_75 : decode cX3_mostMissed 75 = .ok (.iload 4, 2) := by decide +kernel
theorem dX3_mostMissed_77 : decode cX3_mostMissed 77 = .ok (.ireturn, 1) := by decide +kernel
theorem dX3_wouldAskButFear_0 : decode cX3_wouldAskButFear 0 = .ok (.iconst 0, 1) := by decide +kernel
theorem dX3_wouldAskButFear_1 : decode cX3_wouldAskButFear 1 = .ok (.istore 5, 2) := by decide +kernel
theorem dX3_wouldAskButFear_3 : decode cX3_wouldAskButFear 3 = .ok (.iconst 0, 1) := by decide +kernel
theorem dX3_wouldAskButFear_4 : decode cX3_wouldAskButFear 4 = .ok (.istore 6, 2) := by decide +kernel
theorem dX3_wouldAskButFear_6 : decode cX3_wouldAskButFear 6 = .ok (.iload 6, 2) := by decide +kernel
theorem dX3_wouldAskButFear_8 : decode cX3_wouldAskButFear 8 = .ok (.aload_n 0, 1) := by decide +kernel
theorem dX3_wouldAskButFear_9 : decode cX3_wouldAskButFear 9 = .ok (.getfield 82, 3) := by decide +kernel
theorem dX3_wouldAskButFear_12 : decode cX3_wouldAskButFear 12 = .ok (.if_icmp .ge 59, 3) := by decide +kernel
theorem dX3_wouldAskButFear_15 : decode cX3_wouldAskButFear 15 = .ok (.aload_n 0, 1) := by decide +kernel
theorem dX3_wouldAskButFear_16 : decode cX3_wouldAskButFear 16 = .ok (.iload 6, 2) := by decide +kernel
theorem dX3_wouldAskButFear_18 : decode cX3_wouldAskButFear 18 = .ok (.invokevirtual 88, 3) := by decide +kernel
theorem dX3_wouldAskButFear_21 : decode cX3_wouldAskButFear 21 = .ok (.ifCond .ne 44, 3) := by decide +kernel
theorem dX3_wouldAskButFear_24 : decode cX3_wouldAskButFear 24 = .ok (.aload_n 0, 1) := by decide +kernel
theorem dX3_wouldAskButFear_25 : decode cX3_wouldAskButFear 25 = .ok (.iload 6, 2) := by decide +kernel
theorem dX3_wouldAskButFear_27 : decode cX3_wouldAskButFear 27 = .ok (.invokevirtual 91, 3) := by decide +kernel
theorem dX3_wouldAskButFear_30 : decode cX3_wouldAskButFear 30 = .ok (.ifCond .ne 35, 3) := by decide +kernel
theorem dX3_wouldAskButFear_33 : decode cX3_wouldAskButFear 33 = .ok (.aload_n 0, 1) := by decide +kernel
theorem dX3_wouldAskButFear_34 : decode cX3_wouldAskButFear 34 = .ok (.aload_n 0, 1) := by decide +kernel
theorem dX3_wouldAskButFear_35 : decode cX3_wouldAskButFear 35 = .ok (.getfield 59, 3) := by decide +kernel
theorem dX3_wouldAskButFear_38 : decode cX3_wouldAskButFear 38 = .ok (.iload 6, 2) := by decide +kernel
theorem dX3_wouldAskButFear_40 : decode cX3_wouldAskButFear 40 = .ok (.iaload, 1) := by decide +kernel
theorem dX3_wouldAskButFear_41 : decode cX3_wouldAskButFear 41 = .ok (.aload_n 1, 1) := by decide +kernel
theorem dX3_wouldAskButFear_42 : decode cX3_wouldAskButFear 42 = .ok (.iload_n 2, 1) := by decide +kernel
theorem dX3_wouldAskButFear_43 : decode cX3_wouldAskButFear 43 = .ok (.iload_n 3, 1) := by decide +kernel
theorem dX3_wouldAskButFear_44 : decode cX3_wouldAskButFear 44 = .ok (.iload 4, 2) := by decide +kernel
theorem dX3_wouldAskButFear_46 : decode cX3_wouldAskButFear 46 = .ok (.invokestatic 116, 3) := by decide +kernel
theorem dX3_wouldAskButFear_49 : decode cX3_wouldAskButFear 49 = .ok (.aload_n 0, 1) := by decide +kernel
theorem dX3_wouldAskButFear_50 : decode cX3_wouldAskButFear 50 = .ok (.getfield 24, 3) := by decide +kernel
theorem dX3_wouldAskButFear_53 : decode cX3_wouldAskButFear 53 = .ok (.if_icmp .ne 12, 3) := by decide +kernel
theorem dX3_wouldAskButFear_56 : decode cX3_wouldAskButFear 56 = .ok (.iload 5, 2) := by decide +kernel
theorem dX3_wouldAskButFear_58 : decode cX3_wouldAskButFear 58 = .ok (.iconst 1, 1) := by decide +kernel
theorem dX3_wouldAskButFear_59 : decode cX3_wouldAskButFear 59 = .ok (.iload 6, 2) := by decide +kernel
theorem dX3_wouldAskButFear_61 : decode cX3_wouldAskButFear 61 = .ok (.ishl, 1) := by decide +kernel
theorem dX3_wouldAskButFear_62 : decode cX3_wouldAskButFear 62 = .ok (.ior, 1) := by decide +kernel
theorem dX3_wouldAskButFear_63 : decode cX3_wouldAskButFear 63 = .ok (.istore 5, 2) := by decide +kernel
theorem dX3_wouldAskButFear_65 : decode cX3_wouldAskButFear 65 = .ok (.iinc 6 1, 3) := by decide +kernel
theorem dX3_wouldAskButFear_68 : decode cX3_wouldAskButFear 68 = .ok (.goto (-62), 3) := by decide +kernel
theorem dX3_wouldAskButFear_71 : decode cX3_wouldAskButFear 71 = .ok (.iload 5, 2) := by decide +kernel
theorem dX3_wouldAskButFear_73 : decode cX3_wouldAskButFear 73 = .ok (.ireturn, 1) := by decide +kernel
theorem dX3_afterRow_0 : decode cX3_afterRow 0 = .ok (.iload_n 1, 1) := by decide +kernel
theorem dX3_afterRow_1 : decode cX3_afterRow 1 = .ok (.istore 6, 2) := by decide +kernel
theorem dX3_afterRow_3 : decode cX3_afterRow 3 = .ok (.iconst 0, 1) := by decide +kernel
theorem dX3_afterRow_4 : decode cX3_afterRow 4 = .ok (.istore 7, 2) := by decide +kernel
theorem dX3_afterRow_6 : decode cX3_afterRow 6 = .ok (.iload 7, 2) := by decide +kernel
theorem dX3_afterRow_8 : decode cX3_afterRow 8 = .ok (.iload 5, 2) := by decide +kernel
theorem dX3_afterRow_10 : decode cX3_afterRow 10 = .ok (.if_icmp .ge 48, 3) := by decide +kernel
theorem dX3_afterRow_13 : decode cX3_afterRow 13 = .ok (.aload_n 2, 1) := by decide +kernel
theorem dX3_afterRow_14 : decode cX3_afterRow 14 = .ok (.iload_n 3, 1) := by decide +kernel
theorem dX3_afterRow_15 : decode cX3_afterRow 15 = .ok (.iload 4, 2) := by decide +kernel
theorem dX3_afterRow_17 : decode cX3_afterRow 17 = .ok (.iload 7, 2) := by decide +kernel
theorem dX3_afterRow_19 : decode cX3_afterRow 19 = .ok (.iadd, 1) := by decide +kernel
theorem dX3_afterRow_20 : decode cX3_afterRow 20 = .ok (.invokevirtual 120, 3) := by decide +kernel
theorem dX3_afterRow_23 : decode cX3_afterRow 23 = .ok (.istore 8, 2) := by decide +kernel
theorem dX3_afterRow_25 : decode cX3_afterRow 25 = .ok (.aload_n 0, 1) := by decide +kernel
theorem dX3_afterRow_26 : decode cX3_afterRow 26 = .ok (.iload 6, 2) := by decide +kernel
theorem dX3_afterRow_28 : decode cX3_afterRow 28 = .ok (.iload 8, 2) := by decide +kernel
theorem dX3_afterRow_30 : decode cX3_afterRow 30 = .ok (.aload_n 0, 1) := by decide +kernel
theorem dX3_afterRow_31 : decode cX3_afterRow 31 = .ok (.getfield 44, 3) := by decide +kernel
theorem dX3_afterRow_34 : decode cX3_afterRow 34 = .ok (.iload 8, 2) := by decide +kernel
theorem dX3_afterRow_36 : decode cX3_afterRow 36 = .ok (.iaload, 1) := by decide +kernel
theorem dX3_afterRow_37 : decode cX3_afterRow 37 = .ok (.aload_n 2, 1) := by decide +kernel
theorem dX3_afterRow_38 : decode cX3_afterRow 38 = .ok (.iload_n 3, 1) := by decide +kernel
theorem dX3_afterRow_39 : decode cX3_afterRow 39 = .ok (.iload 4, 2) := by decide +kernel
theorem dX3_afterRow_41 : decode cX3_afterRow 41 = .ok (.iload 7, 2) := by decide +kernel
theorem dX3_afterRow_43 : decode cX3_afterRow 43 = .ok (.invokestatic 125, 3) := by decide +kernel
theorem dX3_afterRow_46 : decode cX3_afterRow 46 = .ok (.iadd, 1) := by decide +kernel
theorem dX3_afterRow_47 : decode cX3_afterRow 47 = .ok (.invokevirtual 66, 3) := by decide +kernel
theorem dX3_afterRow_50 : decode cX3_afterRow 50 = .ok (.istore 6, 2) := by decide +kernel
theorem dX3_afterRow_52 : decode cX3_afterRow 52 = .ok (.iinc 7 1, 3) := by decide +kernel
theorem dX3_afterRow_55 : decode cX3_afterRow 55 = .ok (.goto (-49), 3) := by decide +kernel
theorem dX3_afterRow_58 : decode cX3_afterRow 58 = .ok (.iload 6, 2) := by decide +kernel
theorem dX3_afterRow_60 : decode cX3_afterRow 60 = .ok (.ireturn, 1) := by decide +kernel
theorem dX3_timesAhead_0 : decode cX3_timesAhead 0 = .ok (.iconst 0, 1) := by decide +kernel
theorem dX3_timesAhead_1 : decode cX3_timesAhead 1 = .ok (.istore 4, 2) := by decide +kernel
theorem dX3_timesAhead_3 : decode cX3_timesAhead 3 = .ok (.iconst 0, 1) := by decide +kernel
theorem dX3_timesAhead_4 : decode cX3_timesAhead 4 = .ok (.istore 5, 2) := by decide +kernel
theorem dX3_timesAhead_6 : decode cX3_timesAhead 6 = .ok (.iload 5, 2) := by decide +kernel
theorem dX3_timesAhead_8 : decode cX3_timesAhead 8 = .ok (.iload_n 3, 1) := by decide +kernel
theorem dX3_timesAhead_9 : decode cX3_timesAhead 9 = .ok (.if_icmp .ge 39, 3) := by decide +kernel
theorem dX3_timesAhead_12 : decode cX3_timesAhead 12 = .ok (.iload 4, 2) := by decide +kernel
theorem dX3_timesAhead_14 : decode cX3_timesAhead 14 = .ok (.aload_n 0, 1) := by decide +kernel
theorem dX3_timesAhead_15 : decode cX3_timesAhead 15 = .ok (.iload_n 1, 1) := by decide +kernel
theorem dX3_timesAhead_16 : decode cX3_timesAhead 16 = .ok (.iload_n 2, 1) := by decide +kernel
theorem dX3_timesAhead_17 : decode cX3_timesAhead 17 = .ok (.iload 5, 2) := by decide +kernel
theorem dX3_timesAhead_19 : decode cX3_timesAhead 19 = .ok (.iadd, 1) := by decide +kernel
theorem dX3_timesAhead_20 : decode cX3_timesAhead 20 = .ok (.invokevirtual 120, 3) := by decide +kernel
theorem dX3_timesAhead_23 : decode cX3_timesAhead 23 = .ok (.aload_n 0, 1) := by decide +kernel
theorem dX3_timesAhead_24 : decode cX3_timesAhead 24 = .ok (.iload_n 1, 1) := by decide +kernel
theorem dX3_timesAhead_25 : decode cX3_timesAhead 25 = .ok (.iload_n 2, 1) := by decide +kernel
theorem dX3_timesAhead_26 : decode cX3_timesAhead 26 = .ok (.iload_n 3, 1) := by decide +kernel
theorem dX3_timesAhead_27 : decode cX3_timesAhead 27 = .ok (.iadd, 1) := by decide +kernel
theorem dX3_timesAhead_28 : decode cX3_timesAhead 28 = .ok (.invokevirtual 120, 3) := by decide +kernel
theorem dX3_timesAhead_31 : decode cX3_timesAhead 31 = .ok (.if_icmp .ne 7, 3) := by decide +kernel
theorem dX3_timesAhead_34 : decode cX3_timesAhead 34 = .ok (.iconst 1, 1) := by decide +kernel
theorem dX3_timesAhead_35 : decode cX3_timesAhead 35 = .ok (.goto 4, 3) := by decide +kernel
theorem dX3_timesAhead_38 : decode cX3_timesAhead 38 = .ok (.iconst 0, 1) := by decide +kernel
theorem dX3_timesAhead_39 : decode cX3_timesAhead 39 = .ok (.iadd, 1) := by decide +kernel
theorem dX3_timesAhead_40 : decode cX3_timesAhead 40 = .ok (.istore 4, 2) := by decide +kernel
theorem dX3_timesAhead_42 : decode cX3_timesAhead 42 = .ok (.iinc 5 1, 3) := by decide +kernel
theorem dX3_timesAhead_45 : decode cX3_timesAhead 45 = .ok (.goto (-39), 3) := by decide +kernel
theorem dX3_timesAhead_48 : decode cX3_timesAhead 48 = .ok (.iload 4, 2) := by decide +kernel
theorem dX3_timesAhead_50 : decode cX3_timesAhead 50 = .ok (.ireturn, 1) := by decide +kernel
theorem dX4_init_0 : decode cX4_init 0 = .ok (.aload_n 0, 1) := by decide +kernel
theorem dX4_init_1 : decode cX4_init 1 = .ok (.invokespecial 3, 3) := by decide +kernel
theorem dX4_init_4 : decode cX4_init 4 = .ok (.aload_n 0, 1) := by decide +kernel
theorem dX4_init_5 : decode cX4_init 5 = .ok (.sipush 320, 3) := by decide +kernel
theorem dX4_init_8 : decode cX4_init 8 = .ok (.newarray .int, 2) := by decide +kernel
theorem dX4_init_10 : decode cX4_init 10 = .ok (.putfield 9, 3) := by decide +kernel
theorem dX4_init_13 : decode cX4_init 13 = .ok (.aload_n 0, 1) := by decide +kernel
theorem dX4_init_14 : decode cX4_init 14 = .ok (.bipush 8, 2) := by decide +kernel
theorem dX4_init_16 : decode cX4_init 16 = .ok (.newarray .int, 2) := by decide +kernel
theorem dX4_init_18 : decode cX4_init 18 = .ok (.putfield 15, 3) := by decide +kernel
theorem dX4_init_21 : decode cX4_init 21 = .ok (.aload_n 0, 1) := by decide +kernel
theorem dX4_init_22 : decode cX4_init 22 = .ok (.bipush 8, 2) := by decide +kernel
theorem dX4_init_24 : decode cX4_init 24 = .ok (.newarray .int, 2) := by decide +kernel
theorem dX4_init_26 : decode cX4_init 26 = .ok (.putfield 18, 3) := by decide +kernel
theorem dX4_init_29 : decode cX4_init 29 = .ok (.iconst 0, 1) := by decide +kernel
theorem dX4_init_30 : decode cX4_init 30 = .ok (.istore_n 1, 1) := by decide +kernel
theorem dX4_init_31 : decode cX4_init 31 = .ok (.iload_n 1, 1) := by decide +kernel
theorem dX4_init_32 : decode cX4_init 32 = .ok (.bipush 8, 2) := by decide +kernel
theorem dX4_init_34 : decode cX4_init 34 = .ok (.if_icmp .ge 16, 3) := by decide +kernel
theorem dX4_init_37 : decode cX4_init 37 = .ok (.aload_n 0, 1) := by decide +kernel
theorem dX4_init_38 : decode cX4_init 38 = .ok (.getfield 18, 3) := by decide +kernel
theorem dX4_init_41 : decode cX4_init 41 = .ok (.iload_n 1, 1) := by decide +kernel
theorem dX4_init_42 : decode cX4_init 42 = .ok (.iconst (-1), 1) := by decide +kernel
theorem dX4_init_43 : decode cX4_init 43 = .ok (.iastore, 1) := by decide +kernel
theorem dX4_init_44 : decode cX4_init 44 = .ok (.iinc 1 1, 3) := by decide +kernel
theorem dX4_init_47 : decode cX4_init 47 = .ok (.goto (-16), 3) := by decide +kernel
theorem dX4_init_50 : decode cX4_init 50 = .ok (.return_, 1) := by decide +kernel
theorem dX4_make_0 : decode cX4_make 0 = .ok (.aload_n 0, 1) := by decide +kernel
theorem dX4_make_1 : decode cX4_make 1 = .ok (.getfield 15, 3) := by decide +kernel
theorem dX4_make_4 : decode cX4_make 4 = .ok (.iload_n 1, 1) := by decide +kernel
theorem dX4_make_5 : decode cX4_make 5 = .ok (.iload_n 2, 1) := by decide +kernel
theorem dX4_make_6 : decode cX4_make 6 = .ok (.iastore, 1) := by decide +kernel
theorem dX4_make_7 : decode cX4_make 7 = .ok (.aload_n 0, 1) := by decide +kernel
theorem dX4_make_8 : decode cX4_make 8 = .ok (.getfield 18, 3) := by decide +kernel
theorem dX4_make_11 : decode cX4_make 11 = .ok (.iload_n 1, 1) := by decide +kernel
theorem dX4_make_12 : decode cX4_make 12 = .ok (.iload_n 3, 1) := by decide +kernel
theorem dX4_make_13 : decode cX4_make 13 = .ok (.iastore, 1) := by decide +kernel
theorem dX4_make_14 : decode cX4_make 14 = .ok (.iconst 0, 1) := by decide +kernel
theorem dX4_make_15 : decode cX4_make 15 = .ok (.istore 4, 2) := by decide +kernel
theorem dX4_make_17 : decode cX4_make 17 = .ok (.iload 4, 2) := by decide +kernel
theorem dX4_make_19 : decode cX4_make 19 = .ok (.iload_n 3, 1) := by decide +kernel
theorem dX4_make_20 : decode cX4_make 20 = .ok (.if_icmp .ge 22, 3) := by decide +kernel
theorem dX4_make_23 : decode cX4_make 23 = .ok (.aload_n 0, 1) := by decide +kernel
theorem dX4_make_24 : decode cX4_make 24 = .ok (.getfield 9, 3) := by decide +kernel
theorem dX4_make_27 : decode cX4_make 27 = .ok (.iload_n 1, 1) := by decide +kernel
theorem dX4_make_28 : decode cX4_make 28 = .ok (.bipush 40, 2) := by decide +kernel
theorem dX4_make_30 : decode cX4_make 30 = .ok (.imul, 1) := by decide +kernel
theorem dX4_make_31 : decode cX4_make 31 = .ok (.iload 4, 2) := by decide +kernel
theorem dX4_make_33 : decode cX4_make 33 = .ok (.iadd, 1) := by decide +kernel
theorem dX4_make_34 : decode cX4_make 34 = .ok (.iconst 0, 1) := by decide +kernel
theorem dX4_make_35 : decode cX4_make 35 = .ok (.iastore, 1) := by decide +kernel
theorem dX4_make_36 : decode cX4_make 36 = .ok (.iinc 4 1, 3) := by decide +kernel
theorem dX4_make_39 : decode cX4_make 39 = .ok (.goto (-22), 3) := by decide +kernel
theorem dX4_make_42 : decode cX4_make 42 = .ok (.return_, 1) := by decide +kernel
theorem dX4_remove_0 : decode cX4_remove 0 = .ok (.aload_n 0, 1) := by decide +kernel
theorem dX4_remove_1 : decode cX4_remove 1 = .ok (.getfield 18, 3) := by decide +kernel
theorem dX4_remove_4 : decode cX4_remove 4 = .ok (.iload_n 1, 1) := by decide +kernel
theorem dX4_remove_5 : decode cX4_remove 5 = .ok (.iaload, 1) := by decide +kernel
theorem dX4_remove_6 : decode cX4_remove 6 = .ok (.istore_n 2, 1) := by decide +kernel
theorem dX4_remove_7 : decode cX4_remove 7 = .ok (.aload_n 0, 1) := by decide +kernel
theorem dX4_remove_8 : decode cX4_remove 8 = .ok (.getfield 18, 3) := by decide +kernel
theorem dX4_remove_11 : decode cX4_remove 11 = .ok (.iload_n 1, 1) := by decide +kernel
theorem dX4_remove_12 : decode cX4_remove 12 = .ok (.iconst (-1), 1) := by decide +kernel
theorem dX4_remove_13 : decode cX4_remove 13 = .ok (.iastore, 1) := by decide +kernel
theorem dX4_remove_14 : decode cX4_remove 14 = .ok (.iload_n 2, 1) := by decide +kernel
theorem dX4_remove_15 : decode cX4_remove 15 = .ok (.ireturn, 1) := by decide +kernel
theorem dX4_isMissing_0 : decode cX4_isMissing 0 = .ok (.aload_n 0, 1) := by decide +kernel
theorem dX4_isMissing_1 : decode cX4_isMissing 1 = .ok (.getfield 18, 3) := by decide +kernel
theorem dX4_isMissing_4 : decode cX4_isMissing 4 = .ok (.iload_n 1, 1) := by decide +kernel
theorem dX4_isMissing_5 : decode cX4_isMissing 5 = .ok (.iaload, 1) := by decide +kernel
theorem dX4_isMissing_6 : decode cX4_isMissing 6 = .ok (.iconst (-1), 1) := by decide +kernel
theorem dX4_isMissing_7 : decode cX4_isMissing 7 = .ok (.if_icmp .ne 7, 3) := by decide +kernel
theorem dX4_isMissing_10 : decode cX4_isMissing 10 = .ok (.iconst 1, 1) := by decide +kernel
theorem dX4_isMissing_11 : decode cX4_isMissing 11 = .ok (.goto 4, 3) := by decide +kernel
theorem dX4_isMissing_14 : decode cX4_isMissing 14 = .ok (.iconst 0, 1) := by decide +kernel
theorem dX4_isMissing_15 : decode cX4_isMissing 15 = .ok (.ireturn, 1) := by decide +kernel
theorem dX4_laneOf_0 : decode cX4_laneOf 0 = .ok (.aload_n 0, 1) := by decide +kernel
theorem dX4_laneOf_1 : decode cX4_laneOf 1 = .ok (.getfield 15, 3) := by decide +kernel
theorem dX4_laneOf_4 : decode cX4_laneOf 4 = .ok (.iload_n 1, 1) := by decide +kernel
theorem dX4_laneOf_5 : decode cX4_laneOf 5 = .ok (.iaload, 1) := by decide +kernel
theorem dX4_laneOf_6 : decode cX4_laneOf 6 = .ok (.ireturn, 1) := by decide +kernel
theorem dX4_holds_0 : decode cX4_holds 0 = .ok (.iload_n 2, 1) := by decide +kernel
theorem dX4_holds_1 : decode cX4_holds 1 = .ok (.ifCond .lt 23, 3) := by decide +kernel
theorem dX4_holds_4 : decode cX4_holds 4 = .ok (.iload_n 3, 1) := by decide +kernel
theorem dX4_holds_5 : decode cX4_holds 5 = .ok (.ifCond .lt 19, 3) := by decide +kernel
theorem dX4_holds_8 : decode cX4_holds 8 = .ok (.iload_n 2, 1) := by decide +kernel
theorem dX4_holds_9 : decode cX4_holds 9 = .ok (.aload_n 0, 1) := by decide +kernel
theorem dX4_holds_10 : decode cX4_holds 10 = .ok (.getfield 18, 3) := by decide +kernel
theorem dX4_holds_13 : decode cX4_holds 13 = .ok (.iload_n 1, 1) := by decide +kernel
theorem dX4_holds_14 : decode cX4_holds 14 = .ok (.iaload, 1) := by decide +kernel
theorem dX4_holds_15 : decode cX4_holds 15 = .ok (.iload_n 3, 1) := by decide +kernel
theorem dX4_holds_16 : decode cX4_holds 16 = .ok (.isub, 1) := by decide +kernel
theorem dX4_holds_17 : decode cX4_holds 17 = .ok (.if_icmp .gt 7, 3) := by decide +kernel
theorem dX4_holds_20 : decode cX4_holds 20 = .ok (.iconst 1, 1) := by decide +kernel
theorem dX4_holds_21 : decode cX4_holds 21 = .ok (.goto 4, 3) := by decide +kernel
theorem dX4_holds_24 : decode cX4_holds 24 = .ok (.iconst 0, 1) := by decide +kernel
theorem dX4_holds_25 : decode cX4_holds 25 = .ok (.ireturn, 1) := by decide +kernel
theorem dX4_put_0 : decode cX4_put 0 = .ok (.aload_n 0, 1) := by decide +kernel
theorem dX4_put_1 : decode cX4_put 1 = .ok (.getfield 15, 3) := by decide +kernel
theorem dX4_put_4 : decode cX4_put 4 = .ok (.iload_n 1, 1) := by decide +kernel
theorem dX4_put_5 : decode cX4_put 5 = .ok (.iaload, 1) := by decide +kernel
theorem dX4_put_6 : decode cX4_put 6 = .ok (.ifCond .ne 8, 3) := by decide +kernel
theorem dX4_put_9 : decode cX4_put 9 = .ok (.iload_n 3, 1) := by decide +kernel
theorem dX4_put_10 : decode cX4_put 10 = .ok (.i2b, 1) := by decide +kernel
theorem dX4_put_11 : decode cX4_put 11 = .ok (.goto 19, 3) := by decide +kernel
theorem dX4_put_14 : decode cX4_put 14 = .ok (.aload_n 0, 1) := by decide +kernel
theorem dX4_put_15 : decode cX4_put 15 = .ok (.getfield 15, 3) := by decide +kernel
theorem dX4_put_18 : decode cX4_put 18 = .ok (.iload_n 1, 1) := by decide +kernel
theorem dX4_put_19 : decode cX4_put 19 = .ok (.iaload, 1) := by decide +kernel
theorem dX4_put_20 : decode cX4_put 20 = .ok (.iconst 1, 1) := by decide +kernel
theorem dX4_put_21 : decode cX4_put 21 = .ok (.if_icmp .ne 8, 3) := by decide +kernel
theorem dX4_put_24 : decode cX4_put 24 = .ok (.iload_n 3, 1) := by decide +kernel
theorem dX4_put_25 : decode cX4_put 25 = .ok (.i2s, 1) := by decide +kernel
theorem dX4_put_26 : decode cX4_put 26 = .ok (.goto 4, 3) := by decide +kernel
theorem dX4_put_29 : decode cX4_put 29 = .ok (.iload_n 3, 1) := by decide +kernel
theorem dX4_put_30 : decode cX4_put 30 = .ok (.istore 4, 2) := by decide +kernel
theorem dX4_put_32 : decode cX4_put 32 = .ok (.aload_n 0, 1) := by decide +kernel
theorem dX4_put_33 : decode cX4_put 33 = .ok (.getfield 9, 3) := by decide +kernel
theorem dX4_put_36 : decode cX4_put 36 = .ok (.iload_n 1, 1) := by decide +kernel
theorem dX4_put_37 : decode cX4_put 37 = .ok (.bipush 40, 2) := by decide +kernel
theorem dX4_put_39 : decode cX4_put 39 = .ok (.imul, 1) := by decide +kernel
theorem dX4_put_40 : decode cX4_put 40 = .ok (.iload_n 2, 1) := by decide +kernel
theorem dX4_put_41 : decode cX4_put 41 = .ok (.iadd, 1) := by decide +kernel
theorem dX4_put_42 : decode cX4_put 42 = .ok (.iload 4, 2) := by decide +kernel
theorem dX4_put_44 : decode cX4_put 44 = .ok (.iastore, 1) := by decide +kernel
theorem dX4_put_45 : decode cX4_put 45 = .ok (.iload 4, 2) := by decide +kernel
theorem dX4_put_47 : decode cX4_put 47 = .ok (.ireturn, 1) := by decide +kernel
theorem dX4_itemOf_0 : decode cX4_itemOf 0 = .ok (.aload_n 0, 1) := by decide +kernel
theorem dX4_itemOf_1 : decode cX4_itemOf 1 = .ok (.getfield 9, 3) := by decide +kernel
theorem dX4_itemOf_4 : decode cX4_itemOf 4 = .ok (.iload_n 1, 1) := by decide +kernel
theorem dX4_itemOf_5 : decode cX4_itemOf 5 = .ok (.bipush 40, 2) := by decide +kernel
theorem dX4_itemOf_7 : decode cX4_itemOf 7 = .ok (.imul, 1) := by decide +kernel
theorem dX4_itemOf_8 : decode cX4_itemOf 8 = .ok (.iload_n 2, 1) := by decide +kernel
theorem dX4_itemOf_9 : decode cX4_itemOf 9 = .ok (.iadd, 1) := by decide +kernel
theorem dX4_itemOf_10 : decode cX4_itemOf 10 = .ok (.iaload, 1) := by decide +kernel
theorem dX4_itemOf_11 : decode cX4_itemOf 11 = .ok (.ireturn, 1) := by decide +kernel
theorem dX4_carry_0 : decode cX4_carry 0 = .ok (.aload_n 0, 1) := by decide +kernel
theorem dX4_carry_1 : decode cX4_carry 1 = .ok (.getfield 9, 3) := by decide +kernel
theorem dX4_carry_4 : decode cX4_carry 4 = .ok (.iload_n 1, 1) := by decide +kernel
theorem dX4_carry_5 : decode cX4_carry 5 = .ok (.bipush 40, 2) := by decide +kernel
theorem dX4_carry_7 : decode cX4_carry 7 = .ok (.imul, 1) := by decide +kernel
theorem dX4_carry_8 : decode cX4_carry 8 = .ok (.iload_n 2, 1) := by decide +kernel
theorem dX4_carry_9 : decode cX4_carry 9 = .ok (.iadd, 1) := by decide +kernel
theorem dX4_carry_10 : decode cX4_carry 10 = .ok (.aload_n 0, 1) := by decide +kernel
theorem dX4_carry_11 : decode cX4_carry 11 = .ok (.getfield 9, 3) := by decide +kernel
theorem dX4_carry_14 : decode cX4_carry 14 = .ok (.iload_n 3, 1) := by decide +kernel
theorem dX4_carry_15 : decode cX4_carry 15 = .ok (.bipush 40, 2) := by decide +kernel
theorem dX4_carry_17 : decode cX4_carry 17 = .ok (.imul, 1) := by decide +kernel
theorem dX4_carry_18 : decode cX4_carry 18 = .ok (.iload 4, 2) := by decide +kernel
theorem dX4_carry_20 : decode cX4_carry 20 = .ok (.iadd, 1) := by decide +kernel
theorem dX4_carry_21 : decode cX4_carry 21 = .ok (.iload 5, 2) := by decide +kernel
theorem dX4_carry_23 : decode cX4_carry 23 = .ok (.invokestatic 21, 3) := by decide +kernel
theorem dX4_carry_26 : decode cX4_carry 26 = .ok (.return_, 1) := by decide +kernel
theorem dX4_present_0 : decode cX4_present 0 = .ok (.iconst 0, 1) := by decide +kernel
theorem dX4_present_1 : decode cX4_present 1 = .ok (.istore_n 1, 1) := by decide +kernel
theorem dX4_present_2 : decode cX4_present 2 = .ok (.iconst 0, 1) := by decide +kernel
theorem dX4_present_3 : decode cX4_present 3 = .ok (.istore_n 2, 1) := by decide +kernel
theorem dX4_present_4 : decode cX4_present 4 = .ok (.iload_n 2, 1) := by decide +kernel
theorem dX4_present_5 : decode cX4_present 5 = .ok (.bipush 8, 2) := by decide +kernel
theorem dX4_present_7 : decode cX4_present 7 = .ok (.if_icmp .ge 25, 3) := by decide +kernel
theorem dX4_present_10 : decode cX4_present 10 = .ok (.iload_n 1, 1) := by decide +kernel
theorem dX4_present_11 : decode cX4_present 11 = .ok (.aload_n 0, 1) := by decide +kernel
theorem dX4_present_12 : decode cX4_present 12 = .ok (.iload_n 2, 1) := by decide +kernel
theorem dX4_present_13 : decode cX4_present 13 = .ok (.invokevirtual 27, 3) := by decide +kernel
theorem dX4_present_16 : decode cX4_present 16 = .ok (.ifCond .eq 7, 3) := by decide +kernel
theorem dX4_present_19 : decode cX4_present 19 = .ok (.iconst 0, 1) := by decide +kernel
theorem dX4_present_20 : decode cX4_present 20 = .ok (.goto 4, 3) := by decide +kernel
theorem dX4_present_23 : decode cX4_present 23 = .ok (.iconst 1, 1) := by decide +kernel
theorem dX4_present_24 : decode cX4_present 24 = .ok (.iadd, 1) := by decide +kernel
theorem dX4_present_25 : decode cX4_present 25 = .ok (.istore_n 1, 1) := by decide +kernel
theorem dX4_present_26 : decode cX4_present 26 = .ok (.iinc 2 1, 3) := by decide +kernel
theorem dX4_present_29 : decode cX4_present 29 = .ok (.goto (-25), 3) := by decide +kernel
theorem dX4_present_32 : decode cX4_present 32 = .ok (.iload_n 1, 1) := by decide +kernel
theorem dX4_present_33 : decode cX4_present 33 = .ok (.ireturn, 1) := by decide +kernel
theorem dX5_init_0 : decode cX5_init 0 = .ok (.aload_n 0, 1) := by decide +kernel
theorem dX5_init_1 : decode cX5_init 1 = .ok (.invokespecial 3, 3) := by decide +kernel
theorem dX5_init_4 : decode cX5_init 4 = .ok (.aload_n 0, 1) := by decide +kernel
theorem dX5_init_5 : decode cX5_init 5 = .ok (.bipush 120, 2) := by decide +kernel
theorem dX5_init_7 : decode cX5_init 7 = .ok (.newarray .int, 2) := by decide +kernel
theorem dX5_init_9 : decode cX5_init 9 = .ok (.putfield 9, 3) := by decide +kernel
theorem dX5_init_12 : decode cX5_init 12 = .ok (.return_, 1) := by decide +kernel
theorem dX5_append_0 : decode cX5_append 0 = .ok (.aload_n 0, 1) := by decide +kernel
theorem dX5_append_1 : decode cX5_append 1 = .ok (.getfield 9, 3) := by decide +kernel
theorem dX5_append_4 : decode cX5_append 4 = .ok (.aload_n 0, 1) := by decide +kernel
theorem dX5_append_5 : decode cX5_append 5 = .ok (.getfield 15, 3) := by decide +kernel
theorem dX5_append_8 : decode cX5_append 8 = .ok (.iload_n 1, 1) := by decide +kernel
theorem dX5_append_9 : decode cX5_append 9 = .ok (.iastore, 1) := by decide +kernel
theorem dX5_append_10 : decode cX5_append 10 = .ok (.aload_n 0, 1) := by decide +kernel
theorem dX5_append_11 : decode cX5_append 11 = .ok (.dup, 1) := by decide +kernel
theorem dX5_append_12 : decode cX5_append 12 = .ok (.getfield 15, 3) := by decide +kernel
theorem dX5_append_15 : decode cX5_append 15 = .ok (.iconst 1, 1) := by decide +kernel
theorem dX5_append_16 : decode cX5_append 16 = .ok (.iadd, 1) := by decide +kernel
theorem dX5_append_17 : decode cX5_append 17 = .ok (.putfield 15, 3) := by decide +kernel
theorem dX5_append_20 : decode cX5_append 20 = .ok (.aload_n 0, 1) := by decide +kernel
theorem dX5_append_21 : decode cX5_append 21 = .ok (.getfield 15, 3) := by decide +kernel
theorem dX5_append_24 : decode cX5_append 24 = .ok (.ireturn, 1) := by decide +kernel
theorem dX5_tells_0 : decode cX5_tells 0 = .ok (.aload_n 0, 1) := by decide +kernel
theorem dX5_tells_1 : decode cX5_tells 1 = .ok (.iconst 0, 1) := by decide +kernel
theorem dX5_tells_2 : decode cX5_tells 2 = .ok (.putfield 19, 3) := by decide +kernel
theorem dX5_tells_5 : decode cX5_tells 5 = .ok (.aload_n 0, 1) := by decide +kernel
theorem dX5_tells_6 : decode cX5_tells 6 = .ok (.aload_n 1, 1) := by decide +kernel
theorem dX5_tells_7 : decode cX5_tells 7 = .ok (.invokevirtual 22, 3) := by decide +kernel
theorem dX5_tells_10 : decode cX5_tells 10 = .ok (.ifCond .eq 42, 3) := by decide +kernel
theorem dX5_tells_13 : decode cX5_tells 13 = .ok (.aload_n 0, 1) := by decide +kernel
theorem dX5_tells_14 : decode cX5_tells 14 = .ok (.aload_n 1, 1) := by decide +kernel
theorem dX5_tells_15 : decode cX5_tells 15 = .ok (.invokevirtual 26, 3) := by decide +kernel
theorem dX5_tells_18 : decode cX5_tells 18 = .ok (.ifCond .eq 34, 3) := by decide +kernel
theorem dX5_tells_21 : decode cX5_tells 21 = .ok (.aload_n 0, 1) := by decide +kernel
theorem dX5_tells_22 : decode cX5_tells 22 = .ok (.aload_n 1, 1) := by decide +kernel
theorem dX5_tells_23 : decode cX5_tells 23 = .ok (.invokevirtual 29, 3) := by decide +kernel
theorem dX5_tells_26 : decode cX5_tells 26 = .ok (.ifCond .eq 26, 3) := by decide +kernel
theorem dX5_tells_29 : decode cX5_tells 29 = .ok (.aload_n 0, 1) := by decide +kernel
theorem dX5_tells_30 : decode cX5_tells 30 = .ok (.getfield 19, 3) := by decide +kernel
theorem dX5_tells_33 : decode cX5_tells 33 = .ok (.aload_n 0, 1) := by decide +kernel
theorem dX5_tells_34 : decode cX5_tells 34 = .ok (.getfield 15, 3) := by decide +kernel
theorem dX5_tells_37 : decode cX5_tells 37 = .ok (.if_icmp .eq 11, 3) := by decide +kernel
theorem dX5_tells_40 : decode cX5_tells 40 = .ok (.aload_n 0, 1) := by decide +kernel
theorem dX5_tells_41 : decode cX5_tells 41 = .ok (.iconst 1, 1) := by decide +kernel
theorem dX5_tells_42 : decode cX5_tells 42 = .ok (.invokevirtual 32, 3) := by decide +kernel
theorem dX5_tells_45 : decode cX5_tells 45 = .ok (.ifCond .eq 7, 3) := by decide +kernel
theorem dX5_tells_48 : decode cX5_tells 48 = .ok (.iconst 1, 1) := by decide +kernel
theorem dX5_tells_49 : decode cX5_tells 49 = .ok (.goto 4, 3) := by decide +kernel
theorem dX5_tells_52 : decode cX5_tells 52 = .ok (.iconst 0, 1) := by decide +kernel
theorem dX5_tells_53 : decode cX5_tells 53 = .ok (.ireturn, 1) := by decide +kernel
theorem dX5_tellsLaw_0 : decode cX5_tellsLaw 0 = .ok (.aload_n 0, 1) := by decide +kernel
theorem dX5_tellsLaw_1 : decode cX5_tellsLaw 1 = .ok (.bipush 107, 2) := by decide +kernel
theorem dX5_tellsLaw_3 : decode cX5_tellsLaw 3 = .ok (.invokevirtual 36, 3) := by decide +kernel
theorem dX5_tellsLaw_6 : decode cX5_tellsLaw 6 = .ok (.ifCond .eq 14, 3) := by decide +kernel
theorem dX5_tellsLaw_9 : decode cX5_tellsLaw 9 = .ok (.aload_n 0, 1) := by decide +kernel
theorem dX5_tellsLaw_10 : decode cX5_tellsLaw 10 = .ok (.iconst 0, 1) := by decide +kernel
theorem dX5_tellsLaw_11 : decode cX5_tellsLaw 11 = .ok (.bipush 7, 2) := by decide +kernel
theorem dX5_tellsLaw_13 : decode cX5_tellsLaw 13 = .ok (.iconst (-1), 1) := by decide +kernel
theorem dX5_tellsLaw_14 : decode cX5_tellsLaw 14 = .ok (.invokevirtual 39, 3) := by decide +kernel
theorem dX5_tellsLaw_17 : decode cX5_tellsLaw 17 = .ok (.ifCond .ne 5, 3) := by decide +kernel
theorem dX5_tellsLaw_20 : decode cX5_tellsLaw 20 = .ok (.iconst 0, 1) := by decide +kernel
theorem dX5_tellsLaw_21 : decode cX5_tellsLaw 21 = .ok (.ireturn, 1) := by decide +kernel
theorem dX5_tellsLaw_22 : decode cX5_tellsLaw 22 = .ok (.aload_n 1, 1) := by decide +kernel
theorem dX5_tellsLaw_23 : decode cX5_tellsLaw 23 = .ok (.aload_n 0, 1) := by decide +kernel
theorem dX5_tellsLaw_24 : decode cX5_tellsLaw 24 = .ok (.getfield 43, 3) := by decide +kernel
theorem dX5_tellsLaw_27 : decode cX5_tellsLaw 27 = .ok (.putfield 46, 3) := by decide +kernel
theorem dX5_tellsLaw_30 : decode cX5_tellsLaw 30 = .ok (.aload_n 0, 1) := by decide +kernel
theorem dX5_tellsLaw_31 : decode cX5_tellsLaw 31 = .ok (.bipush 44, 2) := by decide +kernel
theorem dX5_tellsLaw_33 : decode cX5_tellsLaw 33 = .ok (.invokevirtual 36, 3) := by decide +kernel
theorem dX5_tellsLaw_36 : decode cX5_tellsLaw 36 = .ok (.ifCond .eq 17, 3) := by decide +kernel
theorem dX5_tellsLaw_39 : decode cX5_tellsLaw 39 = .ok (.aload_n 0, 1) := by decide +kernel
theorem dX5_tellsLaw_40 : decode cX5_tellsLaw 40 = .ok (.iconst 0, 1) := by decide +kernel
theorem dX5_tellsLaw_41 : decode cX5_tellsLaw 41 = .ok (.bipush 7, 2) := by decide +kernel
theorem dX5_tellsLaw_43 : decode cX5_tellsLaw 43 = .ok (.aload_n 1, 1) := by decide +kernel
theorem dX5_tellsLaw_44 : decode cX5_tellsLaw 44 = .ok (.getfield 46, 3) := by decide +kernel
theorem dX5_tellsLaw_47 : decode cX5_tellsLaw 47 = .ok (.invokevirtual 39, 3) := by decide +kernel
theorem dX5_tellsLaw_50 : decode cX5_tellsLaw 50 = .ok (.ifCond .ne 5, 3) := by decide +kernel
theorem dX5_tellsLaw_53 : decode cX5_tellsLaw 53 = .ok (.iconst 0, 1) := by decide +kernel
theorem dX5_tellsLaw_54 : decode cX5_tellsLaw 54 = .ok (.ireturn, 1) := by decide +kernel
theorem dX5_tellsLaw_55 : decode cX5_tellsLaw 55 = .ok (.aload_n 1, 1) := by decide +kernel
theorem dX5_tellsLaw_56 : decode cX5_tellsLaw 56 = .ok (.aload_n 0, 1) := by decide +kernel
theorem dX5_tellsLaw_57 : decode cX5_tellsLaw 57 = .ok (.getfield 43, 3) := by decide +kernel
theorem dX5_tellsLaw_60 : decode cX5_tellsLaw 60 = .ok (.putfield 51, 3) := by decide +kernel
theorem dX5_tellsLaw_63 : decode cX5_tellsLaw 63 = .ok (.aload_n 0, 1) := by decide +kernel
theorem dX5_tellsLaw_64 : decode cX5_tellsLaw 64 = .ok (.bipush 44, 2) := by decide +kernel
theorem dX5_tellsLaw_66 : decode cX5_tellsLaw 66 = .ok (.invokevirtual 36, 3) := by decide +kernel
theorem dX5_tellsLaw_69 : decode cX5_tellsLaw 69 = .ok (.ifCond .eq 13, 3) := by decide +kernel
theorem dX5_tellsLaw_72 : decode cX5_tellsLaw 72 = .ok (.aload_n 0, 1) := by decide +kernel
theorem dX5_tellsLaw_73 : decode cX5_tellsLaw 73 = .ok (.iconst 1, 1) := by decide +kernel
theorem dX5_tellsLaw_74 : decode cX5_tellsLaw 74 = .ok (.iconst 5, 1) := by decide +kernel
theorem dX5_tellsLaw_75 : decode cX5_tellsLaw 75 = .ok (.iconst (-1), 1) := by decide +kernel
theorem dX5_tellsLaw_76 : decode cX5_tellsLaw 76 = .ok (.invokevirtual 39, 3) := by decide +kernel
theorem dX5_tellsLaw_79 : decode cX5_tellsLaw 79 = .ok (.ifCond .ne 5, 3) := by decide +kernel
theorem dX5_tellsLaw_82 : decode cX5_tellsLaw 82 = .ok (.iconst 0, 1) := by decide +kernel
theorem dX5_tellsLaw_83 : decode cX5_tellsLaw 83 = .ok (.ireturn, 1) := by decide +kernel
theorem dX5_tellsLaw_84 : decode cX5_tellsLaw 84 = .ok (.aload_n 1, 1) := by decide +kernel
theorem dX5_tellsLaw_85 : decode cX5_tellsLaw 85 = .ok (.aload_n 0, 1) := by decide +kernel
theorem dX5_tellsLaw_86 : decode cX5_tellsLaw 86 = .ok (.getfield 43, 3) := by decide +kernel
theorem dX5_tellsLaw_89 : decode cX5_tellsLaw 89 = .ok (.putfield 54, 3) := by decide +kernel
theorem dX5_tellsLaw_92 : decode cX5_tellsLaw 92 = .ok (.aload_n 0, 1) := by decide +kernel
theorem dX5_tellsLaw_93 : decode cX5_tellsLaw 93 = .ok (.bipush 59, 2) := by decide +kernel
theorem dX5_tellsLaw_95 : decode cX5_tellsLaw 95 = .ok (.invokevirtual 36, 3) := by decide +kernel
theorem dX5_tellsLaw_98 : decode cX5_tellsLaw 98 = .ok (.ireturn, 1) := by decide +kernel
theorem dX5_tellsHints_0 : decode cX5_tellsHints 0 = .ok (.iconst 0, 1) := by decide +kernel
theorem dX5_tellsHints_1 : decode cX5_tellsHints 1 = .ok (.istore_n 2, 1) := by decide +kernel
theorem dX5_tellsHints_2 : decode cX5_tellsHints 2 = .ok (.iload_n 2, 1) := by decide +kernel
theorem dX5_tellsHints_3 : decode cX5_tellsHints 3 = .ok (.bipush 8, 2) := by decide +kernel
theorem dX5_tellsHints_5 : decode cX5_tellsHints 5 = .ok (.if_icmp .ge 30, 3) := by decide +kernel
theorem dX5_tellsHints_8 : decode cX5_tellsHints 8 = .ok (.aload_n 0, 1) := by decide +kernel
theorem dX5_tellsHints_9 : decode cX5_tellsHints 9 = .ok (.invokevirtual 57, 3) := by decide +kernel
theorem dX5_tellsHints_12 : decode cX5_tellsHints 12 = .ok (.invokestatic 61, 3) := by decide +kernel
theorem dX5_tellsHints_15 : decode cX5_tellsHints 15 = .ok (.ifCond .eq 20, 3) := by decide +kernel
theorem dX5_tellsHints_18 : decode cX5_tellsHints 18 = .ok (.aload_n 0, 1) := by decide +kernel
theorem dX5_tellsHints_19 : decode cX5_tellsHints 19 = .ok (.aload_n 1, 1) := by decide +kernel
theorem dX5_tellsHints_20 : decode cX5_tellsHints 20 = .ok (.iload_n 2, 1) := by decide +kernel
theorem dX5_tellsHints_21 : decode cX5_tellsHints 21 = .ok (.invokevirtual 65, 3) := by decide +kernel
theorem dX5_tellsHints_24 : decode cX5_tellsHints 24 = .ok (.ifCond .ne 5, 3) := by decide +kernel
theorem dX5_tellsHints_27 : decode cX5_tellsHints 27 = .ok (.iconst 0, 1) := by decide +kernel
theorem dX5_tellsHints_28 : decode cX5_tellsHints 28 = .ok (.ireturn, 1) := by decide +kernel
theorem dX5_tellsHints_29 : decode cX5_tellsHints 29 = .ok (.iinc 2 1, 3) := by decide +kernel
theorem dX5_tellsHints_32 : decode cX5_tellsHints 32 = .ok (.goto (-30), 3) := by decide +kernel
theorem dX5_tellsHints_35 : decode cX5_tellsHints 35 = .ok (.aload_n 1, 1) := by decide +kernel
theorem dX5_tellsHints_36 : decode cX5_tellsHints 36 = .ok (.iload_n 2, 1) := by decide +kernel
theorem dX5_tellsHints_37 : decode cX5_tellsHints 37 = .ok (.putfield 69, 3) := by decide +kernel
theorem dX5_tellsHints_40 : decode cX5_tellsHints 40 = .ok (.aload_n 0, 1) := by decide +kernel
theorem dX5_tellsHints_41 : decode cX5_tellsHints 41 = .ok (.invokevirtual 57, 3) := by decide +kernel
theorem dX5_tellsHints_44 : decode cX5_tellsHints 44 = .ok (.invokestatic 61, 3) := by decide +kernel
theorem dX5_tellsHints_47 : decode cX5_tellsHints 47 = .ok (.ifCond .eq 11, 3) := by decide +kernel
theorem dX5_tellsHints_50 : decode cX5_tellsHints 50 = .ok (.aload_n 0, 1) := by decide +kernel
theorem dX5_tellsHints_51 : decode cX5_tellsHints 51 = .ok (.iconst 3, 1) := by decide +kernel
theorem dX5_tellsHints_52 : decode cX5_tellsHints 52 = .ok (.invokevirtual 32, 3) := by decide +kernel
theorem dX5_tellsHints_55 : decode cX5_tellsHints 55 = .ok (.ifCond .eq 7, 3) := by decide +kernel
theorem dX5_tellsHints_58 : decode cX5_tellsHints 58 = .ok (.iconst 1, 1) := by decide +kernel
theorem dX5_tellsHints_59 : decode cX5_tellsHints 59 = .ok (.goto 4, 3) := by decide +kernel
theorem dX5_tellsHints_62 : decode cX5_tellsHints 62 = .ok (.iconst 0, 1) := by decide +kernel
theorem dX5_tellsHints_63 : decode cX5_tellsHints 63 = .ok (.ireturn, 1) := by decide +kernel
theorem dX5_tellsHint_0 : decode cX5_tellsHint 0 = .ok (.aload_n 1, 1) := by decide +kernel
theorem dX5_tellsHint_1 : decode cX5_tellsHint 1 = .ok (.getfield 72, 3) := by decide +kernel
theorem dX5_tellsHint_4 : decode cX5_tellsHint 4 = .ok (.iload_n 2, 1) := by decide +kernel
theorem dX5_tellsHint_5 : decode cX5_tellsHint 5 = .ok (.aload_n 0, 1) := by decide +kernel
theorem dX5_tellsHint_6 : decode cX5_tellsHint 6 = .ok (.invokevirtual 57, 3) := by decide +kernel
theorem dX5_tellsHint_9 : decode cX5_tellsHint 9 = .ok (.invokestatic 61, 3) := by decide +kernel
theorem dX5_tellsHint_12 : decode cX5_tellsHint 12 = .ok (.iastore, 1) := by decide +kernel
theorem dX5_tellsHint_13 : decode cX5_tellsHint 13 = .ok (.aload_n 0, 1) := by decide +kernel
theorem dX5_tellsHint_14 : decode cX5_tellsHint 14 = .ok (.dup, 1) := by decide +kernel
theorem dX5_tellsHint_15 : decode cX5_tellsHint 15 = .ok (.getfield 19, 3) := by decide +kernel
theorem dX5_tellsHint_18 : decode cX5_tellsHint 18 = .ok (.iconst 1, 1) := by decide +kernel
theorem dX5_tellsHint_19 : decode cX5_tellsHint 19 = .ok (.iadd, 1) := by decide +kernel
theorem dX5_tellsHint_20 : decode cX5_tellsHint 20 = .ok (.putfield 19, 3) := by decide +kernel
theorem dX5_tellsHint_23 : decode cX5_tellsHint 23 = .ok (.aload_n 0, 1) := by decide +kernel
theorem dX5_tellsHint_24 : decode cX5_tellsHint 24 = .ok (.iconst 0, 1) := by decide +kernel
theorem dX5_tellsHint_25 : decode cX5_tellsHint 25 = .ok (.bipush 7, 2) := by decide +kernel
theorem dX5_tellsHint_27 : decode cX5_tellsHint 27 = .ok (.iconst (-1), 1) := by decide +kernel
theorem dX5_tellsHint_28 : decode cX5_tellsHint 28 = .ok (.invokevirtual 39, 3) := by decide +kernel
theorem dX5_tellsHint_31 : decode cX5_tellsHint 31 = .ok (.ifCond .ne 5, 3) := by decide +kernel
theorem dX5_tellsHint_34 : decode cX5_tellsHint 34 = .ok (.iconst 0, 1) := by decide +kernel
theorem dX5_tellsHint_35 : decode cX5_tellsHint 35 = .ok (.ireturn, 1) := by decide +kernel
theorem dX5_tellsHint_36 : decode cX5_tellsHint 36 = .ok (.aload_n 1, 1) := by decide +kernel
theorem dX5_tellsHint_37 : decode cX5_tellsHint 37 = .ok (.getfield 75, 3) := by decide +kernel
theorem dX5_tellsHint_40 : decode cX5_tellsHint 40 = .ok (.iload_n 2, 1) := by decide +kernel
theorem dX5_tellsHint_41 : decode cX5_tellsHint 41 = .ok (.aload_n 0, 1) := by decide +kernel
theorem dX5_tellsHint_42 : decode cX5_tellsHint 42 = .ok (.getfield 43, 3) := by decide +kernel
theorem dX5_tellsHint_45 : decode cX5_tellsHint 45 = .ok (.iastore, 1) := by decide +kernel
theorem dX5_tellsHint_46 : decode cX5_tellsHint 46 = .ok (.aload_n 0, 1) := by decide +kernel
theorem dX5_tellsHint_47 : decode cX5_tellsHint 47 = .ok (.bipush 44, 2) := by decide +kernel
theorem dX5_tellsHint_49 : decode cX5_tellsHint 49 = .ok (.invokevirtual 36, 3) := by decide +kernel
theorem dX5_tellsHint_52 : decode cX5_tellsHint 52 = .ok (.ifCond .eq 19, 3) := by decide +kernel
theorem dX5_tellsHint_55 : decode cX5_tellsHint 55 = .ok (.aload_n 0, 1) := by decide +kernel
theorem dX5_tellsHint_56 : decode cX5_tellsHint 56 = .ok (.iconst 0, 1) := by decide +kernel
theorem dX5_tellsHint_57 : decode cX5_tellsHint 57 = .ok (.bipush 7, 2) := by decide +kernel
theorem dX5_tellsHint_59 : decode cX5_tellsHint 59 = .ok (.aload_n 1, 1) := by decide +kernel
theorem dX5_tellsHint_60 : decode cX5_tellsHint 60 = .ok (.getfield 75, 3) := by decide +kernel
theorem dX5_tellsHint_63 : decode cX5_tellsHint 63 = .ok (.iload_n 2, 1) := by decide +kernel
theorem dX5_tellsHint_64 : decode cX5_tellsHint 64 = .ok (.iaload, 1) := by decide +kernel
theorem dX5_tellsHint_65 : decode cX5_tellsHint 65 = .ok (.invokevirtual 39, 3) := by decide +kernel
theorem dX5_tellsHint_68 : decode cX5_tellsHint 68 = .ok (.ifCond .ne 5, 3) := by decide +kernel
theorem dX5_tellsHint_71 : decode cX5_tellsHint 71 = .ok (.iconst 0, 1) := by decide +kernel
theorem dX5_tellsHint_72 : decode cX5_tellsHint 72 = .ok (.ireturn, 1) := by decide +kernel
theorem dX5_tellsHint_73 : decode cX5_tellsHint 73 = .ok (.aload_n 1, 1) := by decide +kernel
theorem dX5_tellsHint_74 : decode cX5_tellsHint 74 = .ok (.getfield 78, 3) := by decide +kernel
theorem dX5_tellsHint_77 : decode cX5_tellsHint 77 = .ok (.iload_n 2, 1) := by decide +kernel
theorem dX5_tellsHint_78 : decode cX5_tellsHint 78 = .ok (.aload_n 0, 1) := by decide +kernel
theorem dX5_tellsHint_79 : decode cX5_tellsHint 79 = .ok (.getfield 43, 3) := by decide +kernel
theorem dX5_tellsHint_82 : decode cX5_tellsHint 82 = .ok (.iastore, 1) := by decide +kernel
theorem dX5_tellsHint_83 : decode cX5_tellsHint 83 = .ok (.aload_n 0, 1) := by decide +kernel
theorem dX5_tellsHint_84 : decode cX5_tellsHint 84 = .ok (.bipush 59, 2) := by decide +kernel
theorem dX5_tellsHint_86 : decode cX5_tellsHint 86 = .ok (.invokevirtual 36, 3) := by decide +kernel
theorem dX5_tellsHint_89 : decode cX5_tellsHint 89 = .ok (.ireturn, 1) := by decide +kernel
theorem dX5_tellsGuests_0 : decode cX5_tellsGuests 0 = .ok (.iconst 0, 1) := by decide +kernel
theorem dX5_tellsGuests_1 : decode cX5_tellsGuests 1 = .ok (.istore_n 2, 1) := by decide +kernel
theorem dX5_tellsGuests_2 : decode cX5_tellsGuests 2 = .ok (.iload_n 2, 1) := by decide +kernel
theorem dX5_tellsGuests_3 : decode cX5_tellsGuests 3 = .ok (.bipush 6, 2) := by decide +kernel
theorem dX5_tellsGuests_5 : decode cX5_tellsGuests 5 = .ok (.if_icmp .ge 29, 3) := by decide +kernel
theorem dX5_tellsGuests_8 : decode cX5_tellsGuests 8 = .ok (.aload_n 0, 1) := by decide +kernel
theorem dX5_tellsGuests_9 : decode cX5_tellsGuests 9 = .ok (.invokevirtual 57, 3) := by decide +kernel
theorem dX5_tellsGuests_12 : decode cX5_tellsGuests 12 = .ok (.bipush 110, 2) := by decide +kernel
theorem dX5_tellsGuests_14 : decode cX5_tellsGuests 14 = .ok (.if_icmp .ne 20, 3) := by decide +kernel
theorem dX5_tellsGuests_17 : decode cX5_tellsGuests 17 = .ok (.aload_n 0, 1) := by decide +kernel
theorem dX5_tellsGuests_18 : decode cX5_tellsGuests 18 = .ok (.aload_n 1, 1) := by decide +kernel
theorem dX5_tellsGuests_19 : decode cX5_tellsGuests 19 = .ok (.iload_n 2, 1) := by decide +kernel
theorem dX5_tellsGuests_20 : decode cX5_tellsGuests 20 = .ok (.invokevirtual 81, 3) := by decide +kernel
theorem dX5_tellsGuests_23 : decode cX5_tellsGuests 23 = .ok (.ifCond .ne 5, 3) := by decide +kernel
theorem dX5_tellsGuests_26 : decode cX5_tellsGuests 26 = .ok (.iconst 0, 1) := by decide +kernel
theorem dX5_tellsGuests_27 : decode cX5_tellsGuests 27 = .ok (.ireturn, 1) := by decide +kernel
theorem dX5_tellsGuests_28 : decode cX5_tellsGuests 28 = .ok (.iinc 2 1, 3) := by decide +kernel
theorem dX5_tellsGuests_31 : decode cX5_tellsGuests 31 = .ok (.goto (-29), 3) := by decide +kernel
theorem dX5_tellsGuests_34 : decode cX5_tellsGuests 34 = .ok (.aload_n 1, 1) := by decide +kernel
theorem dX5_tellsGuests_35 : decode cX5_tellsGuests 35 = .ok (.iload_n 2, 1) := by decide +kernel
theorem dX5_tellsGuests_36 : decode cX5_tellsGuests 36 = .ok (.putfield 84, 3) := by decide +kernel
theorem dX5_tellsGuests_39 : decode cX5_tellsGuests 39 = .ok (.aload_n 0, 1) := by decide +kernel
theorem dX5_tellsGuests_40 : decode cX5_tellsGuests 40 = .ok (.invokevirtual 57, 3) := by decide +kernel
theorem dX5_tellsGuests_43 : decode cX5_tellsGuests 43 = .ok (.bipush 110, 2) := by decide +kernel
theorem dX5_tellsGuests_45 : decode cX5_tellsGuests 45 = .ok (.if_icmp .ne 11, 3) := by decide +kernel
theorem dX5_tellsGuests_48 : decode cX5_tellsGuests 48 = .ok (.aload_n 0, 1) := by decide +kernel
theorem dX5_tellsGuests_49 : decode cX5_tellsGuests 49 = .ok (.iconst 3, 1) := by decide +kernel
theorem dX5_tellsGuests_50 : decode cX5_tellsGuests 50 = .ok (.invokevirtual 32, 3) := by decide +kernel
theorem dX5_tellsGuests_53 : decode cX5_tellsGuests 53 = .ok (.ifCond .eq 7, 3) := by decide +kernel
theorem dX5_tellsGuests_56 : decode cX5_tellsGuests 56 = .ok (.iconst 1, 1) := by decide +kernel
theorem dX5_tellsGuests_57 : decode cX5_tellsGuests 57 = .ok (.goto 4, 3) := by decide +kernel
theorem dX5_tellsGuests_60 : decode cX5_tellsGuests 60 = .ok (.iconst 0, 1) := by decide +kernel
theorem dX5_tellsGuests_61 : decode cX5_tellsGuests 61 = .ok (.ireturn, 1) := by decide +kernel
theorem dX5_tellsGuest_0 : decode cX5_tellsGuest 0 = .ok (.aload_n 0, 1) := by decide +kernel
theorem dX5_tellsGuest_1 : decode cX5_tellsGuest 1 = .ok (.dup, 1) := by decide +kernel
theorem dX5_tellsGuest_2 : decode cX5_tellsGuest 2 = .ok (.getfield 19, 3) := by decide +kernel
theorem dX5_tellsGuest_5 : decode cX5_tellsGuest 5 = .ok (.iconst 1, 1) := by decide +kernel
theorem dX5_tellsGuest_6 : decode cX5_tellsGuest 6 = .ok (.iadd, 1) := by decide +kernel
theorem dX5_tellsGuest_7 : decode cX5_tellsGuest 7 = .ok (.putfield 19, 3) := by decide +kernel
theorem dX5_tellsGuest_10 : decode cX5_tellsGuest 10 = .ok (.aload_n 0, 1) := by decide +kernel
theorem dX5_tellsGuest_11 : decode cX5_tellsGuest 11 = .ok (.iconst 0, 1) := by decide +kernel
theorem dX5_tellsGuest_12 : decode cX5_tellsGuest 12 = .ok (.bipush 7, 2) := by decide +kernel
theorem dX5_tellsGuest_14 : decode cX5_tellsGuest 14 = .ok (.iconst (-1), 1) := by decide +kernel
theorem dX5_tellsGuest_15 : decode cX5_tellsGuest 15 = .ok (.invokevirtual 39, 3) := by decide +kernel
theorem dX5_tellsGuest_18 : decode cX5_tellsGuest 18 = .ok (.ifCond .ne 5, 3) := by decide +kernel
theorem dX5_tellsGuest_21 : decode cX5_tellsGuest 21 = .ok (.iconst 0, 1) := by decide +kernel
theorem dX5_tellsGuest_22 : decode cX5_tellsGuest 22 = .ok (.ireturn, 1) := by decide +kernel
theorem dX5_tellsGuest_23 : decode cX5_tellsGuest 23 = .ok (.aload_n 1, 1) := by decide +kernel
theorem dX5_tellsGuest_24 : decode cX5_tellsGuest 24 = .ok (.getfield 87, 3) := by decide +kernel
theorem dX5_tellsGuest_27 : decode cX5_tellsGuest 27 = .ok (.iload_n 2, 1) := by decide +kernel
theorem dX5_tellsGuest_28 : decode cX5_tellsGuest 28 = .ok (.aload_n 0, 1) := by decide +kernel
theorem dX5_tellsGuest_29 : decode cX5_tellsGuest 29 = .ok (.getfield 43, 3) := by decide +kernel
theorem dX5_tellsGuest_32 : decode cX5_tellsGuest 32 = .ok (.iastore, 1) := by decide +kernel
theorem dX5_tellsGuest_33 : decode cX5_tellsGuest 33 = .ok (.aload_n 0, 1) := by decide +kernel
theorem dX5_tellsGuest_34 : decode cX5_tellsGuest 34 = .ok (.bipush 44, 2) := by decide +kernel
theorem dX5_tellsGuest_36 : decode cX5_tellsGuest 36 = .ok (.invokevirtual 36, 3) := by decide +kernel
theorem dX5_tellsGuest_39 : decode cX5_tellsGuest 39 = .ok (.ifCond .eq 14, 3) := by decide +kernel
theorem dX5_tellsGuest_42 : decode cX5_tellsGuest 42 = .ok (.aload_n 0, 1) := by decide +kernel
theorem dX5_tellsGuest_43 : decode cX5_tellsGuest 43 = .ok (.iconst 0, 1) := by decide +kernel
theorem dX5_tellsGuest_44 : decode cX5_tellsGuest 44 = .ok (.bipush 20, 2) := by decide +kernel
theorem dX5_tellsGuest_46 : decode cX5_tellsGuest 46 = .ok (.iconst (-1), 1) := by decide +kernel
theorem dX5_tellsGuest_47 : decode cX5_tellsGuest 47 = .ok (.invokevirtual 39, 3) := by decide +kernel
theorem dX5_tellsGuest_50 : decode cX5_tellsGuest 50 = .ok (.ifCond .ne 5, 3) := by decide +kernel
theorem dX5_tellsGuest_53 : decode cX5_tellsGuest 53 = .ok (.iconst 0, 1) := by decide +kernel
theorem dX5_tellsGuest_54 : decode cX5_tellsGuest 54 = .ok (.ireturn, 1) := by decide +kernel
theorem dX5_tellsGuest_55 : decode cX5_tellsGuest 55 = .ok (.aload_n 1, 1) := by decide +kernel
theorem dX5_tellsGuest_56 : decode cX5_tellsGuest 56 = .ok (.getfield 90, 3) := by decide +kernel
theorem dX5_tellsGuest_59 : decode cX5_tellsGuest 59 = .ok (.iload_n 2, 1) := by decide +kernel
theorem dX5_tellsGuest_60 : decode cX5_tellsGuest 60 = .ok (.aload_n 0, 1) := by decide +kernel
theorem dX5_tellsGuest_61 : decode cX5_tellsGuest 61 = .ok (.getfield 43, 3) := by decide +kernel
theorem dX5_tellsGuest_64 : decode cX5_tellsGuest 64 = .ok (.iastore, 1) := by decide +kernel
theorem dX5_tellsGuest_65 : decode cX5_tellsGuest 65 = .ok (.aload_n 0, 1) := by decide +kernel
theorem dX5_tellsGuest_66 : decode cX5_tellsGuest 66 = .ok (.bipush 44, 2) := by decide +kernel
theorem dX5_tellsGuest_68 : decode cX5_tellsGuest 68 = .ok (.invokevirtual 36, 3) := by decide +kernel
theorem dX5_tellsGuest_71 : decode cX5_tellsGuest 71 = .ok (.ifCond .eq 14, 3) := by decide +kernel
theorem dX5_tellsGuest_74 : decode cX5_tellsGuest 74 = .ok (.aload_n 0, 1) := by decide +kernel
theorem dX5_tellsGuest_75 : decode cX5_tellsGuest 75 = .ok (.iconst 0, 1) := by decide +kernel
theorem dX5_tellsGuest_76 : decode cX5_tellsGuest 76 = .ok (.bipush 20, 2) := by decide +kernel
theorem dX5_tellsGuest_78 : decode cX5_tellsGuest 78 = .ok (.iconst (-1), 1) := by decide +kernel
theorem dX5_tellsGuest_79 : decode cX5_tellsGuest 79 = .ok (.invokevirtual 39, 3) := by decide +kernel
theorem dX5_tellsGuest_82 : decode cX5_tellsGuest 82 = .ok (.ifCond .ne 5, 3) := by decide +kernel
theorem dX5_tellsGuest_85 : decode cX5_tellsGuest 85 = .ok (.iconst 0, 1) := by decide +kernel
theorem dX5_tellsGuest_86 : decode cX5_tellsGuest 86 = .ok (.ireturn, 1) := by decide +kernel
theorem dX5_tellsGuest_87 : decode cX5_tellsGuest 87 = .ok (.aload_n 1, 1) := by decide +kernel
theorem dX5_tellsGuest_88 : decode cX5_tellsGuest 88 = .ok (.getfield 93, 3) := by decide +kernel
theorem dX5_tellsGuest_91 : decode cX5_tellsGuest 91 = .ok (.iload_n 2, 1) := by decide +kernel
theorem dX5_tellsGuest_92 : decode cX5_tellsGuest 92 = .ok (.aload_n 0, 1) := by decide +kernel
theorem dX5_tellsGuest_93 : decode cX5_tellsGuest 93 = .ok (.getfield 43, 3) := by decide +kernel
theorem dX5_tellsGuest_96 : decode cX5_tellsGuest 96 = .ok (.iastore, 1) := by decide +kernel
theorem dX5_tellsGuest_97 : decode cX5_tellsGuest 97 = .ok (.aload_n 0, 1) := by decide +kernel
theorem dX5_tellsGuest_98 : decode cX5_tellsGuest 98 = .ok (.bipush 59, 2) := by decide +kernel
theorem dX5_tellsGuest_100 : decode cX5_tellsGuest 100 = .ok (.invokevirtual 36, 3) := by decide +kernel
theorem dX5_tellsGuest_103 : decode cX5_tellsGuest 103 = .ok (.ireturn, 1) := by decide +kernel
theorem dX5_tellsSign_0 : decode cX5_tellsSign 0 = .ok (.aload_n 0, 1) := by decide +kernel
theorem dX5_tellsSign_1 : decode cX5_tellsSign 1 = .ok (.invokevirtual 57, 3) := by decide +kernel
theorem dX5_tellsSign_4 : decode cX5_tellsSign 4 = .ok (.iload_n 1, 1) := by decide +kernel
theorem dX5_tellsSign_5 : decode cX5_tellsSign 5 = .ok (.if_icmp .eq 9, 3) := by decide +kernel
theorem dX5_tellsSign_8 : decode cX5_tellsSign 8 = .ok (.aload_n 0, 1) := by decide +kernel
theorem dX5_tellsSign_9 : decode cX5_tellsSign 9 = .ok (.iconst 1, 1) := by decide +kernel
theorem dX5_tellsSign_10 : decode cX5_tellsSign 10 = .ok (.invokevirtual 32, 3) := by decide +kernel
theorem dX5_tellsSign_13 : decode cX5_tellsSign 13 = .ok (.ireturn, 1) := by decide +kernel
theorem dX5_tellsSign_14 : decode cX5_tellsSign 14 = .ok (.aload_n 0, 1) := by decide +kernel
theorem dX5_tellsSign_15 : decode cX5_tellsSign 15 = .ok (.dup, 1) := by decide +kernel
theorem dX5_tellsSign_16 : decode cX5_tellsSign 16 = .ok (.getfield 19, 3) := by decide +kernel
theorem dX5_tellsSign_19 : decode cX5_tellsSign 19 = .ok (.iconst 1, 1) := by decide +kernel
theorem dX5_tellsSign_20 : decode cX5_tellsSign 20 = .ok (.iadd, 1) := by decide +kernel
theorem dX5_tellsSign_21 : decode cX5_tellsSign 21 = .ok (.putfield 19, 3) := by decide +kernel
theorem dX5_tellsSign_24 : decode cX5_tellsSign 24 = .ok (.iconst 1, 1) := by decide +kernel
theorem dX5_tellsSign_25 : decode cX5_tellsSign 25 = .ok (.ireturn, 1) := by decide +kernel
theorem dX5_tellsNumber_0 : decode cX5_tellsNumber 0 = .ok (.aload_n 0, 1) := by decide +kernel
theorem dX5_tellsNumber_1 : decode cX5_tellsNumber 1 = .ok (.getfield 19, 3) := by decide +kernel
theorem dX5_tellsNumber_4 : decode cX5_tellsNumber 4 = .ok (.istore 4, 2) := by decide +kernel
theorem dX5_tellsNumber_6 : decode cX5_tellsNumber 6 = .ok (.aload_n 0, 1) := by decide +kernel
theorem dX5_tellsNumber_7 : decode cX5_tellsNumber 7 = .ok (.iconst 0, 1) := by decide +kernel
theorem dX5_tellsNumber_8 : decode cX5_tellsNumber 8 = .ok (.putfield 43, 3) := by decide +kernel
theorem dX5_tellsNumber_11 : decode cX5_tellsNumber 11 = .ok (.iload 4, 2) := by decide +kernel
theorem dX5_tellsNumber_13 : decode cX5_tellsNumber 13 = .ok (.aload_n 0, 1) := by decide +kernel
theorem dX5_tellsNumber_14 : decode cX5_tellsNumber 14 = .ok (.getfield 15, 3) := by decide +kernel
theorem dX5_tellsNumber_17 : decode cX5_tellsNumber 17 = .ok (.if_icmp .ge 55, 3) := by decide +kernel
theorem dX5_tellsNumber_20 : decode cX5_tellsNumber 20 = .ok (.iload 4, 2) := by decide +kernel
theorem dX5_tellsNumber_22 : decode cX5_tellsNumber 22 = .ok (.aload_n 0, 1) := by decide +kernel
theorem dX5_tellsNumber_23 : decode cX5_tellsNumber 23 = .ok (.getfield 19, 3) := by decide +kernel
theorem dX5_tellsNumber_26 : decode cX5_tellsNumber 26 = .ok (.iconst 3, 1) := by decide +kernel
theorem dX5_tellsNumber_27 : decode cX5_tellsNumber 27 = .ok (.iadd, 1) := by decide +kernel
theorem dX5_tellsNumber_28 : decode cX5_tellsNumber 28 = .ok (.if_icmp .ge 44, 3) := by decide +kernel
theorem dX5_tellsNumber_31 : decode cX5_tellsNumber 31 = .ok (.aload_n 0, 1) := by decide +kernel
theorem dX5_tellsNumber_32 : decode cX5_tellsNumber 32 = .ok (.getfield 9, 3) := by decide +kernel
theorem dX5_tellsNumber_35 : decode cX5_tellsNumber 35 = .ok (.iload 4, 2) := by decide +kernel
theorem dX5_tellsNumber_37 : decode cX5_tellsNumber 37 = .ok (.iaload, 1) := by decide +kernel
theorem dX5_tellsNumber_38 : decode cX5_tellsNumber 38 = .ok (.invokestatic 96, 3) := by decide +kernel
theorem dX5_tellsNumber_41 : decode cX5_tellsNumber 41 = .ok (.ifCond .eq 31, 3) := by decide +kernel
theorem dX5_tellsNumber_44 : decode cX5_tellsNumber 44 = .ok (.aload_n 0, 1) := by decide +kernel
theorem dX5_tellsNumber_45 : decode cX5_tellsNumber 45 = .ok (.aload_n 0, 1) := by decide +kernel
theorem dX5_tellsNumber_46 : decode cX5_tellsNumber 46 = .ok (.getfield 43, 3) := by decide +kernel
theorem dX5_tellsNumber_49 : decode cX5_tellsNumber 49 = .ok (.bipush 10, 2) := by decide +kernel
theorem dX5_tellsNumber_51 : decode cX5_tellsNumber 51 = .ok (.imul, 1) := by decide +kernel
theorem dX5_tellsNumber_52 : decode cX5_tellsNumber 52 = .ok (.aload_n 0, 1) := by decide +kernel
theorem dX5_tellsNumber_53 : decode cX5_tellsNumber 53 = .ok (.getfield 9, 3) := by decide +kernel
theorem dX5_tellsNumber_56 : decode cX5_tellsNumber 56 = .ok (.iload 4, 2) := by decide +kernel
theorem dX5_tellsNumber_58 : decode cX5_tellsNumber 58 = .ok (.iaload, 1) := by decide +kernel
theorem dX5_tellsNumber_59 : decode cX5_tellsNumber 59 = .ok (.iadd, 1) := by decide +kernel
theorem dX5_tellsNumber_60 : decode cX5_tellsNumber 60 = .ok (.bipush 48, 2) := by decide +kernel
theorem dX5_tellsNumber_62 : decode cX5_tellsNumber 62 = .ok (.isub, 1) := by decide +kernel
theorem dX5_tellsNumber_63 : decode cX5_tellsNumber 63 = .ok (.putfield 43, 3) := by decide +kernel
theorem dX5_tellsNumber_66 : decode cX5_tellsNumber 66 = .ok (.iinc 4 1, 3) := by decide +kernel
theorem dX5_tellsNumber_69 : decode cX5_tellsNumber 69 = .ok (.goto (-58), 3) := by decide +kernel
theorem dX5_tellsNumber_72 : decode cX5_tellsNumber 72 = .ok (.iload 4, 2) := by decide +kernel
theorem dX5_tellsNumber_74 : decode cX5_tellsNumber 74 = .ok (.aload_n 0, 1) := by decide +kernel
theorem dX5_tellsNumber_75 : decode cX5_tellsNumber 75 = .ok (.getfield 19, 3) := by decide +kernel
theorem dX5_tellsNumber_78 : decode cX5_tellsNumber 78 = .ok (.if_icmp .eq 14, 3) := by decide +kernel
theorem dX5_tellsNumber_81 : decode cX5_tellsNumber 81 = .ok (.iload 4, 2) := by decide +kernel
theorem dX5_tellsNumber_83 : decode cX5_tellsNumber 83 = .ok (.aload_n 0, 1) := by decide +kernel
theorem dX5_tellsNumber_84 : decode cX5_tellsNumber 84 = .ok (.getfield 19, 3) := by decide +kernel
theorem dX5_tellsNumber_87 : decode cX5_tellsNumber 87 = .ok (.iconst 3, 1) := by decide +kernel
theorem dX5_tellsNumber_88 : decode cX5_tellsNumber 88 = .ok (.iadd, 1) := by decide +kernel
theorem dX5_tellsNumber_89 : decode cX5_tellsNumber 89 = .ok (.if_icmp .ne 9, 3) := by decide +kernel
theorem dX5_tellsNumber_92 : decode cX5_tellsNumber 92 = .ok (.aload_n 0, 1) := by decide +kernel
theorem dX5_tellsNumber_93 : decode cX5_tellsNumber 93 = .ok (.iconst 1, 1) := by decide +kernel
theorem dX5_tellsNumber_94 : decode cX5_tellsNumber 94 = .ok (.invokevirtual 32, 3) := by decide +kernel
theorem dX5_tellsNumber_97 : decode cX5_tellsNumber 97 = .ok (.ireturn, 1) := by decide +kernel
theorem dX5_tellsNumber_98 : decode cX5_tellsNumber 98 = .ok (.aload_n 0, 1) := by decide +kernel
theorem dX5_tellsNumber_99 : decode cX5_tellsNumber 99 = .ok (.getfield 43, 3) := by decide +kernel
theorem dX5_tellsNumber_102 : decode cX5_tellsNumber 102 = .ok (.iload_n 1, 1) := by decide +kernel
theorem dX5_tellsNumber_103 : decode cX5_tellsNumber 103 = .ok (.if_icmp .lt 19, 3) := by decide +kernel
theorem dX5_tellsNumber_106 : decode cX5_tellsNumber 106 = .ok (.aload_n 0, 1) := by decide +kernel
theorem dX5_tellsNumber_107 : decode cX5_tellsNumber 107 = .ok (.getfield 43, 3) := by decide +kernel
theorem dX5_tellsNumber_110 : decode cX5_tellsNumber 110 = .ok (.iload_n 2, 1) := by decide +kernel
theorem dX5_tellsNumber_111 : decode cX5_tellsNumber 111 = .ok (.if_icmp .gt 11, 3) := by decide +kernel
theorem dX5_tellsNumber_114 : decode cX5_tellsNumber 114 = .ok (.aload_n 0, 1) := by decide +kernel
theorem dX5_tellsNumber_115 : decode cX5_tellsNumber 115 = .ok (.getfield 43, 3) := by decide +kernel
theorem dX5_tellsNumber_118 : decode cX5_tellsNumber 118 = .ok (.iload_n 3, 1) := by decide +kernel
theorem dX5_tellsNumber_119 : decode cX5_tellsNumber 119 = .ok (.if_icmp .ne 9, 3) := by decide +kernel
theorem dX5_tellsNumber_122 : decode cX5_tellsNumber 122 = .ok (.aload_n 0, 1) := by decide +kernel
theorem dX5_tellsNumber_123 : decode cX5_tellsNumber 123 = .ok (.iconst 2, 1) := by decide +kernel
theorem dX5_tellsNumber_124 : decode cX5_tellsNumber 124 = .ok (.invokevirtual 32, 3) := by decide +kernel
theorem dX5_tellsNumber_127 : decode cX5_tellsNumber 127 = .ok (.ireturn, 1) := by decide +kernel
theorem dX5_tellsNumber_128 : decode cX5_tellsNumber 128 = .ok (.aload_n 0, 1) := by decide +kernel
theorem dX5_tellsNumber_129 : decode cX5_tellsNumber 129 = .ok (.iload 4, 2) := by decide +kernel
theorem dX5_tellsNumber_131 : decode cX5_tellsNumber 131 = .ok (.putfield 19, 3) := by decide +kernel
theorem dX5_tellsNumber_134 : decode cX5_tellsNumber 134 = .ok (.iconst 1, 1) := by decide +kernel
theorem dX5_tellsNumber_135 : decode cX5_tellsNumber 135 = .ok (.ireturn, 1) := by decide +kernel
theorem dX5_letter_0 : decode cX5_letter 0 = .ok (.aload_n 0, 1) := by decide +kernel
theorem dX5_letter_1 : decode cX5_letter 1 = .ok (.getfield 19, 3) := by decide +kernel
theorem dX5_letter_4 : decode cX5_letter 4 = .ok (.aload_n 0, 1) := by decide +kernel
theorem dX5_letter_5 : decode cX5_letter 5 = .ok (.getfield 15, 3) := by decide +kernel
theorem dX5_letter_8 : decode cX5_letter 8 = .ok (.if_icmp .ge 15, 3) := by decide +kernel
theorem dX5_letter_11 : decode cX5_letter 11 = .ok (.aload_n 0, 1) := by decide +kernel
theorem dX5_letter_12 : decode cX5_letter 12 = .ok (.getfield 9, 3) := by decide +kernel
theorem dX5_letter_15 : decode cX5_letter 15 = .ok (.aload_n 0, 1) := by decide +kernel
theorem dX5_letter_16 : decode cX5_letter 16 = .ok (.getfield 19, 3) := by decide +kernel
theorem dX5_letter_19 : decode cX5_letter 19 = .ok (.iaload, 1) := by decide +kernel
theorem dX5_letter_20 : decode cX5_letter 20 = .ok (.goto 4, 3) := by decide +kernel
theorem dX5_letter_23 : decode cX5_letter 23 = .ok (.iconst (-1), 1) := by decide +kernel
theorem dX5_letter_24 : decode cX5_letter 24 = .ok (.ireturn, 1) := by decide +kernel
theorem dX5_isFaulty_0 : decode cX5_isFaulty 0 = .ok (.aload_n 0, 1) := by decide +kernel
theorem dX5_isFaulty_1 : decode cX5_isFaulty 1 = .ok (.iload_n 1, 1) := by decide +kernel
theorem dX5_isFaulty_2 : decode cX5_isFaulty 2 = .ok (.putfield 99, 3) := by decide +kernel
theorem dX5_isFaulty_5 : decode cX5_isFaulty 5 = .ok (.iconst 0, 1) := by decide +kernel
theorem dX5_isFaulty_6 : decode cX5_isFaulty 6 = .ok (.ireturn, 1) := by decide +kernel
theorem dX5_isFigure_0 : decode cX5_isFigure 0 = .ok (.iload_n 0, 1) := by decide +kernel
theorem dX5_isFigure_1 : decode cX5_isFigure 1 = .ok (.bipush 48, 2) := by decide +kernel
theorem dX5_isFigure_3 : decode cX5_isFigure 3 = .ok (.if_icmp .lt 13, 3) := by decide +kernel
theorem dX5_isFigure_6 : decode cX5_isFigure 6 = .ok (.iload_n 0, 1) := by decide +kernel
theorem dX5_isFigure_7 : decode cX5_isFigure 7 = .ok (.bipush 57, 2) := by decide +kernel
theorem dX5_isFigure_9 : decode cX5_isFigure 9 = .ok (.if_icmp .gt 7, 3) := by decide +kernel
theorem dX5_isFigure_12 : decode cX5_isFigure 12 = .ok (.iconst 1, 1) := by decide +kernel
theorem dX5_isFigure_13 : decode cX5_isFigure 13 = .ok (.goto 4, 3) := by decide +kernel
theorem dX5_isFigure_16 : decode cX5_isFigure 16 = .ok (.iconst 0, 1) := by decide +kernel
theorem dX5_isFigure_17 : decode cX5_isFigure 17 = .ok (.ireturn, 1) := by decide +kernel
theorem dX5_sortOf_0 : decode cX5_sortOf 0 = .ok (.iload_n 0, 1) := by decide +kernel
theorem dX5_sortOf_1 : decode cX5_sortOf 1 = .ok (.lookupswitch 61 #[(100, 59), (103, 53), (109, 57), (115, 51), (119, 55)], 51) := by decide +kernel
theorem dX5_sortOf_52 : decode cX5_sortOf 52 = .ok (.iconst 1, 1) := by decide +kernel
theorem dX5_sortOf_53 : decode cX5_sortOf 53 = .ok (.ireturn, 1) := by decide +kernel
theorem dX5_sortOf_54 : decode cX5_sortOf 54 = .ok (.iconst 2, 1) := by decide +kernel
theorem dX5_sortOf_55 : decode cX5_sortOf 55 = .ok (.ireturn, 1) := by decide +kernel
theorem dX5_sortOf_56 : decode cX5_sortOf 56 = .ok (.iconst 3, 1) := by decide +kernel
theorem dX5_sortOf_57 : decode cX5_sortOf 57 = .ok (.ireturn, 1) := by decide +kernel
theorem dX5_sortOf_58 : decode cX5_sortOf 58 = .ok (.iconst 4, 1) := by decide +kernel
theorem dX5_sortOf_59 : decode cX5_sortOf 59 = .ok (.ireturn, 1) := by decide +kernel
theorem dX5_sortOf_60 : decode cX5_sortOf 60 = .ok (.iconst 5, 1) := by decide +kernel
theorem dX5_sortOf_61 : decode cX5_sortOf 61 = .ok (.ireturn, 1) := by decide +kernel
theorem dX5_sortOf_62 : decode cX5_sortOf 62 = .ok (.iconst 0, 1) := by decide +kernel
theorem dX5_sortOf_63 : decode cX5_sortOf 63 = .ok (.ireturn, 1) := by decide +kernel
theorem dX6_init_0 : decode cX6_init 0 = .ok (.aload_n 0, 1) := by decide +kernel
theorem dX6_init_1 : decode cX6_init 1 = .ok (.invokespecial 1, 3) := by decide +kernel
theorem dX6_init_4 : decode cX6_init 4 = .ok (.aload_n 0, 1) := by decide +kernel
theorem dX6_init_5 : decode cX6_init 5 = .ok (.new 7, 3) := by decide +kernel
theorem dX6_init_8 : decode cX6_init 8 = .ok (.dup, 1) := by decide +kernel
theorem dX6_init_9 : decode cX6_init 9 = .ok (.invokespecial 9, 3) := by decide +kernel
theorem dX6_init_12 : decode cX6_init 12 = .ok (.putfield 10, 3) := by decide +kernel
theorem dX6_init_15 : decode cX6_init 15 = .ok (.aload_n 0, 1) := by decide +kernel
theorem dX6_init_16 : decode cX6_init 16 = .ok (.new 16, 3) := by decide +kernel
theorem dX6_init_19 : decode cX6_init 19 = .ok (.dup, 1) := by decide +kernel
theorem dX6_init_20 : decode cX6_init 20 = .ok (.invokespecial 18, 3) := by decide +kernel
theorem dX6_init_23 : decode cX6_init 23 = .ok (.putfield 19, 3) := by decide +kernel
theorem dX6_init_26 : decode cX6_init 26 = .ok (.aload_n 0, 1) := by decide +kernel
theorem dX6_init_27 : decode cX6_init 27 = .ok (.new 23, 3) := by decide +kernel
theorem dX6_init_30 : decode cX6_init 30 = .ok (.dup, 1) := by decide +kernel
theorem dX6_init_31 : decode cX6_init 31 = .ok (.invokespecial 25, 3) := by decide +kernel
theorem dX6_init_34 : decode cX6_init 34 = .ok (.putfield 26, 3) := by decide +kernel
theorem dX6_init_37 : decode cX6_init 37 = .ok (.aload_n 0, 1) := by decide +kernel
theorem dX6_init_38 : decode cX6_init 38 = .ok (.new 23, 3) := by decide +kernel
theorem dX6_init_41 : decode cX6_init 41 = .ok (.dup, 1) := by decide +kernel
theorem dX6_init_42 : decode cX6_init 42 = .ok (.invokespecial 25, 3) := by decide +kernel
theorem dX6_init_45 : decode cX6_init 45 = .ok (.putfield 30, 3) := by decide +kernel
theorem dX6_init_48 : decode cX6_init 48 = .ok (.aload_n 0, 1) := by decide +kernel
theorem dX6_init_49 : decode cX6_init 49 = .ok (.new 23, 3) := by decide +kernel
theorem dX6_init_52 : decode cX6_init 52 = .ok (.dup, 1) := by decide +kernel
theorem dX6_init_53 : decode cX6_init 53 = .ok (.invokespecial 25, 3) := by decide +kernel
theorem dX6_init_56 : decode cX6_init 56 = .ok (.putfield 33, 3) := by decide +kernel
theorem dX6_init_59 : decode cX6_init 59 = .ok (.aload_n 0, 1) := by decide +kernel
theorem dX6_init_60 : decode cX6_init 60 = .ok (.new 23, 3) := by decide +kernel
theorem dX6_init_63 : decode cX6_init 63 = .ok (.dup, 1) := by decide +kernel
theorem dX6_init_64 : decode cX6_init 64 = .ok (.invokespecial 25, 3) := by decide +kernel
theorem dX6_init_67 : decode cX6_init 67 = .ok (.putfield 36, 3) := by decide +kernel
theorem dX6_init_70 : decode cX6_init 70 = .ok (.aload_n 0, 1) := by decide +kernel
theorem dX6_init_71 : decode cX6_init 71 = .ok (.new 39, 3) := by decide +kernel
theorem dX6_init_74 : decode cX6_init 74 = .ok (.dup, 1) := by decide +kernel
theorem dX6_init_75 : decode cX6_init 75 = .ok (.invokespecial 41, 3) := by decide +kernel
theorem dX6_init_78 : decode cX6_init 78 = .ok (.putfield 42, 3) := by decide +kernel
theorem dX6_init_81 : decode cX6_init 81 = .ok (.aload_n 0, 1) := by decide +kernel
theorem dX6_init_82 : decode cX6_init 82 = .ok (.new 46, 3) := by decide +kernel
theorem dX6_init_85 : decode cX6_init 85 = .ok (.dup, 1) := by decide +kernel
theorem dX6_init_86 : decode cX6_init 86 = .ok (.invokespecial 48, 3) := by decide +kernel
theorem dX6_init_89 : decode cX6_init 89 = .ok (.putfield 49, 3) := by decide +kernel
theorem dX6_init_92 : decode cX6_init 92 = .ok (.aload_n 0, 1) := by decide +kernel
theorem dX6_init_93 : decode cX6_init 93 = .ok (.new 53, 3) := by decide +kernel
theorem dX6_init_96 : decode cX6_init 96 = .ok (.dup, 1) := by decide +kernel
theorem dX6_init_97 : decode cX6_init 97 = .ok (.invokespecial 55, 3) := by decide +kernel
theorem dX6_init_100 : decode cX6_init 100 = .ok (.putfield 56, 3) := by decide +kernel
theorem dX6_init_103 : decode cX6_init 103 = .ok (.return_, 1) := by decide +kernel
theorem dX6_row_0 : decode cX6_row 0 = .ok (.iload_n 1, 1) := by decide +kernel
theorem dX6_row_1 : decode cX6_row 1 = .ok (.bipush 8, 2) := by decide +kernel
theorem dX6_row_3 : decode cX6_row 3 = .ok (.invokestatic 60, 3) := by decide +kernel
theorem dX6_row_6 : decode cX6_row 6 = .ok (.ifCond .eq 17, 3) := by decide +kernel
theorem dX6_row_9 : decode cX6_row 9 = .ok (.iload_n 2, 1) := by decide +kernel
theorem dX6_row_10 : decode cX6_row 10 = .ok (.iconst 3, 1) := by decide +kernel
theorem dX6_row_11 : decode cX6_row 11 = .ok (.invokestatic 60, 3) := by decide +kernel
theorem dX6_row_14 : decode cX6_row 14 = .ok (.ifCond .eq 9, 3) := by decide +kernel
theorem dX6_row_17 : decode cX6_row 17 = .ok (.iload_n 3, 1) := by decide +kernel
theorem dX6_row_18 : decode cX6_row 18 = .ok (.bipush 40, 2) := by decide +kernel
theorem dX6_row_20 : decode cX6_row 20 = .ok (.if_icmp .le 6, 3) := by decide +kernel
theorem dX6_row_23 : decode cX6_row 23 = .ok (.ldc 64, 2) := by decide +kernel
theorem dX6_row_25 : decode cX6_row 25 = .ok (.ireturn, 1) := by decide +kernel
theorem dX6_row_26 : decode cX6_row 26 = .ok (.iload_n 3, 1) := by decide +kernel
theorem dX6_row_27 : decode cX6_row 27 = .ok (.ifCond .ge 9, 3) := by decide +kernel
theorem dX6_row_30 : decode cX6_row 30 = .ok (.aload_n 0, 1) := by decide +kernel
theorem dX6_row_31 : decode cX6_row 31 = .ok (.iconst 4, 1) := by decide +kernel
theorem dX6_row_32 : decode cX6_row 32 = .ok (.invokevirtual 65, 3) := by decide +kernel
theorem dX6_row_35 : decode cX6_row 35 = .ok (.ireturn, 1) := by decide +kernel
theorem dX6_row_36 : decode cX6_row 36 = .ok (.aload_n 0, 1) := by decide +kernel
theorem dX6_row_37 : decode cX6_row 37 = .ok (.getfield 10, 3) := by decide +kernel
theorem dX6_row_40 : decode cX6_row 40 = .ok (.iload_n 1, 1) := by decide +kernel
theorem dX6_row_41 : decode cX6_row 41 = .ok (.iload_n 2, 1) := by decide +kernel
theorem dX6_row_42 : decode cX6_row 42 = .ok (.iload_n 3, 1) := by decide +kernel
theorem dX6_row_43 : decode cX6_row 43 = .ok (.invokevirtual 69, 3) := by decide +kernel
theorem dX6_row_46 : decode cX6_row 46 = .ok (.aload_n 0, 1) := by decide +kernel
theorem dX6_row_47 : decode cX6_row 47 = .ok (.iload_n 3, 1) := by decide +kernel
theorem dX6_row_48 : decode cX6_row 48 = .ok (.invokevirtual 73, 3) := by decide +kernel
theorem dX6_row_51 : decode cX6_row 51 = .ok (.ireturn, 1) := by decide +kernel
theorem dX6_set_0 : decode cX6_set 0 = .ok (.iload_n 1, 1) := by decide +kernel
theorem dX6_set_1 : decode cX6_set 1 = .ok (.bipush 8, 2) := by decide +kernel
theorem dX6_set_3 : decode cX6_set 3 = .ok (.invokestatic 60, 3) := by decide +kernel
theorem dX6_set_6 : decode cX6_set 6 = .ok (.ifCond .ne 6, 3) := by decide +kernel
theorem dX6_set_9 : decode cX6_set 9 = .ok (.ldc 64, 2) := by decide +kernel
theorem dX6_set_11 : decode cX6_set 11 = .ok (.ireturn, 1) := by decide +kernel
theorem dX6_set_12 : decode cX6_set 12 = .ok (.aload_n 0, 1) := by decide +kernel
theorem dX6_set_13 : decode cX6_set 13 = .ok (.getfield 10, 3) := by decide +kernel
theorem dX6_set_16 : decode cX6_set 16 = .ok (.iload_n 1, 1) := by decide +kernel
theorem dX6_set_17 : decode cX6_set 17 = .ok (.invokevirtual 76, 3) := by decide +kernel
theorem dX6_set_20 : decode cX6_set 20 = .ok (.ifCond .eq 9, 3) := by decide +kernel
theorem dX6_set_23 : decode cX6_set 23 = .ok (.aload_n 0, 1) := by decide +kernel
theorem dX6_set_24 : decode cX6_set 24 = .ok (.iconst 1, 1) := by decide +kernel
theorem dX6_set_25 : decode cX6_set 25 = .ok (.invokevirtual 65, 3) := by decide +kernel
theorem dX6_set_28 : decode cX6_set 28 = .ok (.ireturn, 1) := by decide +kernel
theorem dX6_set_29 : decode cX6_set 29 = .ok (.aload_n 0, 1) := by decide +kernel
theorem dX6_set_30 : decode cX6_set 30 = .ok (.getfield 10, 3) := by decide +kernel
theorem dX6_set_33 : decode cX6_set 33 = .ok (.iload_n 1, 1) := by decide +kernel
theorem dX6_set_34 : decode cX6_set 34 = .ok (.iload_n 2, 1) := by decide +kernel
theorem dX6_set_35 : decode cX6_set 35 = .ok (.iconst 1, 1) := by decide +kernel
theorem dX6_set_36 : decode cX6_set 36 = .ok (.invokevirtual 80, 3) := by decide +kernel
theorem dX6_set_39 : decode cX6_set 39 = .ok (.ifCond .ne 9, 3) := by decide +kernel
theorem dX6_set_42 : decode cX6_set 42 = .ok (.aload_n 0, 1) := by decide +kernel
theorem dX6_set_43 : decode cX6_set 43 = .ok (.iconst 2, 1) := by decide +kernel
theorem dX6_set_44 : decode cX6_set 44 = .ok (.invokevirtual 65, 3) := by decide +kernel
theorem dX6_set_47 : decode cX6_set 47 = .ok (.ireturn, 1) := by decide +kernel
theorem dX6_set_48 : decode cX6_set 48 = .ok (.aload_n 0, 1) := by decide +kernel
theorem dX6_set_49 : decode cX6_set 49 = .ok (.aload_n 0, 1) := by decide +kernel
theorem dX6_set_50 : decode cX6_set 50 = .ok (.getfield 10, 3) := by decide +kernel
theorem dX6_set_53 : decode cX6_set 53 = .ok (.iload_n 1, 1) := by decide +kernel
theorem dX6_set_54 : decode cX6_set 54 = .ok (.iload_n 2, 1) := by decide +kernel
theorem dX6_set_55 : decode cX6_set 55 = .ok (.iload_n 3, 1) := by decide +kernel
theorem dX6_set_56 : decode cX6_set 56 = .ok (.invokevirtual 84, 3) := by decide +kernel
theorem dX6_set_59 : decode cX6_set 59 = .ok (.invokevirtual 73, 3) := by decide +kernel
theorem dX6_set_62 : decode cX6_set 62 = .ok (.ireturn, 1) := by decide +kernel
theorem dX6_copy_0 : decode cX6_copy 0 = .ok (.iload_n 1, 1) := by decide +kernel
theorem dX6_copy_1 : decode cX6_copy 1 = .ok (.bipush 8, 2) := by decide +kernel
theorem dX6_copy_3 : decode cX6_copy 3 = .ok (.invokestatic 60, 3) := by decide +kernel
theorem dX6_copy_6 : decode cX6_copy 6 = .ok (.ifCond .eq 12, 3) := by decide +kernel
theorem dX6_copy_9 : decode cX6_copy 9 = .ok (.iload_n 3, 1) := by decide +kernel
theorem dX6_copy_10 : decode cX6_copy 10 = .ok (.bipush 8, 2) := by decide +kernel
theorem dX6_copy_12 : decode cX6_copy 12 = .ok (.invokestatic 60, 3) := by decide +kernel
theorem dX6_copy_15 : decode cX6_copy 15 = .ok (.ifCond .ne 6, 3) := by decide +kernel
theorem dX6_copy_18 : decode cX6_copy 18 = .ok (.ldc 64, 2) := by decide +kernel
theorem dX6_copy_20 : decode cX6_copy 20 = .ok (.ireturn, 1) := by decide +kernel
theorem dX6_copy_21 : decode cX6_copy 21 = .ok (.aload_n 0, 1) := by decide +kernel
theorem dX6_copy_22 : decode cX6_copy 22 = .ok (.getfield 10, 3) := by decide +kernel
theorem dX6_copy_25 : decode cX6_copy 25 = .ok (.iload_n 1, 1) := by decide +kernel
theorem dX6_copy_26 : decode cX6_copy 26 = .ok (.invokevirtual 76, 3) := by decide +kernel
theorem dX6_copy_29 : decode cX6_copy 29 = .ok (.ifCond .ne 14, 3) := by decide +kernel
theorem dX6_copy_32 : decode cX6_copy 32 = .ok (.aload_n 0, 1) := by decide +kernel
theorem dX6_copy_33 : decode cX6_copy 33 = .ok (.getfield 10, 3) := by decide +kernel
theorem dX6_copy_36 : decode cX6_copy 36 = .ok (.iload_n 3, 1) := by decide +kernel
theorem dX6_copy_37 : decode cX6_copy 37 = .ok (.invokevirtual 76, 3) := by decide +kernel
theorem dX6_copy_40 : decode cX6_copy 40 = .ok (.ifCond .eq 9, 3) := by decide +kernel
theorem dX6_copy_43 : decode cX6_copy 43 = .ok (.aload_n 0, 1) := by decide +kernel
theorem dX6_copy_44 : decode cX6_copy 44 = .ok (.iconst 1, 1) := by decide +kernel
theorem dX6_copy_45 : decode cX6_copy 45 = .ok (.invokevirtual 65, 3) := by decide +kernel
theorem dX6_copy_48 : decode cX6_copy 48 = .ok (.ireturn, 1) := by decide +kernel
theorem dX6_copy_49 : decode cX6_copy 49 = .ok (.aload_n 0, 1) := by decide +kernel
theorem dX6_copy_50 : decode cX6_copy 50 = .ok (.getfield 10, 3) := by decide +kernel
theorem dX6_copy_53 : decode cX6_copy 53 = .ok (.iload_n 1, 1) := by decide +kernel
theorem dX6_copy_54 : decode cX6_copy 54 = .ok (.invokevirtual 88, 3) := by decide +kernel
theorem dX6_copy_57 : decode cX6_copy 57 = .ok (.aload_n 0, 1) := by decide +kernel
theorem dX6_copy_58 : decode cX6_copy 58 = .ok (.getfield 10, 3) := by decide +kernel
theorem dX6_copy_61 : decode cX6_copy 61 = .ok (.iload_n 3, 1) := by decide +kernel
theorem dX6_copy_62 : decode cX6_copy 62 = .ok (.invokevirtual 88, 3) := by decide +kernel
theorem dX6_copy_65 : decode cX6_copy 65 = .ok (.if_icmp .eq 9, 3) := by decide +kernel
theorem dX6_copy_68 : decode cX6_copy 68 = .ok (.aload_n 0, 1) := by decide +kernel
theorem dX6_copy_69 : decode cX6_copy 69 = .ok (.iconst 5, 1) := by decide +kernel
theorem dX6_copy_70 : decode cX6_copy 70 = .ok (.invokevirtual 65, 3) := by decide +kernel
theorem dX6_copy_73 : decode cX6_copy 73 = .ok (.ireturn, 1) := by decide +kernel
theorem dX6_copy_74 : decode cX6_copy 74 = .ok (.aload_n 0, 1) := by decide +kernel
theorem dX6_copy_75 : decode cX6_copy 75 = .ok (.getfield 10, 3) := by decide +kernel
theorem dX6_copy_78 : decode cX6_copy 78 = .ok (.iload_n 1, 1) := by decide +kernel
theorem dX6_copy_79 : decode cX6_copy 79 = .ok (.iload_n 2, 1) := by decide +kernel
theorem dX6_copy_80 : decode cX6_copy 80 = .ok (.iload 5, 2) := by decide +kernel
theorem dX6_copy_82 : decode cX6_copy 82 = .ok (.invokevirtual 80, 3) := by decide +kernel
theorem dX6_copy_85 : decode cX6_copy 85 = .ok (.ifCond .eq 18, 3) := by decide +kernel
theorem dX6_copy_88 : decode cX6_copy 88 = .ok (.aload_n 0, 1) := by decide +kernel
theorem dX6_copy_89 : decode cX6_copy 89 = .ok (.getfield 10, 3) := by decide +kernel
theorem dX6_copy_92 : decode cX6_copy 92 = .ok (.iload_n 3, 1) := by decide +kernel
theorem dX6_copy_93 : decode cX6_copy 93 = .ok (.iload 4, 2) := by decide +kernel
theorem dX6_copy_95 : decode cX6_copy 95 = .ok (.iload 5, 2) := by decide +kernel
theorem dX6_copy_97 : decode cX6_copy 97 = .ok (.invokevirtual 80, 3) := by decide +kernel
theorem dX6_copy_100 : decode cX6_copy 100 = .ok (.ifCond .ne 9, 3) := by decide +kernel
theorem dX6_copy_103 : decode cX6_copy 103 = .ok (.aload_n 0, 1) := by decide +kernel
theorem dX6_copy_104 : decode cX6_copy 104 = .ok (.iconst 2, 1) := by decide +kernel
theorem dX6_copy_105 : decode cX6_copy 105 = .ok (.invokevirtual 65, 3) := by decide +kernel
theorem dX6_copy_108 : decode cX6_copy 108 = .ok (.ireturn, 1) := by decide +kernel
theorem dX6_copy_109 : decode cX6_copy 109 = .ok (.aload_n 0, 1) := by decide +kernel
theorem dX6_copy_110 : decode cX6_copy 110 = .ok (.getfield 10, 3) := by decide +kernel
theorem dX6_copy_113 : decode cX6_copy 113 = .ok (.iload_n 1, 1) := by decide +kernel
theorem dX6_copy_114 : decode cX6_copy 114 = .ok (.iload_n 2, 1) := by decide +kernel
theorem dX6_copy_115 : decode cX6_copy 115 = .ok (.iload_n 3, 1) := by decide +kernel
theorem dX6_copy_116 : decode cX6_copy 116 = .ok (.iload 4, 2) := by decide +kernel
theorem dX6_copy_118 : decode cX6_copy 118 = .ok (.iload 5, 2) := by decide +kernel
theorem dX6_copy_120 : decode cX6_copy 120 = .ok (.invokevirtual 91, 3) := by decide +kernel
theorem dX6_copy_123 : decode cX6_copy 123 = .ok (.aload_n 0, 1) := by decide +kernel
theorem dX6_copy_124 : decode cX6_copy 124 = .ok (.iload 5, 2) := by decide +kernel
theorem dX6_copy_126 : decode cX6_copy 126 = .ok (.invokevirtual 73, 3) := by decide +kernel
theorem dX6_copy_129 : decode cX6_copy 129 = .ok (.ireturn, 1) := by decide +kernel
theorem dX6_drop_0 : decode cX6_drop 0 = .ok (.iload_n 1, 1) := by decide +kernel
theorem dX6_drop_1 : decode cX6_drop 1 = .ok (.bipush 8, 2) := by decide +kernel
theorem dX6_drop_3 : decode cX6_drop 3 = .ok (.invokestatic 60, 3) := by decide +kernel
theorem dX6_drop_6 : decode cX6_drop 6 = .ok (.ifCond .ne 6, 3) := by decide +kernel
theorem dX6_drop_9 : decode cX6_drop 9 = .ok (.ldc 64, 2) := by decide +kernel
theorem dX6_drop_11 : decode cX6_drop 11 = .ok (.ireturn, 1) := by decide +kernel
theorem dX6_drop_12 : decode cX6_drop 12 = .ok (.aload_n 0, 1) := by decide +kernel
theorem dX6_drop_13 : decode cX6_drop 13 = .ok (.getfield 10, 3) := by decide +kernel
theorem dX6_drop_16 : decode cX6_drop 16 = .ok (.iload_n 1, 1) := by decide +kernel
theorem dX6_drop_17 : decode cX6_drop 17 = .ok (.invokevirtual 76, 3) := by decide +kernel
theorem dX6_drop_20 : decode cX6_drop 20 = .ok (.ifCond .eq 9, 3) := by decide +kernel
theorem dX6_drop_23 : decode cX6_drop 23 = .ok (.aload_n 0, 1) := by decide +kernel
theorem dX6_drop_24 : decode cX6_drop 24 = .ok (.iconst 1, 1) := by decide +kernel
theorem dX6_drop_25 : decode cX6_drop 25 = .ok (.invokevirtual 65, 3) := by decide +kernel
theorem dX6_drop_28 : decode cX6_drop 28 = .ok (.ireturn, 1) := by decide +kernel
theorem dX6_drop_29 : decode cX6_drop 29 = .ok (.aload_n 0, 1) := by decide +kernel
theorem dX6_drop_30 : decode cX6_drop 30 = .ok (.aload_n 0, 1) := by decide +kernel
theorem dX6_drop_31 : decode cX6_drop 31 = .ok (.getfield 10, 3) := by decide +kernel
theorem dX6_drop_34 : decode cX6_drop 34 = .ok (.iload_n 1, 1) := by decide +kernel
theorem dX6_drop_35 : decode cX6_drop 35 = .ok (.invokevirtual 95, 3) := by decide +kernel
theorem dX6_drop_38 : decode cX6_drop 38 = .ok (.invokevirtual 73, 3) := by decide +kernel
theorem dX6_drop_41 : decode cX6_drop 41 = .ok (.ireturn, 1) := by decide +kernel
theorem dX6_feed_0 : decode cX6_feed 0 = .ok (.iload_n 1, 1) := by decide +kernel
theorem dX6_feed_1 : decode cX6_feed 1 = .ok (.sipush 256, 3) := by decide +kernel
theorem dX6_feed_4 : decode cX6_feed 4 = .ok (.invokestatic 60, 3) := by decide +kernel
theorem dX6_feed_7 : decode cX6_feed 7 = .ok (.ifCond .ne 6, 3) := by decide +kernel
theorem dX6_feed_10 : decode cX6_feed 10 = .ok (.ldc 64, 2) := by decide +kernel
theorem dX6_feed_12 : decode cX6_feed 12 = .ok (.ireturn, 1) := by decide +kernel
theorem dX6_feed_13 : decode cX6_feed 13 = .ok (.aload_n 0, 1) := by decide +kernel
theorem dX6_feed_14 : decode cX6_feed 14 = .ok (.getfield 19, 3) := by decide +kernel
theorem dX6_feed_17 : decode cX6_feed 17 = .ok (.getfield 98, 3) := by decide +kernel
theorem dX6_feed_20 : decode cX6_feed 20 = .ok (.bipush 120, 2) := by decide +kernel
theorem dX6_feed_22 : decode cX6_feed 22 = .ok (.if_icmp .lt 6, 3) := by decide +kernel
theorem dX6_feed_25 : decode cX6_feed 25 = .ok (.ldc 102, 2) := by decide +kernel
theorem dX6_feed_27 : decode cX6_feed 27 = .ok (.ireturn, 1) := by decide +kernel
theorem dX6_feed_28 : decode cX6_feed 28 = .ok (.aload_n 0, 1) := by decide +kernel
theorem dX6_feed_29 : decode cX6_feed 29 = .ok (.getfield 19, 3) := by decide +kernel
theorem dX6_feed_32 : decode cX6_feed 32 = .ok (.iload_n 1, 1) := by decide +kernel
theorem dX6_feed_33 : decode cX6_feed 33 = .ok (.invokevirtual 103, 3) := by decide +kernel
theorem dX6_feed_36 : decode cX6_feed 36 = .ok (.ireturn, 1) := by decide +kernel
theorem dX6_castle_0 : decode cX6_castle 0 = .ok (.aload_n 0, 1) := by decide +kernel
theorem dX6_castle_1 : decode cX6_castle 1 = .ok (.getfield 19, 3) := by decide +kernel
theorem dX6_castle_4 : decode cX6_castle 4 = .ok (.aload_n 0, 1) := by decide +kernel
theorem dX6_castle_5 : decode cX6_castle 5 = .ok (.getfield 30, 3) := by decide +kernel
theorem dX6_castle_8 : decode cX6_castle 8 = .ok (.invokevirtual 106, 3) := by decide +kernel
theorem dX6_castle_11 : decode cX6_castle 11 = .ok (.istore_n 1, 1) := by decide +kernel
theorem dX6_castle_12 : decode cX6_castle 12 = .ok (.aload_n 0, 1) := by decide +kernel
theorem dX6_castle_13 : decode cX6_castle 13 = .ok (.getfield 19, 3) := by decide +kernel
theorem dX6_castle_16 : decode cX6_castle 16 = .ok (.iconst 0, 1) := by decide +kernel
theorem dX6_castle_17 : decode cX6_castle 17 = .ok (.putfield 98, 3) := by decide +kernel
theorem dX6_castle_20 : decode cX6_castle 20 = .ok (.iload_n 1, 1) := by decide +kernel
theorem dX6_castle_21 : decode cX6_castle 21 = .ok (.ifCond .ne 25, 3) := by decide +kernel
theorem dX6_castle_24 : decode cX6_castle 24 = .ok (.aload_n 0, 1) := by decide +kernel
theorem dX6_castle_25 : decode cX6_castle 25 = .ok (.aload_n 0, 1) := by decide +kernel
theorem dX6_castle_26 : decode cX6_castle 26 = .ok (.getfield 19, 3) := by decide +kernel
theorem dX6_castle_29 : decode cX6_castle 29 = .ok (.getfield 110, 3) := by decide +kernel
theorem dX6_castle_32 : decode cX6_castle 32 = .ok (.putfield 113, 3) := by decide +kernel
theorem dX6_castle_35 : decode cX6_castle 35 = .ok (.ldc 116, 2) := by decide +kernel
theorem dX6_castle_37 : decode cX6_castle 37 = .ok (.aload_n 0, 1) := by decide +kernel
theorem dX6_castle_38 : decode cX6_castle 38 = .ok (.getfield 19, 3) := by decide +kernel
theorem dX6_castle_41 : decode cX6_castle 41 = .ok (.getfield 117, 3) := by decide +kernel
theorem dX6_castle_44 : decode cX6_castle 44 = .ok (.isub, 1) := by decide +kernel
theorem dX6_castle_45 : decode cX6_castle 45 = .ok (.ireturn, 1) := by decide +kernel
theorem dX6_castle_46 : decode cX6_castle 46 = .ok (.aload_n 0, 1) := by decide +kernel
theorem dX6_castle_47 : decode cX6_castle 47 = .ok (.getfield 30, 3) := by decide +kernel
theorem dX6_castle_50 : decode cX6_castle 50 = .ok (.iconst 1, 1) := by decide +kernel
theorem dX6_castle_51 : decode cX6_castle 51 = .ok (.putfield 120, 3) := by decide +kernel
theorem dX6_castle_54 : decode cX6_castle 54 = .ok (.aload_n 0, 1) := by decide +kernel
theorem dX6_castle_55 : decode cX6_castle 55 = .ok (.getfield 26, 3) := by decide +kernel
theorem dX6_castle_58 : decode cX6_castle 58 = .ok (.aload_n 0, 1) := by decide +kernel
theorem dX6_castle_59 : decode cX6_castle 59 = .ok (.getfield 30, 3) := by decide +kernel
theorem dX6_castle_62 : decode cX6_castle 62 = .ok (.invokevirtual 124, 3) := by decide +kernel
theorem dX6_castle_65 : decode cX6_castle 65 = .ok (.aload_n 0, 1) := by decide +kernel
theorem dX6_castle_66 : decode cX6_castle 66 = .ok (.getfield 42, 3) := by decide +kernel
theorem dX6_castle_69 : decode cX6_castle 69 = .ok (.invokevirtual 128, 3) := by decide +kernel
theorem dX6_castle_72 : decode cX6_castle 72 = .ok (.aload_n 0, 1) := by decide +kernel
theorem dX6_castle_73 : decode cX6_castle 73 = .ok (.getfield 26, 3) := by decide +kernel
theorem dX6_castle_76 : decode cX6_castle 76 = .ok (.getfield 131, 3) := by decide +kernel
theorem dX6_castle_79 : decode cX6_castle 79 = .ok (.ireturn, 1) := by decide +kernel
theorem dX6_fault_0 : decode cX6_fault 0 = .ok (.aload_n 0, 1) := by decide +kernel
theorem dX6_fault_1 : decode cX6_fault 1 = .ok (.getfield 113, 3) := by decide +kernel
theorem dX6_fault_4 : decode cX6_fault 4 = .ok (.ireturn, 1) := by decide +kernel
theorem dX6_invite_0 : decode cX6_invite 0 = .ok (.aload_n 0, 1) := by decide +kernel
theorem dX6_invite_1 : decode cX6_invite 1 = .ok (.getfield 26, 3) := by decide +kernel
theorem dX6_invite_4 : decode cX6_invite 4 = .ok (.iload_n 1, 1) := by decide +kernel
theorem dX6_invite_5 : decode cX6_invite 5 = .ok (.invokevirtual 134, 3) := by decide +kernel
theorem dX6_invite_8 : decode cX6_invite 8 = .ok (.ifCond .ne 6, 3) := by decide +kernel
theorem dX6_invite_11 : decode cX6_invite 11 = .ok (.ldc 64, 2) := by decide +kernel
theorem dX6_invite_13 : decode cX6_invite 13 = .ok (.ireturn, 1) := by decide +kernel
theorem dX6_invite_14 : decode cX6_invite 14 = .ok (.aload_n 0, 1) := by decide +kernel
theorem dX6_invite_15 : decode cX6_invite 15 = .ok (.getfield 26, 3) := by decide +kernel
theorem dX6_invite_18 : decode cX6_invite 18 = .ok (.getfield 137, 3) := by decide +kernel
theorem dX6_invite_21 : decode cX6_invite 21 = .ok (.iconst (-1), 1) := by decide +kernel
theorem dX6_invite_22 : decode cX6_invite 22 = .ok (.if_icmp .ne 25, 3) := by decide +kernel
theorem dX6_invite_25 : decode cX6_invite 25 = .ok (.aload_n 0, 1) := by decide +kernel
theorem dX6_invite_26 : decode cX6_invite 26 = .ok (.getfield 26, 3) := by decide +kernel
theorem dX6_invite_29 : decode cX6_invite 29 = .ok (.iload_n 1, 1) := by decide +kernel
theorem dX6_invite_30 : decode cX6_invite 30 = .ok (.invokevirtual 140, 3) := by decide +kernel
theorem dX6_invite_33 : decode cX6_invite 33 = .ok (.iconst 2, 1) := by decide +kernel
theorem dX6_invite_34 : decode cX6_invite 34 = .ok (.if_icmp .eq 13, 3) := by decide +kernel
theorem dX6_invite_37 : decode cX6_invite 37 = .ok (.aload_n 0, 1) := by decide +kernel
theorem dX6_invite_38 : decode cX6_invite 38 = .ok (.getfield 26, 3) := by decide +kernel
theorem dX6_invite_41 : decode cX6_invite 41 = .ok (.getfield 143, 3) := by decide +kernel
theorem dX6_invite_44 : decode cX6_invite 44 = .ok (.ifCond .eq 6, 3) := by decide +kernel
theorem dX6_invite_47 : decode cX6_invite 47 = .ok (.ldc 146, 2) := by decide +kernel
theorem dX6_invite_49 : decode cX6_invite 49 = .ok (.ireturn, 1) := by decide +kernel
theorem dX6_invite_50 : decode cX6_invite 50 = .ok (.aload_n 0, 1) := by decide +kernel
theorem dX6_invite_51 : decode cX6_invite 51 = .ok (.getfield 42, 3) := by decide +kernel
theorem dX6_invite_54 : decode cX6_invite 54 = .ok (.iconst 0, 1) := by decide +kernel
theorem dX6_invite_55 : decode cX6_invite 55 = .ok (.iload_n 1, 1) := by decide +kernel
theorem dX6_invite_56 : decode cX6_invite 56 = .ok (.iconst 0, 1) := by decide +kernel
theorem dX6_invite_57 : decode cX6_invite 57 = .ok (.invokevirtual 147, 3) := by decide +kernel
theorem dX6_invite_60 : decode cX6_invite 60 = .ok (.aload_n 0, 1) := by decide +kernel
theorem dX6_invite_61 : decode cX6_invite 61 = .ok (.getfield 26, 3) := by decide +kernel
theorem dX6_invite_64 : decode cX6_invite 64 = .ok (.iload_n 1, 1) := by decide +kernel
theorem dX6_invite_65 : decode cX6_invite 65 = .ok (.invokevirtual 150, 3) := by decide +kernel
theorem dX6_invite_68 : decode cX6_invite 68 = .ok (.aload_n 0, 1) := by decide +kernel
theorem dX6_invite_69 : decode cX6_invite 69 = .ok (.getfield 26, 3) := by decide +kernel
theorem dX6_invite_72 : decode cX6_invite 72 = .ok (.getfield 154, 3) := by decide +kernel
theorem dX6_invite_75 : decode cX6_invite 75 = .ok (.iload_n 1, 1) := by decide +kernel
theorem dX6_invite_76 : decode cX6_invite 76 = .ok (.iaload, 1) := by decide +kernel
theorem dX6_invite_77 : decode cX6_invite 77 = .ok (.ireturn, 1) := by decide +kernel
theorem dX6_show_0 : decode cX6_show 0 = .ok (.aload_n 0, 1) := by decide +kernel
theorem dX6_show_1 : decode cX6_show 1 = .ok (.getfield 26, 3) := by decide +kernel
theorem dX6_show_4 : decode cX6_show 4 = .ok (.iload_n 1, 1) := by decide +kernel
theorem dX6_show_5 : decode cX6_show 5 = .ok (.invokevirtual 158, 3) := by decide +kernel
theorem dX6_show_8 : decode cX6_show 8 = .ok (.ifCond .ne 6, 3) := by decide +kernel
theorem dX6_show_11 : decode cX6_show 11 = .ok (.ldc 64, 2) := by decide +kernel
theorem dX6_show_13 : decode cX6_show 13 = .ok (.ireturn, 1) := by decide +kernel
theorem dX6_show_14 : decode cX6_show 14 = .ok (.aload_n 0, 1) := by decide +kernel
theorem dX6_show_15 : decode cX6_show 15 = .ok (.getfield 26, 3) := by decide +kernel
theorem dX6_show_18 : decode cX6_show 18 = .ok (.getfield 137, 3) := by decide +kernel
theorem dX6_show_21 : decode cX6_show 21 = .ok (.iconst (-1), 1) := by decide +kernel
theorem dX6_show_22 : decode cX6_show 22 = .ok (.if_icmp .eq 17, 3) := by decide +kernel
theorem dX6_show_25 : decode cX6_show 25 = .ok (.aload_n 0, 1) := by decide +kernel
theorem dX6_show_26 : decode cX6_show 26 = .ok (.getfield 26, 3) := by decide +kernel
theorem dX6_show_29 : decode cX6_show 29 = .ok (.getfield 161, 3) := by decide +kernel
theorem dX6_show_32 : decode cX6_show 32 = .ok (.iload_n 1, 1) := by decide +kernel
theorem dX6_show_33 : decode cX6_show 33 = .ok (.invokestatic 164, 3) := by decide +kernel
theorem dX6_show_36 : decode cX6_show 36 = .ok (.ifCond .eq 6, 3) := by decide +kernel
theorem dX6_show_39 : decode cX6_show 39 = .ok (.ldc 146, 2) := by decide +kernel
theorem dX6_show_41 : decode cX6_show 41 = .ok (.ireturn, 1) := by decide +kernel
theorem dX6_show_42 : decode cX6_show 42 = .ok (.aload_n 0, 1) := by decide +kernel
theorem dX6_show_43 : decode cX6_show 43 = .ok (.getfield 26, 3) := by decide +kernel
theorem dX6_show_46 : decode cX6_show 46 = .ok (.getfield 161, 3) := by decide +kernel
theorem dX6_show_49 : decode cX6_show 49 = .ok (.invokestatic 167, 3) := by decide +kernel
theorem dX6_show_52 : decode cX6_show 52 = .ok (.aload_n 0, 1) := by decide +kernel
theorem dX6_show_53 : decode cX6_show 53 = .ok (.getfield 26, 3) := by decide +kernel
theorem dX6_show_56 : decode cX6_show 56 = .ok (.getfield 172, 3) := by decide +kernel
theorem dX6_show_59 : decode cX6_show 59 = .ok (.if_icmp .lt 6, 3) := by decide +kernel
theorem dX6_show_62 : decode cX6_show 62 = .ok (.ldc 102, 2) := by decide +kernel
theorem dX6_show_64 : decode cX6_show 64 = .ok (.ireturn, 1) := by decide +kernel
theorem dX6_show_65 : decode cX6_show 65 = .ok (.aload_n 0, 1) := by decide +kernel
theorem dX6_show_66 : decode cX6_show 66 = .ok (.getfield 42, 3) := by decide +kernel
theorem dX6_show_69 : decode cX6_show 69 = .ok (.iconst 1, 1) := by decide +kernel
theorem dX6_show_70 : decode cX6_show 70 = .ok (.iload_n 1, 1) := by decide +kernel
theorem dX6_show_71 : decode cX6_show 71 = .ok (.aload_n 0, 1) := by decide +kernel
theorem dX6_show_72 : decode cX6_show 72 = .ok (.getfield 26, 3) := by decide +kernel
theorem dX6_show_75 : decode cX6_show 75 = .ok (.getfield 154, 3) := by decide +kernel
theorem dX6_show_78 : decode cX6_show 78 = .ok (.aload_n 0, 1) := by decide +kernel
theorem dX6_show_79 : decode cX6_show 79 = .ok (.getfield 26, 3) := by decide +kernel
theorem dX6_show_82 : decode cX6_show 82 = .ok (.getfield 137, 3) := by decide +kernel
theorem dX6_show_85 : decode cX6_show 85 = .ok (.iaload, 1) := by decide +kernel
theorem dX6_show_86 : decode cX6_show 86 = .ok (.invokevirtual 147, 3) := by decide +kernel
theorem dX6_show_89 : decode cX6_show 89 = .ok (.aload_n 0, 1) := by decide +kernel
theorem dX6_show_90 : decode cX6_show 90 = .ok (.getfield 26, 3) := by decide +kernel
theorem dX6_show_93 : decode cX6_show 93 = .ok (.iload_n 1, 1) := by decide +kernel
theorem dX6_show_94 : decode cX6_show 94 = .ok (.invokevirtual 175, 3) := by decide +kernel
theorem dX6_show_97 : decode cX6_show 97 = .ok (.aload_n 0, 1) := by decide +kernel
theorem dX6_show_98 : decode cX6_show 98 = .ok (.getfield 26, 3) := by decide +kernel
theorem dX6_show_101 : decode cX6_show 101 = .ok (.getfield 154, 3) := by decide +kernel
theorem dX6_show_104 : decode cX6_show 104 = .ok (.aload_n 0, 1) := by decide +kernel
theorem dX6_show_105 : decode cX6_show 105 = .ok (.getfield 26, 3) := by decide +kernel
theorem dX6_show_108 : decode cX6_show 108 = .ok (.getfield 137, 3) := by decide +kernel
theorem dX6_show_111 : decode cX6_show 111 = .ok (.iaload, 1) := by decide +kernel
theorem dX6_show_112 : decode cX6_show 112 = .ok (.ireturn, 1) := by decide +kernel
theorem dX6_speak_0 : decode cX6_speak 0 = .ok (.aload_n 0, 1) := by decide +kernel
theorem dX6_speak_1 : decode cX6_speak 1 = .ok (.getfield 26, 3) := by decide +kernel
theorem dX6_speak_4 : decode cX6_speak 4 = .ok (.getfield 137, 3) := by decide +kernel
theorem dX6_speak_7 : decode cX6_speak 7 = .ok (.istore_n 1, 1) := by decide +kernel
theorem dX6_speak_8 : decode cX6_speak 8 = .ok (.iload_n 1, 1) := by decide +kernel
theorem dX6_speak_9 : decode cX6_speak 9 = .ok (.iconst (-1), 1) := by decide +kernel
theorem dX6_speak_10 : decode cX6_speak 10 = .ok (.if_icmp .ne 6, 3) := by decide +kernel
theorem dX6_speak_13 : decode cX6_speak 13 = .ok (.ldc 146, 2) := by decide +kernel
theorem dX6_speak_15 : decode cX6_speak 15 = .ok (.ireturn, 1) := by decide +kernel
theorem dX6_speak_16 : decode cX6_speak 16 = .ok (.aload_n 0, 1) := by decide +kernel
theorem dX6_speak_17 : decode cX6_speak 17 = .ok (.getfield 42, 3) := by decide +kernel
theorem dX6_speak_20 : decode cX6_speak 20 = .ok (.iconst 2, 1) := by decide +kernel
theorem dX6_speak_21 : decode cX6_speak 21 = .ok (.iload_n 1, 1) := by decide +kernel
theorem dX6_speak_22 : decode cX6_speak 22 = .ok (.aload_n 0, 1) := by decide +kernel
theorem dX6_speak_23 : decode cX6_speak 23 = .ok (.getfield 26, 3) := by decide +kernel
theorem dX6_speak_26 : decode cX6_speak 26 = .ok (.getfield 161, 3) := by decide +kernel
theorem dX6_speak_29 : decode cX6_speak 29 = .ok (.invokevirtual 147, 3) := by decide +kernel
theorem dX6_speak_32 : decode cX6_speak 32 = .ok (.aload_n 0, 1) := by decide +kernel
theorem dX6_speak_33 : decode cX6_speak 33 = .ok (.getfield 26, 3) := by decide +kernel
theorem dX6_speak_36 : decode cX6_speak 36 = .ok (.iload_n 1, 1) := by decide +kernel
theorem dX6_speak_37 : decode cX6_speak 37 = .ok (.invokevirtual 178, 3) := by decide +kernel
theorem dX6_speak_40 : decode cX6_speak 40 = .ok (.aload_n 0, 1) := by decide +kernel
theorem dX6_speak_41 : decode cX6_speak 41 = .ok (.getfield 26, 3) := by decide +kernel
theorem dX6_speak_44 : decode cX6_speak 44 = .ok (.getfield 181, 3) := by decide +kernel
theorem dX6_speak_47 : decode cX6_speak 47 = .ok (.iload_n 1, 1) := by decide +kernel
theorem dX6_speak_48 : decode cX6_speak 48 = .ok (.iaload, 1) := by decide +kernel
theorem dX6_speak_49 : decode cX6_speak 49 = .ok (.ireturn, 1) := by decide +kernel
theorem dX6_tale_0 : decode cX6_tale 0 = .ok (.aload_n 0, 1) := by decide +kernel
theorem dX6_tale_1 : decode cX6_tale 1 = .ok (.getfield 26, 3) := by decide +kernel
theorem dX6_tale_4 : decode cX6_tale 4 = .ok (.iload_n 1, 1) := by decide +kernel
theorem dX6_tale_5 : decode cX6_tale 5 = .ok (.invokevirtual 134, 3) := by decide +kernel
theorem dX6_tale_8 : decode cX6_tale 8 = .ok (.ifCond .eq 19, 3) := by decide +kernel
theorem dX6_tale_11 : decode cX6_tale 11 = .ok (.iload_n 2, 1) := by decide +kernel
theorem dX6_tale_12 : decode cX6_tale 12 = .ok (.bipush (-20), 2) := by decide +kernel
theorem dX6_tale_14 : decode cX6_tale 14 = .ok (.if_icmp .lt 13, 3) := by decide +kernel
theorem dX6_tale_17 : decode cX6_tale 17 = .ok (.iload_n 2, 1) := by decide +kernel
theorem dX6_tale_18 : decode cX6_tale 18 = .ok (.bipush 20, 2) := by decide +kernel
theorem dX6_tale_20 : decode cX6_tale 20 = .ok (.if_icmp .gt 7, 3) := by decide +kernel
theorem dX6_tale_23 : decode cX6_tale 23 = .ok (.iload_n 2, 1) := by decide +kernel
theorem dX6_tale_24 : decode cX6_tale 24 = .ok (.ifCond .ne 6, 3) := by decide +kernel
theorem dX6_tale_27 : decode cX6_tale 27 = .ok (.ldc 64, 2) := by decide +kernel
theorem dX6_tale_29 : decode cX6_tale 29 = .ok (.ireturn, 1) := by decide +kernel
theorem dX6_tale_30 : decode cX6_tale 30 = .ok (.aload_n 0, 1) := by decide +kernel
theorem dX6_tale_31 : decode cX6_tale 31 = .ok (.getfield 26, 3) := by decide +kernel
theorem dX6_tale_34 : decode cX6_tale 34 = .ok (.iload_n 1, 1) := by decide +kernel
theorem dX6_tale_35 : decode cX6_tale 35 = .ok (.invokevirtual 140, 3) := by decide +kernel
theorem dX6_tale_38 : decode cX6_tale 38 = .ok (.ifCond .eq 6, 3) := by decide +kernel
theorem dX6_tale_41 : decode cX6_tale 41 = .ok (.ldc 146, 2) := by decide +kernel
theorem dX6_tale_43 : decode cX6_tale 43 = .ok (.ireturn, 1) := by decide +kernel
theorem dX6_tale_44 : decode cX6_tale 44 = .ok (.aload_n 0, 1) := by decide +kernel
theorem dX6_tale_45 : decode cX6_tale 45 = .ok (.getfield 42, 3) := by decide +kernel
theorem dX6_tale_48 : decode cX6_tale 48 = .ok (.iconst 3, 1) := by decide +kernel
theorem dX6_tale_49 : decode cX6_tale 49 = .ok (.iload_n 1, 1) := by decide +kernel
theorem dX6_tale_50 : decode cX6_tale 50 = .ok (.aload_n 0, 1) := by decide +kernel
theorem dX6_tale_51 : decode cX6_tale 51 = .ok (.getfield 26, 3) := by decide +kernel
theorem dX6_tale_54 : decode cX6_tale 54 = .ok (.getfield 184, 3) := by decide +kernel
theorem dX6_tale_57 : decode cX6_tale 57 = .ok (.iload_n 1, 1) := by decide +kernel
theorem dX6_tale_58 : decode cX6_tale 58 = .ok (.iaload, 1) := by decide +kernel
theorem dX6_tale_59 : decode cX6_tale 59 = .ok (.invokevirtual 147, 3) := by decide +kernel
theorem dX6_tale_62 : decode cX6_tale 62 = .ok (.aload_n 0, 1) := by decide +kernel
theorem dX6_tale_63 : decode cX6_tale 63 = .ok (.getfield 26, 3) := by decide +kernel
theorem dX6_tale_66 : decode cX6_tale 66 = .ok (.getfield 184, 3) := by decide +kernel
theorem dX6_tale_69 : decode cX6_tale 69 = .ok (.iload_n 1, 1) := by decide +kernel
theorem dX6_tale_70 : decode cX6_tale 70 = .ok (.iconst 0, 1) := by decide +kernel
theorem dX6_tale_71 : decode cX6_tale 71 = .ok (.bipush 20, 2) := by decide +kernel
theorem dX6_tale_73 : decode cX6_tale 73 = .ok (.aload_n 0, 1) := by decide +kernel
theorem dX6_tale_74 : decode cX6_tale 74 = .ok (.getfield 26, 3) := by decide +kernel
theorem dX6_tale_77 : decode cX6_tale 77 = .ok (.getfield 184, 3) := by decide +kernel
theorem dX6_tale_80 : decode cX6_tale 80 = .ok (.iload_n 1, 1) := by decide +kernel
theorem dX6_tale_81 : decode cX6_tale 81 = .ok (.iaload, 1) := by decide +kernel
theorem dX6_tale_82 : decode cX6_tale 82 = .ok (.iload_n 2, 1) := by decide +kernel
theorem dX6_tale_83 : decode cX6_tale 83 = .ok (.iadd, 1) := by decide +kernel
theorem dX6_tale_84 : decode cX6_tale 84 = .ok (.invokestatic 187, 3) := by decide +kernel
theorem dX6_tale_87 : decode cX6_tale 87 = .ok (.invokestatic 193, 3) := by decide +kernel
theorem dX6_tale_90 : decode cX6_tale 90 = .ok (.iastore, 1) := by decide +kernel
theorem dX6_tale_91 : decode cX6_tale 91 = .ok (.aload_n 0, 1) := by decide +kernel
theorem dX6_tale_92 : decode cX6_tale 92 = .ok (.getfield 26, 3) := by decide +kernel
theorem dX6_tale_95 : decode cX6_tale 95 = .ok (.getfield 184, 3) := by decide +kernel
theorem dX6_tale_98 : decode cX6_tale 98 = .ok (.iload_n 1, 1) := by decide +kernel
theorem dX6_tale_99 : decode cX6_tale 99 = .ok (.iaload, 1) := by decide +kernel
theorem dX6_tale_100 : decode cX6_tale 100 = .ok (.ireturn, 1) := by decide +kernel
theorem dX6_undo_0 : decode cX6_undo 0 = .ok (.aload_n 0, 1) := by decide +kernel
theorem dX6_undo_1 : decode cX6_undo 1 = .ok (.getfield 42, 3) := by decide +kernel
theorem dX6_undo_4 : decode cX6_undo 4 = .ok (.getfield 196, 3) := by decide +kernel
theorem dX6_undo_7 : decode cX6_undo 7 = .ok (.ifCond .ne 6, 3) := by decide +kernel
theorem dX6_undo_10 : decode cX6_undo 10 = .ok (.ldc 146, 2) := by decide +kernel
theorem dX6_undo_12 : decode cX6_undo 12 = .ok (.ireturn, 1) := by decide +kernel
theorem dX6_undo_13 : decode cX6_undo 13 = .ok (.aload_n 0, 1) := by decide +kernel
theorem dX6_undo_14 : decode cX6_undo 14 = .ok (.getfield 42, 3) := by decide +kernel
theorem dX6_undo_17 : decode cX6_undo 17 = .ok (.invokevirtual 199, 3) := by decide +kernel
theorem dX6_undo_20 : decode cX6_undo 20 = .ok (.istore_n 1, 1) := by decide +kernel
theorem dX6_undo_21 : decode cX6_undo 21 = .ok (.aload_n 0, 1) := by decide +kernel
theorem dX6_undo_22 : decode cX6_undo 22 = .ok (.aload_n 0, 1) := by decide +kernel
theorem dX6_undo_23 : decode cX6_undo 23 = .ok (.getfield 42, 3) := by decide +kernel
theorem dX6_undo_26 : decode cX6_undo 26 = .ok (.getfield 203, 3) := by decide +kernel
theorem dX6_undo_29 : decode cX6_undo 29 = .ok (.iload_n 1, 1) := by decide +kernel
theorem dX6_undo_30 : decode cX6_undo 30 = .ok (.iaload, 1) := by decide +kernel
theorem dX6_undo_31 : decode cX6_undo 31 = .ok (.aload_n 0, 1) := by decide +kernel
theorem dX6_undo_32 : decode cX6_undo 32 = .ok (.getfield 42, 3) := by decide +kernel
theorem dX6_undo_35 : decode cX6_undo 35 = .ok (.getfield 206, 3) := by decide +kernel
theorem dX6_undo_38 : decode cX6_undo 38 = .ok (.iload_n 1, 1) := by decide +kernel
theorem dX6_undo_39 : decode cX6_undo 39 = .ok (.iaload, 1) := by decide +kernel
theorem dX6_undo_40 : decode cX6_undo 40 = .ok (.aload_n 0, 1) := by decide +kernel
theorem dX6_undo_41 : decode cX6_undo 41 = .ok (.getfield 42, 3) := by decide +kernel
theorem dX6_undo_44 : decode cX6_undo 44 = .ok (.getfield 209, 3) := by decide +kernel
theorem dX6_undo_47 : decode cX6_undo 47 = .ok (.iload_n 1, 1) := by decide +kernel
theorem dX6_undo_48 : decode cX6_undo 48 = .ok (.iaload, 1) := by decide +kernel
theorem dX6_undo_49 : decode cX6_undo 49 = .ok (.invokevirtual 212, 3) := by decide +kernel
theorem dX6_undo_52 : decode cX6_undo 52 = .ok (.aload_n 0, 1) := by decide +kernel
theorem dX6_undo_53 : decode cX6_undo 53 = .ok (.getfield 42, 3) := by decide +kernel
theorem dX6_undo_56 : decode cX6_undo 56 = .ok (.getfield 196, 3) := by decide +kernel
theorem dX6_undo_59 : decode cX6_undo 59 = .ok (.ireturn, 1) := by decide +kernel
theorem dX6_guest_0 : decode cX6_guest 0 = .ok (.aload_n 0, 1) := by decide +kernel
theorem dX6_guest_1 : decode cX6_guest 1 = .ok (.getfield 26, 3) := by decide +kernel
theorem dX6_guest_4 : decode cX6_guest 4 = .ok (.iload_n 1, 1) := by decide +kernel
theorem dX6_guest_5 : decode cX6_guest 5 = .ok (.invokevirtual 134, 3) := by decide +kernel
theorem dX6_guest_8 : decode cX6_guest 8 = .ok (.ifCond .ne 6, 3) := by decide +kernel
theorem dX6_guest_11 : decode cX6_guest 11 = .ok (.ldc 64, 2) := by decide +kernel
theorem dX6_guest_13 : decode cX6_guest 13 = .ok (.ireturn, 1) := by decide +kernel
theorem dX6_guest_14 : decode cX6_guest 14 = .ok (.iload_n 2, 1) := by decide +kernel
theorem dX6_guest_15 : decode cX6_guest 15 = .ok (.tableswitch 82 0 4 #[33, 43, 53, 63, 72], 33) := by decide +kernel
theorem dX6_guest_48 : decode cX6_guest 48 = .ok (.aload_n 0, 1) := by decide +kernel
theorem dX6_guest_49 : decode cX6_guest 49 = .ok (.getfield 26, 3) := by decide +kernel
theorem dX6_guest_52 : decode cX6_guest 52 = .ok (.getfield 154, 3) := by decide +kernel
theorem dX6_guest_55 : decode cX6_guest 55 = .ok (.iload_n 1, 1) := by decide +kernel
theorem dX6_guest_56 : decode cX6_guest 56 = .ok (.iaload, 1) := by decide +kernel
theorem dX6_guest_57 : decode cX6_guest 57 = .ok (.ireturn, 1) := by decide +kernel
theorem dX6_guest_58 : decode cX6_guest 58 = .ok (.aload_n 0, 1) := by decide +kernel
theorem dX6_guest_59 : decode cX6_guest 59 = .ok (.getfield 26, 3) := by decide +kernel
theorem dX6_guest_62 : decode cX6_guest 62 = .ok (.getfield 215, 3) := by decide +kernel
theorem dX6_guest_65 : decode cX6_guest 65 = .ok (.iload_n 1, 1) := by decide +kernel
theorem dX6_guest_66 : decode cX6_guest 66 = .ok (.iaload, 1) := by decide +kernel
theorem dX6_guest_67 : decode cX6_guest 67 = .ok (.ireturn, 1) := by decide +kernel
theorem dX6_guest_68 : decode cX6_guest 68 = .ok (.aload_n 0, 1) := by decide +kernel
theorem dX6_guest_69 : decode cX6_guest 69 = .ok (.getfield 26, 3) := by decide +kernel
theorem dX6_guest_72 : decode cX6_guest 72 = .ok (.getfield 184, 3) := by decide +kernel
theorem dX6_guest_75 : decode cX6_guest 75 = .ok (.iload_n 1, 1) := by decide +kernel
theorem dX6_guest_76 : decode cX6_guest 76 = .ok (.iaload, 1) := by decide +kernel
theorem dX6_guest_77 : decode cX6_guest 77 = .ok (.ireturn, 1) := by decide +kernel
theorem dX6_guest_78 : decode cX6_guest 78 = .ok (.aload_n 0, 1) := by decide +kernel
theorem dX6_guest_79 : decode cX6_guest 79 = .ok (.getfield 26, 3) := by decide +kernel
theorem dX6_guest_82 : decode cX6_guest 82 = .ok (.iload_n 1, 1) := by decide +kernel
theorem dX6_guest_83 : decode cX6_guest 83 = .ok (.invokevirtual 140, 3) := by decide +kernel
theorem dX6_guest_86 : decode cX6_guest 86 = .ok (.ireturn, 1) := by decide +kernel
theorem dX6_guest_87 : decode cX6_guest 87 = .ok (.aload_n 0, 1) := by decide +kernel
theorem dX6_guest_88 : decode cX6_guest 88 = .ok (.getfield 26, 3) := by decide +kernel
theorem dX6_guest_91 : decode cX6_guest 91 = .ok (.getfield 181, 3) := by decide +kernel
theorem dX6_guest_94 : decode cX6_guest 94 = .ok (.iload_n 1, 1) := by decide +kernel
theorem dX6_guest_95 : decode cX6_guest 95 = .ok (.iaload, 1) := by decide +kernel
theorem dX6_guest_96 : decode cX6_guest 96 = .ok (.ireturn, 1) := by decide +kernel
theorem dX6_guest_97 : decode cX6_guest 97 = .ok (.ldc 64, 2) := by decide +kernel
theorem dX6_guest_99 : decode cX6_guest 99 = .ok (.ireturn, 1) := by decide +kernel
theorem dX6_hint_0 : decode cX6_hint 0 = .ok (.aload_n 0, 1) := by decide +kernel
theorem dX6_hint_1 : decode cX6_hint 1 = .ok (.getfield 26, 3) := by decide +kernel
theorem dX6_hint_4 : decode cX6_hint 4 = .ok (.iload_n 1, 1) := by decide +kernel
theorem dX6_hint_5 : decode cX6_hint 5 = .ok (.invokevirtual 158, 3) := by decide +kernel
theorem dX6_hint_8 : decode cX6_hint 8 = .ok (.ifCond .ne 6, 3) := by decide +kernel
theorem dX6_hint_11 : decode cX6_hint 11 = .ok (.ldc 64, 2) := by decide +kernel
theorem dX6_hint_13 : decode cX6_hint 13 = .ok (.ireturn, 1) := by decide +kernel
theorem dX6_hint_14 : decode cX6_hint 14 = .ok (.iload_n 2, 1) := by decide +kernel
theorem dX6_hint_15 : decode cX6_hint 15 = .ok (.tableswitch 79 0 3 #[29, 39, 49, 59], 29) := by decide +kernel
theorem dX6_hint_44 : decode cX6_hint 44 = .ok (.aload_n 0, 1) := by decide +kernel
theorem dX6_hint_45 : decode cX6_hint 45 = .ok (.getfield 26, 3) := by decide +kernel
theorem dX6_hint_48 : decode cX6_hint 48 = .ok (.getfield 218, 3) := by decide +kernel
theorem dX6_hint_51 : decode cX6_hint 51 = .ok (.iload_n 1, 1) := by decide +kernel
theorem dX6_hint_52 : decode cX6_hint 52 = .ok (.iaload, 1) := by decide +kernel
theorem dX6_hint_53 : decode cX6_hint 53 = .ok (.ireturn, 1) := by decide +kernel
theorem dX6_hint_54 : decode cX6_hint 54 = .ok (.aload_n 0, 1) := by decide +kernel
theorem dX6_hint_55 : decode cX6_hint 55 = .ok (.getfield 26, 3) := by decide +kernel
theorem dX6_hint_58 : decode cX6_hint 58 = .ok (.getfield 221, 3) := by decide +kernel
theorem dX6_hint_61 : decode cX6_hint 61 = .ok (.iload_n 1, 1) := by decide +kernel
theorem dX6_hint_62 : decode cX6_hint 62 = .ok (.iaload, 1) := by decide +kernel
theorem dX6_hint_63 : decode cX6_hint 63 = .ok (.ireturn, 1) := by decide +kernel
theorem dX6_hint_64 : decode cX6_hint 64 = .ok (.aload_n 0, 1) := by decide +kernel
theorem dX6_hint_65 : decode cX6_hint 65 = .ok (.getfield 26, 3) := by decide +kernel
theorem dX6_hint_68 : decode cX6_hint 68 = .ok (.getfield 224, 3) := by decide +kernel
theorem dX6_hint_71 : decode cX6_hint 71 = .ok (.iload_n 1, 1) := by decide +kernel
theorem dX6_hint_72 : decode cX6_hint 72 = .ok (.iaload, 1) := by decide +kernel
theorem dX6_hint_73 : decode cX6_hint 73 = .ok (.ireturn, 1) := by decide +kernel
theorem dX6_hint_74 : decode cX6_hint 74 = .ok (.aload_n 0, 1) := by decide +kernel
theorem dX6_hint_75 : decode cX6_hint 75 = .ok (.getfield 26, 3) := by decide +kernel
theorem dX6_hint_78 : decode cX6_hint 78 = .ok (.getfield 161, 3) := by decide +kernel
theorem dX6_hint_81 : decode cX6_hint 81 = .ok (.iload_n 1, 1) := by decide +kernel
theorem dX6_hint_82 : decode cX6_hint 82 = .ok (.invokestatic 164, 3) := by decide +kernel
theorem dX6_hint_85 : decode cX6_hint 85 = .ok (.ifCond .eq 7, 3) := by decide +kernel
theorem dX6_hint_88 : decode cX6_hint 88 = .ok (.iconst 1, 1) := by decide +kernel
theorem dX6_hint_89 : decode cX6_hint 89 = .ok (.goto 4, 3) := by decide +kernel
theorem dX6_hint_92 : decode cX6_hint 92 = .ok (.iconst 0, 1) := by decide +kernel
theorem dX6_hint_93 : decode cX6_hint 93 = .ok (.ireturn, 1) := by decide +kernel
theorem dX6_hint_94 : decode cX6_hint 94 = .ok (.ldc 64, 2) := by decide +kernel
theorem dX6_hint_96 : decode cX6_hint 96 = .ok (.ireturn, 1) := by decide +kernel
theorem dX6_leads_0 : decode cX6_leads 0 = .ok (.aload_n 0, 1) := by decide +kernel
theorem dX6_leads_1 : decode cX6_leads 1 = .ok (.getfield 26, 3) := by decide +kernel
theorem dX6_leads_4 : decode cX6_leads 4 = .ok (.iload_n 1, 1) := by decide +kernel
theorem dX6_leads_5 : decode cX6_leads 5 = .ok (.invokevirtual 158, 3) := by decide +kernel
theorem dX6_leads_8 : decode cX6_leads 8 = .ok (.ifCond .eq 12, 3) := by decide +kernel
theorem dX6_leads_11 : decode cX6_leads 11 = .ok (.iload_n 2, 1) := by decide +kernel
theorem dX6_leads_12 : decode cX6_leads 12 = .ok (.bipush 8, 2) := by decide +kernel
theorem dX6_leads_14 : decode cX6_leads 14 = .ok (.invokestatic 60, 3) := by decide +kernel
theorem dX6_leads_17 : decode cX6_leads 17 = .ok (.ifCond .ne 6, 3) := by decide +kernel
theorem dX6_leads_20 : decode cX6_leads 20 = .ok (.ldc 64, 2) := by decide +kernel
theorem dX6_leads_22 : decode cX6_leads 22 = .ok (.ireturn, 1) := by decide +kernel
theorem dX6_leads_23 : decode cX6_leads 23 = .ok (.aload_n 0, 1) := by decide +kernel
theorem dX6_leads_24 : decode cX6_leads 24 = .ok (.getfield 26, 3) := by decide +kernel
theorem dX6_leads_27 : decode cX6_leads 27 = .ok (.iload_n 2, 1) := by decide +kernel
theorem dX6_leads_28 : decode cX6_leads 28 = .ok (.iload_n 1, 1) := by decide +kernel
theorem dX6_leads_29 : decode cX6_leads 29 = .ok (.aload_n 0, 1) := by decide +kernel
theorem dX6_leads_30 : decode cX6_leads 30 = .ok (.getfield 26, 3) := by decide +kernel
theorem dX6_leads_33 : decode cX6_leads 33 = .ok (.getfield 224, 3) := by decide +kernel
theorem dX6_leads_36 : decode cX6_leads 36 = .ok (.iload_n 1, 1) := by decide +kernel
theorem dX6_leads_37 : decode cX6_leads 37 = .ok (.iaload, 1) := by decide +kernel
theorem dX6_leads_38 : decode cX6_leads 38 = .ok (.invokevirtual 227, 3) := by decide +kernel
theorem dX6_leads_41 : decode cX6_leads 41 = .ok (.ireturn, 1) := by decide +kernel
theorem dX6_route_0 : decode cX6_route 0 = .ok (.aload_n 0, 1) := by decide +kernel
theorem dX6_route_1 : decode cX6_route 1 = .ok (.getfield 26, 3) := by decide +kernel
theorem dX6_route_4 : decode cX6_route 4 = .ok (.iload_n 1, 1) := by decide +kernel
theorem dX6_route_5 : decode cX6_route 5 = .ok (.invokevirtual 134, 3) := by decide +kernel
theorem dX6_route_8 : decode cX6_route 8 = .ok (.ifCond .eq 16, 3) := by decide +kernel
theorem dX6_route_11 : decode cX6_route 11 = .ok (.iload_n 2, 1) := by decide +kernel
theorem dX6_route_12 : decode cX6_route 12 = .ok (.iconst 2, 1) := by decide +kernel
theorem dX6_route_13 : decode cX6_route 13 = .ok (.invokestatic 60, 3) := by decide +kernel
theorem dX6_route_16 : decode cX6_route 16 = .ok (.ifCond .eq 8, 3) := by decide +kernel
theorem dX6_route_19 : decode cX6_route 19 = .ok (.iload_n 3, 1) := by decide +kernel
theorem dX6_route_20 : decode cX6_route 20 = .ok (.iconst (-1), 1) := by decide +kernel
theorem dX6_route_21 : decode cX6_route 21 = .ok (.if_icmp .ge 6, 3) := by decide +kernel
theorem dX6_route_24 : decode cX6_route 24 = .ok (.ldc 64, 2) := by decide +kernel
theorem dX6_route_26 : decode cX6_route 26 = .ok (.ireturn, 1) := by decide +kernel
theorem dX6_route_27 : decode cX6_route 27 = .ok (.aload_n 0, 1) := by decide +kernel
theorem dX6_route_28 : decode cX6_route 28 = .ok (.getfield 26, 3) := by decide +kernel
theorem dX6_route_31 : decode cX6_route 31 = .ok (.iload_n 1, 1) := by decide +kernel
theorem dX6_route_32 : decode cX6_route 32 = .ok (.invokevirtual 140, 3) := by decide +kernel
theorem dX6_route_35 : decode cX6_route 35 = .ok (.iconst 2, 1) := by decide +kernel
theorem dX6_route_36 : decode cX6_route 36 = .ok (.if_icmp .ne 6, 3) := by decide +kernel
theorem dX6_route_39 : decode cX6_route 39 = .ok (.ldc 146, 2) := by decide +kernel
theorem dX6_route_41 : decode cX6_route 41 = .ok (.ireturn, 1) := by decide +kernel
theorem dX6_route_42 : decode cX6_route 42 = .ok (.aload_n 0, 1) := by decide +kernel
theorem dX6_route_43 : decode cX6_route 43 = .ok (.getfield 49, 3) := by decide +kernel
theorem dX6_route_46 : decode cX6_route 46 = .ok (.aload_n 0, 1) := by decide +kernel
theorem dX6_route_47 : decode cX6_route 47 = .ok (.getfield 26, 3) := by decide +kernel
theorem dX6_route_50 : decode cX6_route 50 = .ok (.aload_n 0, 1) := by decide +kernel
theorem dX6_route_51 : decode cX6_route 51 = .ok (.getfield 26, 3) := by decide +kernel
theorem dX6_route_54 : decode cX6_route 54 = .ok (.iload_n 1, 1) := by decide +kernel
theorem dX6_route_55 : decode cX6_route 55 = .ok (.invokevirtual 230, 3) := by decide +kernel
theorem dX6_route_58 : decode cX6_route 58 = .ok (.iload_n 2, 1) := by decide +kernel
theorem dX6_route_59 : decode cX6_route 59 = .ok (.iconst 1, 1) := by decide +kernel
theorem dX6_route_60 : decode cX6_route 60 = .ok (.if_icmp .ne 7, 3) := by decide +kernel
theorem dX6_route_63 : decode cX6_route 63 = .ok (.iconst 1, 1) := by decide +kernel
theorem dX6_route_64 : decode cX6_route 64 = .ok (.goto 4, 3) := by decide +kernel
theorem dX6_route_67 : decode cX6_route 67 = .ok (.iconst 0, 1) := by decide +kernel
theorem dX6_route_68 : decode cX6_route 68 = .ok (.invokevirtual 233, 3) := by decide +kernel
theorem dX6_route_71 : decode cX6_route 71 = .ok (.aload_n 0, 1) := by decide +kernel
theorem dX6_route_72 : decode cX6_route 72 = .ok (.getfield 49, 3) := by decide +kernel
theorem dX6_route_75 : decode cX6_route 75 = .ok (.aload_n 0, 1) := by decide +kernel
theorem dX6_route_76 : decode cX6_route 76 = .ok (.getfield 26, 3) := by decide +kernel
theorem dX6_route_79 : decode cX6_route 79 = .ok (.getfield 154, 3) := by decide +kernel
theorem dX6_route_82 : decode cX6_route 82 = .ok (.iload_n 1, 1) := by decide +kernel
theorem dX6_route_83 : decode cX6_route 83 = .ok (.iaload, 1) := by decide +kernel
theorem dX6_route_84 : decode cX6_route 84 = .ok (.aload_n 0, 1) := by decide +kernel
theorem dX6_route_85 : decode cX6_route 85 = .ok (.getfield 26, 3) := by decide +kernel
theorem dX6_route_88 : decode cX6_route 88 = .ok (.iload_n 1, 1) := by decide +kernel
theorem dX6_route_89 : decode cX6_route 89 = .ok (.invokevirtual 237, 3) := by decide +kernel
theorem dX6_route_92 : decode cX6_route 92 = .ok (.invokevirtual 240, 3) := by decide +kernel
theorem dX6_route_95 : decode cX6_route 95 = .ok (.istore 4, 2) := by decide +kernel
theorem dX6_route_97 : decode cX6_route 97 = .ok (.iload 4, 2) := by decide +kernel
theorem dX6_route_99 : decode cX6_route 99 = .ok (.ldc 243, 2) := by decide +kernel
theorem dX6_route_101 : decode cX6_route 101 = .ok (.if_icmp .eq 8, 3) := by decide +kernel
theorem dX6_route_104 : decode cX6_route 104 = .ok (.iload_n 3, 1) := by decide +kernel
theorem dX6_route_105 : decode cX6_route 105 = .ok (.iconst (-1), 1) := by decide +kernel
theorem dX6_route_106 : decode cX6_route 106 = .ok (.if_icmp .ne 6, 3) := by decide +kernel
theorem dX6_route_109 : decode cX6_route 109 = .ok (.iload 4, 2) := by decide +kernel
theorem dX6_route_111 : decode cX6_route 111 = .ok (.ireturn, 1) := by decide +kernel
theorem dX6_route_112 : decode cX6_route 112 = .ok (.iload_n 3, 1) := by decide +kernel
theorem dX6_route_113 : decode cX6_route 113 = .ok (.iload 4, 2) := by decide +kernel
theorem dX6_route_115 : decode cX6_route 115 = .ok (.if_icmp .ge 21, 3) := by decide +kernel
theorem dX6_route_118 : decode cX6_route 118 = .ok (.aload_n 0, 1) := by decide +kernel
theorem dX6_route_119 : decode cX6_route 119 = .ok (.getfield 49, 3) := by decide +kernel
theorem dX6_route_122 : decode cX6_route 122 = .ok (.aload_n 0, 1) := by decide +kernel
theorem dX6_route_123 : decode cX6_route 123 = .ok (.getfield 26, 3) := by decide +kernel
theorem dX6_route_126 : decode cX6_route 126 = .ok (.iload_n 1, 1) := by decide +kernel
theorem dX6_route_127 : decode cX6_route 127 = .ok (.iload 4, 2) := by decide +kernel
theorem dX6_route_129 : decode cX6_route 129 = .ok (.iload_n 3, 1) := by decide +kernel
theorem dX6_route_130 : decode cX6_route 130 = .ok (.invokevirtual 244, 3) := by decide +kernel
theorem dX6_route_133 : decode cX6_route 133 = .ok (.goto 5, 3) := by decide +kernel
theorem dX6_route_136 : decode cX6_route 136 = .ok (.ldc 243, 2) := by decide +kernel
theorem dX6_route_138 : decode cX6_route 138 = .ok (.ireturn, 1) := by decide +kernel
theorem dX6_thinkable_0 : decode cX6_thinkable 0 = .ok (.aload_n 0, 1) := by decide +kernel
theorem dX6_thinkable_1 : decode cX6_thinkable 1 = .ok (.getfield 26, 3) := by decide +kernel
theorem dX6_thinkable_4 : decode cX6_thinkable 4 = .ok (.iload_n 1, 1) := by decide +kernel
theorem dX6_thinkable_5 : decode cX6_thinkable 5 = .ok (.invokevirtual 134, 3) := by decide +kernel
theorem dX6_thinkable_8 : decode cX6_thinkable 8 = .ok (.ifCond .ne 6, 3) := by decide +kernel
theorem dX6_thinkable_11 : decode cX6_thinkable 11 = .ok (.ldc 64, 2) := by decide +kernel
theorem dX6_thinkable_13 : decode cX6_thinkable 13 = .ok (.ireturn, 1) := by decide +kernel
theorem dX6_thinkable_14 : decode cX6_thinkable 14 = .ok (.aload_n 0, 1) := by decide +kernel
theorem dX6_thinkable_15 : decode cX6_thinkable 15 = .ok (.getfield 26, 3) := by decide +kernel
theorem dX6_thinkable_18 : decode cX6_thinkable 18 = .ok (.iload_n 1, 1) := by decide +kernel
theorem dX6_thinkable_19 : decode cX6_thinkable 19 = .ok (.invokevirtual 140, 3) := by decide +kernel
theorem dX6_thinkable_22 : decode cX6_thinkable 22 = .ok (.iconst 2, 1) := by decide +kernel
theorem dX6_thinkable_23 : decode cX6_thinkable 23 = .ok (.if_icmp .ne 6, 3) := by decide +kernel
theorem dX6_thinkable_26 : decode cX6_thinkable 26 = .ok (.ldc 146, 2) := by decide +kernel
theorem dX6_thinkable_28 : decode cX6_thinkable 28 = .ok (.ireturn, 1) := by decide +kernel
theorem dX6_thinkable_29 : decode cX6_thinkable 29 = .ok (.aload_n 0, 1) := by decide +kernel
theorem dX6_thinkable_30 : decode cX6_thinkable 30 = .ok (.getfield 26, 3) := by decide +kernel
theorem dX6_thinkable_33 : decode cX6_thinkable 33 = .ok (.aload_n 0, 1) := by decide +kernel
theorem dX6_thinkable_34 : decode cX6_thinkable 34 = .ok (.getfield 26, 3) := by decide +kernel
theorem dX6_thinkable_37 : decode cX6_thinkable 37 = .ok (.getfield 154, 3) := by decide +kernel
theorem dX6_thinkable_40 : decode cX6_thinkable 40 = .ok (.iload_n 1, 1) := by decide +kernel
theorem dX6_thinkable_41 : decode cX6_thinkable 41 = .ok (.iaload, 1) := by decide +kernel
theorem dX6_thinkable_42 : decode cX6_thinkable 42 = .ok (.aload_n 0, 1) := by decide +kernel
theorem dX6_thinkable_43 : decode cX6_thinkable 43 = .ok (.getfield 26, 3) := by decide +kernel
theorem dX6_thinkable_46 : decode cX6_thinkable 46 = .ok (.iload_n 1, 1) := by decide +kernel
theorem dX6_thinkable_47 : decode cX6_thinkable 47 = .ok (.invokevirtual 230, 3) := by decide +kernel
theorem dX6_thinkable_50 : decode cX6_thinkable 50 = .ok (.aload_n 0, 1) := by decide +kernel
theorem dX6_thinkable_51 : decode cX6_thinkable 51 = .ok (.getfield 26, 3) := by decide +kernel
theorem dX6_thinkable_54 : decode cX6_thinkable 54 = .ok (.iload_n 1, 1) := by decide +kernel
theorem dX6_thinkable_55 : decode cX6_thinkable 55 = .ok (.invokevirtual 237, 3) := by decide +kernel
theorem dX6_thinkable_58 : decode cX6_thinkable 58 = .ok (.invokestatic 248, 3) := by decide +kernel
theorem dX6_thinkable_61 : decode cX6_thinkable 61 = .ok (.ireturn, 1) := by decide +kernel
theorem dX6_chance_0 : decode cX6_chance 0 = .ok (.aload_n 0, 1) := by decide +kernel
theorem dX6_chance_1 : decode cX6_chance 1 = .ok (.getfield 26, 3) := by decide +kernel
theorem dX6_chance_4 : decode cX6_chance 4 = .ok (.iload_n 1, 1) := by decide +kernel
theorem dX6_chance_5 : decode cX6_chance 5 = .ok (.invokevirtual 134, 3) := by decide +kernel
theorem dX6_chance_8 : decode cX6_chance 8 = .ok (.ifCond .eq 19, 3) := by decide +kernel
theorem dX6_chance_11 : decode cX6_chance 11 = .ok (.iload_n 2, 1) := by decide +kernel
theorem dX6_chance_12 : decode cX6_chance 12 = .ok (.iconst 5, 1) := by decide +kernel
theorem dX6_chance_13 : decode cX6_chance 13 = .ok (.invokestatic 60, 3) := by decide +kernel
theorem dX6_chance_16 : decode cX6_chance 16 = .ok (.ifCond .eq 11, 3) := by decide +kernel
theorem dX6_chance_19 : decode cX6_chance 19 = .ok (.iload_n 3, 1) := by decide +kernel
theorem dX6_chance_20 : decode cX6_chance 20 = .ok (.iconst 2, 1) := by decide +kernel
theorem dX6_chance_21 : decode cX6_chance 21 = .ok (.invokestatic 60, 3) := by decide +kernel
theorem dX6_chance_24 : decode cX6_chance 24 = .ok (.ifCond .ne 6, 3) := by decide +kernel
theorem dX6_chance_27 : decode cX6_chance 27 = .ok (.ldc 64, 2) := by decide +kernel
theorem dX6_chance_29 : decode cX6_chance 29 = .ok (.ireturn, 1) := by decide +kernel
theorem dX6_chance_30 : decode cX6_chance 30 = .ok (.aload_n 0, 1) := by decide +kernel
theorem dX6_chance_31 : decode cX6_chance 31 = .ok (.getfield 26, 3) := by decide +kernel
theorem dX6_chance_34 : decode cX6_chance 34 = .ok (.iload_n 1, 1) := by decide +kernel
theorem dX6_chance_35 : decode cX6_chance 35 = .ok (.invokevirtual 140, 3) := by decide +kernel
theorem dX6_chance_38 : decode cX6_chance 38 = .ok (.iconst 2, 1) := by decide +kernel
theorem dX6_chance_39 : decode cX6_chance 39 = .ok (.if_icmp .ne 6, 3) := by decide +kernel
theorem dX6_chance_42 : decode cX6_chance 42 = .ok (.ldc 146, 2) := by decide +kernel
theorem dX6_chance_44 : decode cX6_chance 44 = .ok (.ireturn, 1) := by decide +kernel
theorem dX6_chance_45 : decode cX6_chance 45 = .ok (.aload_n 0, 1) := by decide +kernel
theorem dX6_chance_46 : decode cX6_chance 46 = .ok (.getfield 26, 3) := by decide +kernel
theorem dX6_chance_49 : decode cX6_chance 49 = .ok (.iload_n 1, 1) := by decide +kernel
theorem dX6_chance_50 : decode cX6_chance 50 = .ok (.invokevirtual 230, 3) := by decide +kernel
theorem dX6_chance_53 : decode cX6_chance 53 = .ok (.istore 4, 2) := by decide +kernel
theorem dX6_chance_55 : decode cX6_chance 55 = .ok (.iload_n 2, 1) := by decide +kernel
theorem dX6_chance_56 : decode cX6_chance 56 = .ok (.iload 4, 2) := by decide +kernel
theorem dX6_chance_58 : decode cX6_chance 58 = .ok (.invokestatic 167, 3) := by decide +kernel
theorem dX6_chance_61 : decode cX6_chance 61 = .ok (.if_icmp .gt 15, 3) := by decide +kernel
theorem dX6_chance_64 : decode cX6_chance 64 = .ok (.iload_n 2, 1) := by decide +kernel
theorem dX6_chance_65 : decode cX6_chance 65 = .ok (.aload_n 0, 1) := by decide +kernel
theorem dX6_chance_66 : decode cX6_chance 66 = .ok (.getfield 26, 3) := by decide +kernel
theorem dX6_chance_69 : decode cX6_chance 69 = .ok (.iload_n 1, 1) := by decide +kernel
theorem dX6_chance_70 : decode cX6_chance 70 = .ok (.invokevirtual 237, 3) := by decide +kernel
theorem dX6_chance_73 : decode cX6_chance 73 = .ok (.if_icmp .le 6, 3) := by decide +kernel
theorem dX6_chance_76 : decode cX6_chance 76 = .ok (.ldc 243, 2) := by decide +kernel
theorem dX6_chance_78 : decode cX6_chance 78 = .ok (.ireturn, 1) := by decide +kernel
theorem dX6_chance_79 : decode cX6_chance 79 = .ok (.aload_n 0, 1) := by decide +kernel
theorem dX6_chance_80 : decode cX6_chance 80 = .ok (.getfield 26, 3) := by decide +kernel
theorem dX6_chance_83 : decode cX6_chance 83 = .ok (.aload_n 0, 1) := by decide +kernel
theorem dX6_chance_84 : decode cX6_chance 84 = .ok (.getfield 26, 3) := by decide +kernel
theorem dX6_chance_87 : decode cX6_chance 87 = .ok (.getfield 154, 3) := by decide +kernel
theorem dX6_chance_90 : decode cX6_chance 90 = .ok (.iload_n 1, 1) := by decide +kernel
theorem dX6_chance_91 : decode cX6_chance 91 = .ok (.iaload, 1) := by decide +kernel
theorem dX6_chance_92 : decode cX6_chance 92 = .ok (.iload 4, 2) := by decide +kernel
theorem dX6_chance_94 : decode cX6_chance 94 = .ok (.iload_n 2, 1) := by decide +kernel
theorem dX6_chance_95 : decode cX6_chance 95 = .ok (.invokestatic 251, 3) := by decide +kernel
theorem dX6_chance_98 : decode cX6_chance 98 = .ok (.istore 5, 2) := by decide +kernel
theorem dX6_chance_100 : decode cX6_chance 100 = .ok (.iload 4, 2) := by decide +kernel
theorem dX6_chance_102 : decode cX6_chance 102 = .ok (.invokestatic 167, 3) := by decide +kernel
theorem dX6_chance_105 : decode cX6_chance 105 = .ok (.iload_n 2, 1) := by decide +kernel
theorem dX6_chance_106 : decode cX6_chance 106 = .ok (.invokestatic 254, 3) := by decide +kernel
theorem dX6_chance_109 : decode cX6_chance 109 = .ok (.istore 6, 2) := by decide +kernel
theorem dX6_chance_111 : decode cX6_chance 111 = .ok (.iload 5, 2) := by decide +kernel
theorem dX6_chance_113 : decode cX6_chance 113 = .ok (.iload 6, 2) := by decide +kernel
theorem dX6_chance_115 : decode cX6_chance 115 = .ok (.invokestatic 257, 3) := by decide +kernel
theorem dX6_chance_118 : decode cX6_chance 118 = .ok (.istore 7, 2) := by decide +kernel
theorem dX6_chance_120 : decode cX6_chance 120 = .ok (.iload_n 3, 1) := by decide +kernel
theorem dX6_chance_121 : decode cX6_chance 121 = .ok (.ifCond .ne 8, 3) := by decide +kernel
theorem dX6_chance_124 : decode cX6_chance 124 = .ok (.iload 5, 2) := by decide +kernel
theorem dX6_chance_126 : decode cX6_chance 126 = .ok (.goto 5, 3) := by decide +kernel
theorem dX6_chance_129 : decode cX6_chance 129 = .ok (.iload 6, 2) := by decide +kernel
theorem dX6_chance_131 : decode cX6_chance 131 = .ok (.iload 7, 2) := by decide +kernel
theorem dX6_chance_133 : decode cX6_chance 133 = .ok (.idiv, 1) := by decide +kernel
theorem dX6_chance_134 : decode cX6_chance 134 = .ok (.ireturn, 1) := by decide +kernel
theorem dX6_taught_0 : decode cX6_taught 0 = .ok (.aload_n 0, 1) := by decide +kernel
theorem dX6_taught_1 : decode cX6_taught 1 = .ok (.getfield 26, 3) := by decide +kernel
theorem dX6_taught_4 : decode cX6_taught 4 = .ok (.iload_n 1, 1) := by decide +kernel
theorem dX6_taught_5 : decode cX6_taught 5 = .ok (.invokevirtual 134, 3) := by decide +kernel
theorem dX6_taught_8 : decode cX6_taught 8 = .ok (.ifCond .ne 6, 3) := by decide +kernel
theorem dX6_taught_11 : decode cX6_taught 11 = .ok (.ldc 64, 2) := by decide +kernel
theorem dX6_taught_13 : decode cX6_taught 13 = .ok (.ireturn, 1) := by decide +kernel
theorem dX6_taught_14 : decode cX6_taught 14 = .ok (.iconst 0, 1) := by decide +kernel
theorem dX6_taught_15 : decode cX6_taught 15 = .ok (.aload_n 0, 1) := by decide +kernel
theorem dX6_taught_16 : decode cX6_taught 16 = .ok (.getfield 26, 3) := by decide +kernel
theorem dX6_taught_19 : decode cX6_taught 19 = .ok (.getfield 215, 3) := by decide +kernel
theorem dX6_taught_22 : decode cX6_taught 22 = .ok (.iload_n 1, 1) := by decide +kernel
theorem dX6_taught_23 : decode cX6_taught 23 = .ok (.iaload, 1) := by decide +kernel
theorem dX6_taught_24 : decode cX6_taught 24 = .ok (.aload_n 0, 1) := by decide +kernel
theorem dX6_taught_25 : decode cX6_taught 25 = .ok (.getfield 26, 3) := by decide +kernel
theorem dX6_taught_28 : decode cX6_taught 28 = .ok (.getfield 184, 3) := by decide +kernel
theorem dX6_taught_31 : decode cX6_taught 31 = .ok (.iload_n 1, 1) := by decide +kernel
theorem dX6_taught_32 : decode cX6_taught 32 = .ok (.iaload, 1) := by decide +kernel
theorem dX6_taught_33 : decode cX6_taught 33 = .ok (.isub, 1) := by decide +kernel
theorem dX6_taught_34 : decode cX6_taught 34 = .ok (.invokestatic 193, 3) := by decide +kernel
theorem dX6_taught_37 : decode cX6_taught 37 = .ok (.ireturn, 1) := by decide +kernel
theorem dX6_bestGuest_0 : decode cX6_bestGuest 0 = .ok (.aload_n 0, 1) := by decide +kernel
theorem dX6_bestGuest_1 : decode cX6_bestGuest 1 = .ok (.getfield 26, 3) := by decide +kernel
theorem dX6_bestGuest_4 : decode cX6_bestGuest 4 = .ok (.getfield 120, 3) := by decide +kernel
theorem dX6_bestGuest_7 : decode cX6_bestGuest 7 = .ok (.ifCond .ne 6, 3) := by decide +kernel
theorem dX6_bestGuest_10 : decode cX6_bestGuest 10 = .ok (.ldc 146, 2) := by decide +kernel
theorem dX6_bestGuest_12 : decode cX6_bestGuest 12 = .ok (.ireturn, 1) := by decide +kernel
theorem dX6_bestGuest_13 : decode cX6_bestGuest 13 = .ok (.iload_n 1, 1) := by decide +kernel
theorem dX6_bestGuest_14 : decode cX6_bestGuest 14 = .ok (.iconst 2, 1) := by decide +kernel
theorem dX6_bestGuest_15 : decode cX6_bestGuest 15 = .ok (.invokestatic 60, 3) := by decide +kernel
theorem dX6_bestGuest_18 : decode cX6_bestGuest 18 = .ok (.ifCond .ne 6, 3) := by decide +kernel
theorem dX6_bestGuest_21 : decode cX6_bestGuest 21 = .ok (.ldc 64, 2) := by decide +kernel
theorem dX6_bestGuest_23 : decode cX6_bestGuest 23 = .ok (.ireturn, 1) := by decide +kernel
theorem dX6_bestGuest_24 : decode cX6_bestGuest 24 = .ok (.aload_n 0, 1) := by decide +kernel
theorem dX6_bestGuest_25 : decode cX6_bestGuest 25 = .ok (.getfield 49, 3) := by decide +kernel
theorem dX6_bestGuest_28 : decode cX6_bestGuest 28 = .ok (.aload_n 0, 1) := by decide +kernel
theorem dX6_bestGuest_29 : decode cX6_bestGuest 29 = .ok (.getfield 26, 3) := by decide +kernel
theorem dX6_bestGuest_32 : decode cX6_bestGuest 32 = .ok (.iload_n 1, 1) := by decide +kernel
theorem dX6_bestGuest_33 : decode cX6_bestGuest 33 = .ok (.ifCond .ne 7, 3) := by decide +kernel
theorem dX6_bestGuest_36 : decode cX6_bestGuest 36 = .ok (.iconst 1, 1) := by decide +kernel
theorem dX6_bestGuest_37 : decode cX6_bestGuest 37 = .ok (.goto 4, 3) := by decide +kernel
theorem dX6_bestGuest_40 : decode cX6_bestGuest 40 = .ok (.iconst 0, 1) := by decide +kernel
theorem dX6_bestGuest_41 : decode cX6_bestGuest 41 = .ok (.invokevirtual 260, 3) := by decide +kernel
theorem dX6_bestGuest_44 : decode cX6_bestGuest 44 = .ok (.ireturn, 1) := by decide +kernel
theorem dX6_cover_0 : decode cX6_cover 0 = .ok (.aload_n 0, 1) := by decide +kernel
theorem dX6_cover_1 : decode cX6_cover 1 = .ok (.getfield 26, 3) := by decide +kernel
theorem dX6_cover_4 : decode cX6_cover 4 = .ok (.getfield 120, 3) := by decide +kernel
theorem dX6_cover_7 : decode cX6_cover 7 = .ok (.ifCond .ne 6, 3) := by decide +kernel
theorem dX6_cover_10 : decode cX6_cover 10 = .ok (.ldc 146, 2) := by decide +kernel
theorem dX6_cover_12 : decode cX6_cover 12 = .ok (.ireturn, 1) := by decide +kernel
theorem dX6_cover_13 : decode cX6_cover 13 = .ok (.iload_n 1, 1) := by decide +kernel
theorem dX6_cover_14 : decode cX6_cover 14 = .ok (.iconst 2, 1) := by decide +kernel
theorem dX6_cover_15 : decode cX6_cover 15 = .ok (.invokestatic 60, 3) := by decide +kernel
theorem dX6_cover_18 : decode cX6_cover 18 = .ok (.ifCond .ne 6, 3) := by decide +kernel
theorem dX6_cover_21 : decode cX6_cover 21 = .ok (.ldc 64, 2) := by decide +kernel
theorem dX6_cover_23 : decode cX6_cover 23 = .ok (.ireturn, 1) := by decide +kernel
theorem dX6_cover_24 : decode cX6_cover 24 = .ok (.aload_n 0, 1) := by decide +kernel
theorem dX6_cover_25 : decode cX6_cover 25 = .ok (.getfield 49, 3) := by decide +kernel
theorem dX6_cover_28 : decode cX6_cover 28 = .ok (.aload_n 0, 1) := by decide +kernel
theorem dX6_cover_29 : decode cX6_cover 29 = .ok (.getfield 26, 3) := by decide +kernel
theorem dX6_cover_32 : decode cX6_cover 32 = .ok (.invokevirtual 264, 3) := by decide +kernel
theorem dX6_cover_35 : decode cX6_cover 35 = .ok (.istore_n 2, 1) := by decide +kernel
theorem dX6_cover_36 : decode cX6_cover 36 = .ok (.iload_n 2, 1) := by decide +kernel
theorem dX6_cover_37 : decode cX6_cover 37 = .ok (.ldc 243, 2) := by decide +kernel
theorem dX6_cover_39 : decode cX6_cover 39 = .ok (.if_icmp .eq 8, 3) := by decide +kernel
theorem dX6_cover_42 : decode cX6_cover 42 = .ok (.iload_n 1, 1) := by decide +kernel
theorem dX6_cover_43 : decode cX6_cover 43 = .ok (.iconst 1, 1) := by decide +kernel
theorem dX6_cover_44 : decode cX6_cover 44 = .ok (.if_icmp .ne 7, 3) := by decide +kernel
theorem dX6_cover_47 : decode cX6_cover 47 = .ok (.iload_n 2, 1) := by decide +kernel
theorem dX6_cover_48 : decode cX6_cover 48 = .ok (.goto 7, 3) := by decide +kernel
theorem dX6_cover_51 : decode cX6_cover 51 = .ok (.iload_n 2, 1) := by decide +kernel
theorem dX6_cover_52 : decode cX6_cover 52 = .ok (.invokestatic 167, 3) := by decide +kernel
theorem dX6_cover_55 : decode cX6_cover 55 = .ok (.ireturn, 1) := by decide +kernel
theorem dX6_spoilt_0 : decode cX6_spoilt 0 = .ok (.aload_n 0, 1) := by decide +kernel
theorem dX6_spoilt_1 : decode cX6_spoilt 1 = .ok (.getfield 26, 3) := by decide +kernel
theorem dX6_spoilt_4 : decode cX6_spoilt 4 = .ok (.getfield 120, 3) := by decide +kernel
theorem dX6_spoilt_7 : decode cX6_spoilt 7 = .ok (.ifCond .ne 6, 3) := by decide +kernel
theorem dX6_spoilt_10 : decode cX6_spoilt 10 = .ok (.ldc 146, 2) := by decide +kernel
theorem dX6_spoilt_12 : decode cX6_spoilt 12 = .ok (.ireturn, 1) := by decide +kernel
theorem dX6_spoilt_13 : decode cX6_spoilt 13 = .ok (.iload_n 1, 1) := by decide +kernel
theorem dX6_spoilt_14 : decode cX6_spoilt 14 = .ok (.iconst 2, 1) := by decide +kernel
theorem dX6_spoilt_15 : decode cX6_spoilt 15 = .ok (.invokestatic 60, 3) := by decide +kernel
theorem dX6_spoilt_18 : decode cX6_spoilt 18 = .ok (.ifCond .ne 6, 3) := by decide +kernel
theorem dX6_spoilt_21 : decode cX6_spoilt 21 = .ok (.ldc 64, 2) := by decide +kernel
theorem dX6_spoilt_23 : decode cX6_spoilt 23 = .ok (.ireturn, 1) := by decide +kernel
theorem dX6_spoilt_24 : decode cX6_spoilt 24 = .ok (.aload_n 0, 1) := by decide +kernel
theorem dX6_spoilt_25 : decode cX6_spoilt 25 = .ok (.getfield 49, 3) := by decide +kernel
theorem dX6_spoilt_28 : decode cX6_spoilt 28 = .ok (.aload_n 0, 1) := by decide +kernel
theorem dX6_spoilt_29 : decode cX6_spoilt 29 = .ok (.getfield 26, 3) := by decide +kernel
theorem dX6_spoilt_32 : decode cX6_spoilt 32 = .ok (.iload_n 1, 1) := by decide +kernel
theorem dX6_spoilt_33 : decode cX6_spoilt 33 = .ok (.ifCond .ne 7, 3) := by decide +kernel
theorem dX6_spoilt_36 : decode cX6_spoilt 36 = .ok (.iconst 1, 1) := by decide +kernel
theorem dX6_spoilt_37 : decode cX6_spoilt 37 = .ok (.goto 4, 3) := by decide +kernel
theorem dX6_spoilt_40 : decode cX6_spoilt 40 = .ok (.iconst 0, 1) := by decide +kernel
theorem dX6_spoilt_41 : decode cX6_spoilt 41 = .ok (.invokevirtual 268, 3) := by decide +kernel
theorem dX6_spoilt_44 : decode cX6_spoilt 44 = .ok (.ireturn, 1) := by decide +kernel
theorem dX6_nearly_0 : decode cX6_nearly 0 = .ok (.aload_n 0, 1) := by decide +kernel
theorem dX6_nearly_1 : decode cX6_nearly 1 = .ok (.getfield 26, 3) := by decide +kernel
theorem dX6_nearly_4 : decode cX6_nearly 4 = .ok (.getfield 120, 3) := by decide +kernel
theorem dX6_nearly_7 : decode cX6_nearly 7 = .ok (.ifCond .ne 6, 3) := by decide +kernel
theorem dX6_nearly_10 : decode cX6_nearly 10 = .ok (.ldc 146, 2) := by decide +kernel
theorem dX6_nearly_12 : decode cX6_nearly 12 = .ok (.ireturn, 1) := by decide +kernel
theorem dX6_nearly_13 : decode cX6_nearly 13 = .ok (.iload_n 1, 1) := by decide +kernel
theorem dX6_nearly_14 : decode cX6_nearly 14 = .ok (.bipush 8, 2) := by decide +kernel
theorem dX6_nearly_16 : decode cX6_nearly 16 = .ok (.invokestatic 60, 3) := by decide +kernel
theorem dX6_nearly_19 : decode cX6_nearly 19 = .ok (.ifCond .eq 12, 3) := by decide +kernel
theorem dX6_nearly_22 : decode cX6_nearly 22 = .ok (.iload_n 3, 1) := by decide +kernel
theorem dX6_nearly_23 : decode cX6_nearly 23 = .ok (.bipush 9, 2) := by decide +kernel
theorem dX6_nearly_25 : decode cX6_nearly 25 = .ok (.invokestatic 60, 3) := by decide +kernel
theorem dX6_nearly_28 : decode cX6_nearly 28 = .ok (.ifCond .ne 6, 3) := by decide +kernel
theorem dX6_nearly_31 : decode cX6_nearly 31 = .ok (.ldc 64, 2) := by decide +kernel
theorem dX6_nearly_33 : decode cX6_nearly 33 = .ok (.ireturn, 1) := by decide +kernel
theorem dX6_nearly_34 : decode cX6_nearly 34 = .ok (.aload_n 0, 1) := by decide +kernel
theorem dX6_nearly_35 : decode cX6_nearly 35 = .ok (.getfield 10, 3) := by decide +kernel
theorem dX6_nearly_38 : decode cX6_nearly 38 = .ok (.iload_n 1, 1) := by decide +kernel
theorem dX6_nearly_39 : decode cX6_nearly 39 = .ok (.invokevirtual 76, 3) := by decide +kernel
theorem dX6_nearly_42 : decode cX6_nearly 42 = .ok (.ifCond .eq 9, 3) := by decide +kernel
theorem dX6_nearly_45 : decode cX6_nearly 45 = .ok (.aload_n 0, 1) := by decide +kernel
theorem dX6_nearly_46 : decode cX6_nearly 46 = .ok (.iconst 1, 1) := by decide +kernel
theorem dX6_nearly_47 : decode cX6_nearly 47 = .ok (.invokevirtual 65, 3) := by decide +kernel
theorem dX6_nearly_50 : decode cX6_nearly 50 = .ok (.ireturn, 1) := by decide +kernel
theorem dX6_nearly_51 : decode cX6_nearly 51 = .ok (.aload_n 0, 1) := by decide +kernel
theorem dX6_nearly_52 : decode cX6_nearly 52 = .ok (.getfield 10, 3) := by decide +kernel
theorem dX6_nearly_55 : decode cX6_nearly 55 = .ok (.iload_n 1, 1) := by decide +kernel
theorem dX6_nearly_56 : decode cX6_nearly 56 = .ok (.iload_n 2, 1) := by decide +kernel
theorem dX6_nearly_57 : decode cX6_nearly 57 = .ok (.iload_n 3, 1) := by decide +kernel
theorem dX6_nearly_58 : decode cX6_nearly 58 = .ok (.invokevirtual 80, 3) := by decide +kernel
theorem dX6_nearly_61 : decode cX6_nearly 61 = .ok (.ifCond .ne 9, 3) := by decide +kernel
theorem dX6_nearly_64 : decode cX6_nearly 64 = .ok (.aload_n 0, 1) := by decide +kernel
theorem dX6_nearly_65 : decode cX6_nearly 65 = .ok (.iconst 2, 1) := by decide +kernel
theorem dX6_nearly_66 : decode cX6_nearly 66 = .ok (.invokevirtual 65, 3) := by decide +kernel
theorem dX6_nearly_69 : decode cX6_nearly 69 = .ok (.ireturn, 1) := by decide +kernel
theorem dX6_nearly_70 : decode cX6_nearly 70 = .ok (.iconst 0, 1) := by decide +kernel
theorem dX6_nearly_71 : decode cX6_nearly 71 = .ok (.istore 4, 2) := by decide +kernel
theorem dX6_nearly_73 : decode cX6_nearly 73 = .ok (.iload 4, 2) := by decide +kernel
theorem dX6_nearly_75 : decode cX6_nearly 75 = .ok (.iload_n 3, 1) := by decide +kernel
theorem dX6_nearly_76 : decode cX6_nearly 76 = .ok (.if_icmp .ge 34, 3) := by decide +kernel
theorem dX6_nearly_79 : decode cX6_nearly 79 = .ok (.aload_n 0, 1) := by decide +kernel
theorem dX6_nearly_80 : decode cX6_nearly 80 = .ok (.getfield 26, 3) := by decide +kernel
theorem dX6_nearly_83 : decode cX6_nearly 83 = .ok (.aload_n 0, 1) := by decide +kernel
theorem dX6_nearly_84 : decode cX6_nearly 84 = .ok (.getfield 10, 3) := by decide +kernel
theorem dX6_nearly_87 : decode cX6_nearly 87 = .ok (.iload_n 1, 1) := by decide +kernel
theorem dX6_nearly_88 : decode cX6_nearly 88 = .ok (.iload_n 2, 1) := by decide +kernel
theorem dX6_nearly_89 : decode cX6_nearly 89 = .ok (.iload 4, 2) := by decide +kernel
theorem dX6_nearly_91 : decode cX6_nearly 91 = .ok (.iadd, 1) := by decide +kernel
theorem dX6_nearly_92 : decode cX6_nearly 92 = .ok (.invokevirtual 271, 3) := by decide +kernel
theorem dX6_nearly_95 : decode cX6_nearly 95 = .ok (.invokevirtual 158, 3) := by decide +kernel
theorem dX6_nearly_98 : decode cX6_nearly 98 = .ok (.ifCond .ne 6, 3) := by decide +kernel
theorem dX6_nearly_101 : decode cX6_nearly 101 = .ok (.ldc 64, 2) := by decide +kernel
theorem dX6_nearly_103 : decode cX6_nearly 103 = .ok (.ireturn, 1) := by decide +kernel
theorem dX6_nearly_104 : decode cX6_nearly 104 = .ok (.iinc 4 1, 3) := by decide +kernel
theorem dX6_nearly_107 : decode cX6_nearly 107 = .ok (.goto (-34), 3) := by decide +kernel
theorem dX6_nearly_110 : decode cX6_nearly 110 = .ok (.aload_n 0, 1) := by decide +kernel
theorem dX6_nearly_111 : decode cX6_nearly 111 = .ok (.aload_n 0, 1) := by decide +kernel
theorem dX6_nearly_112 : decode cX6_nearly 112 = .ok (.getfield 26, 3) := by decide +kernel
theorem dX6_nearly_115 : decode cX6_nearly 115 = .ok (.aload_n 0, 1) := by decide +kernel
theorem dX6_nearly_116 : decode cX6_nearly 116 = .ok (.getfield 10, 3) := by decide +kernel
theorem dX6_nearly_119 : decode cX6_nearly 119 = .ok (.iload_n 1, 1) := by decide +kernel
theorem dX6_nearly_120 : decode cX6_nearly 120 = .ok (.iload_n 2, 1) := by decide +kernel
theorem dX6_nearly_121 : decode cX6_nearly 121 = .ok (.iload_n 3, 1) := by decide +kernel
theorem dX6_nearly_122 : decode cX6_nearly 122 = .ok (.invokestatic 274, 3) := by decide +kernel
theorem dX6_nearly_125 : decode cX6_nearly 125 = .ok (.invokevirtual 73, 3) := by decide +kernel
theorem dX6_nearly_128 : decode cX6_nearly 128 = .ok (.ireturn, 1) := by decide +kernel
theorem dX6_image_0 : decode cX6_image 0 = .ok (.iload_n 1, 1) := by decide +kernel
theorem dX6_image_1 : decode cX6_image 1 = .ok (.iconst 2, 1) := by decide +kernel
theorem dX6_image_2 : decode cX6_image 2 = .ok (.invokestatic 60, 3) := by decide +kernel
theorem dX6_image_5 : decode cX6_image 5 = .ok (.ifCond .ne 6, 3) := by decide +kernel
theorem dX6_image_8 : decode cX6_image 8 = .ok (.ldc 64, 2) := by decide +kernel
theorem dX6_image_10 : decode cX6_image 10 = .ok (.ireturn, 1) := by decide +kernel
theorem dX6_image_11 : decode cX6_image 11 = .ok (.aload_n 0, 1) := by decide +kernel
theorem dX6_image_12 : decode cX6_image 12 = .ok (.getfield 26, 3) := by decide +kernel
theorem dX6_image_15 : decode cX6_image 15 = .ok (.getfield 120, 3) := by decide +kernel
theorem dX6_image_18 : decode cX6_image 18 = .ok (.ifCond .ne 6, 3) := by decide +kernel
theorem dX6_image_21 : decode cX6_image 21 = .ok (.ldc 146, 2) := by decide +kernel
theorem dX6_image_23 : decode cX6_image 23 = .ok (.ireturn, 1) := by decide +kernel
theorem dX6_image_24 : decode cX6_image 24 = .ok (.aload_n 0, 1) := by decide +kernel
theorem dX6_image_25 : decode cX6_image 25 = .ok (.iload_n 1, 1) := by decide +kernel
theorem dX6_image_26 : decode cX6_image 26 = .ok (.invokevirtual 278, 3) := by decide +kernel
theorem dX6_image_29 : decode cX6_image 29 = .ok (.aload_n 0, 1) := by decide +kernel
theorem dX6_image_30 : decode cX6_image 30 = .ok (.getfield 26, 3) := by decide +kernel
theorem dX6_image_33 : decode cX6_image 33 = .ok (.invokevirtual 124, 3) := by decide +kernel
theorem dX6_image_36 : decode cX6_image 36 = .ok (.iconst 1, 1) := by decide +kernel
theorem dX6_image_37 : decode cX6_image 37 = .ok (.ireturn, 1) := by decide +kernel
theorem dX6_restore_0 : decode cX6_restore 0 = .ok (.iload_n 1, 1) := by decide +kernel
theorem dX6_restore_1 : decode cX6_restore 1 = .ok (.iconst 2, 1) := by decide +kernel
theorem dX6_restore_2 : decode cX6_restore 2 = .ok (.invokestatic 60, 3) := by decide +kernel
theorem dX6_restore_5 : decode cX6_restore 5 = .ok (.ifCond .ne 6, 3) := by decide +kernel
theorem dX6_restore_8 : decode cX6_restore 8 = .ok (.ldc 64, 2) := by decide +kernel
theorem dX6_restore_10 : decode cX6_restore 10 = .ok (.ireturn, 1) := by decide +kernel
theorem dX6_restore_11 : decode cX6_restore 11 = .ok (.aload_n 0, 1) := by decide +kernel
theorem dX6_restore_12 : decode cX6_restore 12 = .ok (.iload_n 1, 1) := by decide +kernel
theorem dX6_restore_13 : decode cX6_restore 13 = .ok (.invokevirtual 278, 3) := by decide +kernel
theorem dX6_restore_16 : decode cX6_restore 16 = .ok (.getfield 120, 3) := by decide +kernel
theorem dX6_restore_19 : decode cX6_restore 19 = .ok (.ifCond .ne 6, 3) := by decide +kernel
theorem dX6_restore_22 : decode cX6_restore 22 = .ok (.ldc 146, 2) := by decide +kernel
theorem dX6_restore_24 : decode cX6_restore 24 = .ok (.ireturn, 1) := by decide +kernel
theorem dX6_restore_25 : decode cX6_restore 25 = .ok (.aload_n 0, 1) := by decide +kernel
theorem dX6_restore_26 : decode cX6_restore 26 = .ok (.getfield 26, 3) := by decide +kernel
theorem dX6_restore_29 : decode cX6_restore 29 = .ok (.aload_n 0, 1) := by decide +kernel
theorem dX6_restore_30 : decode cX6_restore 30 = .ok (.iload_n 1, 1) := by decide +kernel
theorem dX6_restore_31 : decode cX6_restore 31 = .ok (.invokevirtual 278, 3) := by decide +kernel
theorem dX6_restore_34 : decode cX6_restore 34 = .ok (.invokevirtual 124, 3) := by decide +kernel
theorem dX6_restore_37 : decode cX6_restore 37 = .ok (.aload_n 0, 1) := by decide +kernel
theorem dX6_restore_38 : decode cX6_restore 38 = .ok (.getfield 42, 3) := by decide +kernel
theorem dX6_restore_41 : decode cX6_restore 41 = .ok (.invokevirtual 128, 3) := by decide +kernel
theorem dX6_restore_44 : decode cX6_restore 44 = .ok (.iconst 1, 1) := by decide +kernel
theorem dX6_restore_45 : decode cX6_restore 45 = .ok (.ireturn, 1) := by decide +kernel
theorem dX6_kind_0 : decode cX6_kind 0 = .ok (.aload_n 0, 1) := by decide +kernel
theorem dX6_kind_1 : decode cX6_kind 1 = .ok (.getfield 26, 3) := by decide +kernel
theorem dX6_kind_4 : decode cX6_kind 4 = .ok (.iload_n 1, 1) := by decide +kernel
theorem dX6_kind_5 : decode cX6_kind 5 = .ok (.invokevirtual 158, 3) := by decide +kernel
theorem dX6_kind_8 : decode cX6_kind 8 = .ok (.ifCond .eq 15, 3) := by decide +kernel
theorem dX6_kind_11 : decode cX6_kind 11 = .ok (.aload_n 0, 1) := by decide +kernel
theorem dX6_kind_12 : decode cX6_kind 12 = .ok (.getfield 26, 3) := by decide +kernel
theorem dX6_kind_15 : decode cX6_kind 15 = .ok (.getfield 282, 3) := by decide +kernel
theorem dX6_kind_18 : decode cX6_kind 18 = .ok (.iload_n 1, 1) := by decide +kernel
theorem dX6_kind_19 : decode cX6_kind 19 = .ok (.iaload, 1) := by decide +kernel
theorem dX6_kind_20 : decode cX6_kind 20 = .ok (.goto 5, 3) := by decide +kernel
theorem dX6_kind_23 : decode cX6_kind 23 = .ok (.ldc 64, 2) := by decide +kernel
theorem dX6_kind_25 : decode cX6_kind 25 = .ok (.ireturn, 1) := by decide +kernel
theorem dX6_as_0 : decode cX6_as 0 = .ok (.aload_n 0, 1) := by decide +kernel
theorem dX6_as_1 : decode cX6_as 1 = .ok (.getfield 26, 3) := by decide +kernel
theorem dX6_as_4 : decode cX6_as 4 = .ok (.iload_n 1, 1) := by decide +kernel
theorem dX6_as_5 : decode cX6_as 5 = .ok (.invokevirtual 158, 3) := by decide +kernel
theorem dX6_as_8 : decode cX6_as 8 = .ok (.ifCond .eq 12, 3) := by decide +kernel
theorem dX6_as_11 : decode cX6_as 11 = .ok (.iload_n 2, 1) := by decide +kernel
theorem dX6_as_12 : decode cX6_as 12 = .ok (.bipush 6, 2) := by decide +kernel
theorem dX6_as_14 : decode cX6_as 14 = .ok (.invokestatic 60, 3) := by decide +kernel
theorem dX6_as_17 : decode cX6_as 17 = .ok (.ifCond .ne 6, 3) := by decide +kernel
theorem dX6_as_20 : decode cX6_as 20 = .ok (.ldc 64, 2) := by decide +kernel
theorem dX6_as_22 : decode cX6_as 22 = .ok (.ireturn, 1) := by decide +kernel
theorem dX6_as_23 : decode cX6_as 23 = .ok (.aload_n 0, 1) := by decide +kernel
theorem dX6_as_24 : decode cX6_as 24 = .ok (.getfield 26, 3) := by decide +kernel
theorem dX6_as_27 : decode cX6_as 27 = .ok (.getfield 282, 3) := by decide +kernel
theorem dX6_as_30 : decode cX6_as 30 = .ok (.iload_n 1, 1) := by decide +kernel
theorem dX6_as_31 : decode cX6_as 31 = .ok (.iaload, 1) := by decide +kernel
theorem dX6_as_32 : decode cX6_as 32 = .ok (.iload_n 2, 1) := by decide +kernel
theorem dX6_as_33 : decode cX6_as 33 = .ok (.invokestatic 285, 3) := by decide +kernel
theorem dX6_as_36 : decode cX6_as 36 = .ok (.ifCond .ne 9, 3) := by decide +kernel
theorem dX6_as_39 : decode cX6_as 39 = .ok (.aload_n 0, 1) := by decide +kernel
theorem dX6_as_40 : decode cX6_as 40 = .ok (.iconst 3, 1) := by decide +kernel
theorem dX6_as_41 : decode cX6_as 41 = .ok (.invokevirtual 65, 3) := by decide +kernel
theorem dX6_as_44 : decode cX6_as 44 = .ok (.ireturn, 1) := by decide +kernel
theorem dX6_as_45 : decode cX6_as 45 = .ok (.aload_n 0, 1) := by decide +kernel
theorem dX6_as_46 : decode cX6_as 46 = .ok (.iload_n 1, 1) := by decide +kernel
theorem dX6_as_47 : decode cX6_as 47 = .ok (.invokevirtual 73, 3) := by decide +kernel
theorem dX6_as_50 : decode cX6_as 50 = .ok (.ireturn, 1) := by decide +kernel
theorem dX6_ask_0 : decode cX6_ask 0 = .ok (.aload_n 0, 1) := by decide +kernel
theorem dX6_ask_1 : decode cX6_ask 1 = .ok (.getfield 26, 3) := by decide +kernel
theorem dX6_ask_4 : decode cX6_ask 4 = .ok (.iload_n 1, 1) := by decide +kernel
theorem dX6_ask_5 : decode cX6_ask 5 = .ok (.invokevirtual 158, 3) := by decide +kernel
theorem dX6_ask_8 : decode cX6_ask 8 = .ok (.ifCond .eq 11, 3) := by decide +kernel
theorem dX6_ask_11 : decode cX6_ask 11 = .ok (.iload_n 2, 1) := by decide +kernel
theorem dX6_ask_12 : decode cX6_ask 12 = .ok (.iconst 2, 1) := by decide +kernel
theorem dX6_ask_13 : decode cX6_ask 13 = .ok (.invokestatic 60, 3) := by decide +kernel
theorem dX6_ask_16 : decode cX6_ask 16 = .ok (.ifCond .ne 6, 3) := by decide +kernel
theorem dX6_ask_19 : decode cX6_ask 19 = .ok (.ldc 64, 2) := by decide +kernel
theorem dX6_ask_21 : decode cX6_ask 21 = .ok (.ireturn, 1) := by decide +kernel
theorem dX6_ask_22 : decode cX6_ask 22 = .ok (.aload_n 0, 1) := by decide +kernel
theorem dX6_ask_23 : decode cX6_ask 23 = .ok (.getfield 56, 3) := by decide +kernel
theorem dX6_ask_26 : decode cX6_ask 26 = .ok (.aload_n 0, 1) := by decide +kernel
theorem dX6_ask_27 : decode cX6_ask 27 = .ok (.getfield 26, 3) := by decide +kernel
theorem dX6_ask_30 : decode cX6_ask 30 = .ok (.iload_n 1, 1) := by decide +kernel
theorem dX6_ask_31 : decode cX6_ask 31 = .ok (.iload_n 2, 1) := by decide +kernel
theorem dX6_ask_32 : decode cX6_ask 32 = .ok (.invokevirtual 288, 3) := by decide +kernel
theorem dX6_ask_35 : decode cX6_ask 35 = .ok (.ireturn, 1) := by decide +kernel
theorem dX6_trace_0 : decode cX6_trace 0 = .ok (.iload_n 1, 1) := by decide +kernel
theorem dX6_trace_1 : decode cX6_trace 1 = .ok (.aload_n 0, 1) := by decide +kernel
theorem dX6_trace_2 : decode cX6_trace 2 = .ok (.getfield 56, 3) := by decide +kernel
theorem dX6_trace_5 : decode cX6_trace 5 = .ok (.getfield 292, 3) := by decide +kernel
theorem dX6_trace_8 : decode cX6_trace 8 = .ok (.invokestatic 60, 3) := by decide +kernel
theorem dX6_trace_11 : decode cX6_trace 11 = .ok (.ifCond .eq 15, 3) := by decide +kernel
theorem dX6_trace_14 : decode cX6_trace 14 = .ok (.aload_n 0, 1) := by decide +kernel
theorem dX6_trace_15 : decode cX6_trace 15 = .ok (.getfield 56, 3) := by decide +kernel
theorem dX6_trace_18 : decode cX6_trace 18 = .ok (.getfield 293, 3) := by decide +kernel
theorem dX6_trace_21 : decode cX6_trace 21 = .ok (.iload_n 1, 1) := by decide +kernel
theorem dX6_trace_22 : decode cX6_trace 22 = .ok (.iaload, 1) := by decide +kernel
theorem dX6_trace_23 : decode cX6_trace 23 = .ok (.goto 5, 3) := by decide +kernel
theorem dX6_trace_26 : decode cX6_trace 26 = .ok (.ldc 243, 2) := by decide +kernel
theorem dX6_trace_28 : decode cX6_trace 28 = .ok (.ireturn, 1) := by decide +kernel
theorem dX6_count_0 : decode cX6_count 0 = .ok (.iload_n 1, 1) := by decide +kernel
theorem dX6_count_1 : decode cX6_count 1 = .ok (.tableswitch 134 0 8 #[51, 59, 67, 75, 83, 99, 107, 118, 126], 51) := by decide +kernel
theorem dX6_count_52 : decode cX6_count 52 = .ok (.aload_n 0, 1) := by decide +kernel
theorem dX6_count_53 : decode cX6_count 53 = .ok (.getfield 10, 3) := by decide +kernel
theorem dX6_count_56 : decode cX6_count 56 = .ok (.invokevirtual 296, 3) := by decide +kernel
theorem dX6_count_59 : decode cX6_count 59 = .ok (.ireturn, 1) := by decide +kernel
theorem dX6_count_60 : decode cX6_count 60 = .ok (.aload_n 0, 1) := by decide +kernel
theorem dX6_count_61 : decode cX6_count 61 = .ok (.getfield 26, 3) := by decide +kernel
theorem dX6_count_64 : decode cX6_count 64 = .ok (.getfield 299, 3) := by decide +kernel
theorem dX6_count_67 : decode cX6_count 67 = .ok (.ireturn, 1) := by decide +kernel
theorem dX6_count_68 : decode cX6_count 68 = .ok (.aload_n 0, 1) := by decide +kernel
theorem dX6_count_69 : decode cX6_count 69 = .ok (.getfield 26, 3) := by decide +kernel
theorem dX6_count_72 : decode cX6_count 72 = .ok (.getfield 131, 3) := by decide +kernel
theorem dX6_count_75 : decode cX6_count 75 = .ok (.ireturn, 1) := by decide +kernel
theorem dX6_count_76 : decode cX6_count 76 = .ok (.aload_n 0, 1) := by decide +kernel
theorem dX6_count_77 : decode cX6_count 77 = .ok (.getfield 26, 3) := by decide +kernel
theorem dX6_count_80 : decode cX6_count 80 = .ok (.getfield 137, 3) := by decide +kernel
theorem dX6_count_83 : decode cX6_count 83 = .ok (.ireturn, 1) := by decide +kernel
theorem dX6_count_84 : decode cX6_count 84 = .ok (.aload_n 0, 1) := by decide +kernel
theorem dX6_count_85 : decode cX6_count 85 = .ok (.getfield 26, 3) := by decide +kernel
theorem dX6_count_88 : decode cX6_count 88 = .ok (.getfield 143, 3) := by decide +kernel
theorem dX6_count_91 : decode cX6_count 91 = .ok (.ifCond .eq 7, 3) := by decide +kernel
theorem dX6_count_94 : decode cX6_count 94 = .ok (.iconst 1, 1) := by decide +kernel
theorem dX6_count_95 : decode cX6_count 95 = .ok (.goto 4, 3) := by decide +kernel
theorem dX6_count_98 : decode cX6_count 98 = .ok (.iconst 0, 1) := by decide +kernel
theorem dX6_count_99 : decode cX6_count 99 = .ok (.ireturn, 1) := by decide +kernel
theorem dX6_count_100 : decode cX6_count 100 = .ok (.aload_n 0, 1) := by decide +kernel
theorem dX6_count_101 : decode cX6_count 101 = .ok (.getfield 26, 3) := by decide +kernel
theorem dX6_count_104 : decode cX6_count 104 = .ok (.getfield 302, 3) := by decide +kernel
theorem dX6_count_107 : decode cX6_count 107 = .ok (.ireturn, 1) := by decide +kernel
theorem dX6_count_108 : decode cX6_count 108 = .ok (.aload_n 0, 1) := by decide +kernel
theorem dX6_count_109 : decode cX6_count 109 = .ok (.getfield 26, 3) := by decide +kernel
theorem dX6_count_112 : decode cX6_count 112 = .ok (.getfield 161, 3) := by decide +kernel
theorem dX6_count_115 : decode cX6_count 115 = .ok (.invokestatic 167, 3) := by decide +kernel
theorem dX6_count_118 : decode cX6_count 118 = .ok (.ireturn, 1) := by decide +kernel
theorem dX6_count_119 : decode cX6_count 119 = .ok (.aload_n 0, 1) := by decide +kernel
theorem dX6_count_120 : decode cX6_count 120 = .ok (.getfield 42, 3) := by decide +kernel
theorem dX6_count_123 : decode cX6_count 123 = .ok (.getfield 196, 3) := by decide +kernel
theorem dX6_count_126 : decode cX6_count 126 = .ok (.ireturn, 1) := by decide +kernel
theorem dX6_count_127 : decode cX6_count 127 = .ok (.aload_n 0, 1) := by decide +kernel
theorem dX6_count_128 : decode cX6_count 128 = .ok (.getfield 19, 3) := by decide +kernel
theorem dX6_count_131 : decode cX6_count 131 = .ok (.getfield 98, 3) := by decide +kernel
theorem dX6_count_134 : decode cX6_count 134 = .ok (.ireturn, 1) := by decide +kernel
theorem dX6_count_135 : decode cX6_count 135 = .ok (.ldc 64, 2) := by decide +kernel
theorem dX6_count_137 : decode cX6_count 137 = .ok (.ireturn, 1) := by decide +kernel
theorem dX6_status_0 : decode cX6_status 0 = .ok (.aload_n 0, 1) := by decide +kernel
theorem dX6_status_1 : decode cX6_status 1 = .ok (.getfield 305, 3) := by decide +kernel
theorem dX6_status_4 : decode cX6_status 4 = .ok (.ireturn, 1) := by decide +kernel
theorem dX6_isBelow_0 : decode cX6_isBelow 0 = .ok (.iload_n 0, 1) := by decide +kernel
theorem dX6_isBelow_1 : decode cX6_isBelow 1 = .ok (.ifCond .lt 12, 3) := by decide +kernel
theorem dX6_isBelow_4 : decode cX6_isBelow 4 = .ok (.iload_n 0, 1) := by decide +kernel
theorem dX6_isBelow_5 : decode cX6_isBelow 5 = .ok (.iload_n 1, 1) := by decide +kernel
theorem dX6_isBelow_6 : decode cX6_isBelow 6 = .ok (.if_icmp .ge 7, 3) := by decide +kernel
theorem dX6_isBelow_9 : decode cX6_isBelow 9 = .ok (.iconst 1, 1) := by decide +kernel
theorem dX6_isBelow_10 : decode cX6_isBelow 10 = .ok (.goto 4, 3) := by decide +kernel
theorem dX6_isBelow_13 : decode cX6_isBelow 13 = .ok (.iconst 0, 1) := by decide +kernel
theorem dX6_isBelow_14 : decode cX6_isBelow 14 = .ok (.ireturn, 1) := by decide +kernel
theorem dX6_has_0 : decode cX6_has 0 = .ok (.iload_n 0, 1) := by decide +kernel
theorem dX6_has_1 : decode cX6_has 1 = .ok (.iload_n 1, 1) := by decide +kernel
theorem dX6_has_2 : decode cX6_has 2 = .ok (.ishr, 1) := by decide +kernel
theorem dX6_has_3 : decode cX6_has 3 = .ok (.iconst 1, 1) := by decide +kernel
theorem dX6_has_4 : decode cX6_has 4 = .ok (.iand, 1) := by decide +kernel
theorem dX6_has_5 : decode cX6_has 5 = .ok (.ifCond .eq 7, 3) := by decide +kernel
theorem dX6_has_8 : decode cX6_has 8 = .ok (.iconst 1, 1) := by decide +kernel
theorem dX6_has_9 : decode cX6_has 9 = .ok (.goto 4, 3) := by decide +kernel
theorem dX6_has_12 : decode cX6_has 12 = .ok (.iconst 0, 1) := by decide +kernel
theorem dX6_has_13 : decode cX6_has 13 = .ok (.ireturn, 1) := by decide +kernel
theorem dX6_found_0 : decode cX6_found 0 = .ok (.aload_n 0, 1) := by decide +kernel
theorem dX6_found_1 : decode cX6_found 1 = .ok (.iload_n 1, 1) := by decide +kernel
theorem dX6_found_2 : decode cX6_found 2 = .ok (.putfield 305, 3) := by decide +kernel
theorem dX6_found_5 : decode cX6_found 5 = .ok (.ldc_w 308, 3) := by decide +kernel
theorem dX6_found_8 : decode cX6_found 8 = .ok (.iload_n 1, 1) := by decide +kernel
theorem dX6_found_9 : decode cX6_found 9 = .ok (.isub, 1) := by decide +kernel
theorem dX6_found_10 : decode cX6_found 10 = .ok (.ireturn, 1) := by decide +kernel
theorem dX6_foundNothing_0 : decode cX6_foundNothing 0 = .ok (.aload_n 0, 1) := by decide +kernel
theorem dX6_foundNothing_1 : decode cX6_foundNothing 1 = .ok (.iconst 0, 1) := by decide +kernel
theorem dX6_foundNothing_2 : decode cX6_foundNothing 2 = .ok (.putfield 305, 3) := by decide +kernel
theorem dX6_foundNothing_5 : decode cX6_foundNothing 5 = .ok (.iload_n 1, 1) := by decide +kernel
theorem dX6_foundNothing_6 : decode cX6_foundNothing 6 = .ok (.ireturn, 1) := by decide +kernel
theorem dX6_imageOf_0 : decode cX6_imageOf 0 = .ok (.iload_n 1, 1) := by decide +kernel
theorem dX6_imageOf_1 : decode cX6_imageOf 1 = .ok (.ifCond .ne 10, 3) := by decide +kernel
theorem dX6_imageOf_4 : decode cX6_imageOf 4 = .ok (.aload_n 0, 1) := by decide +kernel
theorem dX6_imageOf_5 : decode cX6_imageOf 5 = .ok (.getfield 33, 3) := by decide +kernel
theorem dX6_imageOf_8 : decode cX6_imageOf 8 = .ok (.goto 7, 3) := by decide +kernel
theorem dX6_imageOf_11 : decode cX6_imageOf 11 = .ok (.aload_n 0, 1) := by decide +kernel
theorem dX6_imageOf_12 : decode cX6_imageOf 12 = .ok (.getfield 36, 3) := by decide +kernel
theorem dX6_imageOf_15 : decode cX6_imageOf 15 = .ok (.areturn, 1) := by decide +kernel
theorem dX6_takeBack_0 : decode cX6_takeBack 0 = .ok (.iload_n 1, 1) := by decide +kernel
theorem dX6_takeBack_1 : decode cX6_takeBack 1 = .ok (.tableswitch 61 0 2 #[27, 37, 49], 27) := by decide +kernel
theorem dX6_takeBack_28 : decode cX6_takeBack 28 = .ok (.aload_n 0, 1) := by decide +kernel
theorem dX6_takeBack_29 : decode cX6_takeBack 29 = .ok (.getfield 26, 3) := by decide +kernel
theorem dX6_takeBack_32 : decode cX6_takeBack 32 = .ok (.invokevirtual 309, 3) := by decide +kernel
theorem dX6_takeBack_35 : decode cX6_takeBack 35 = .ok (.goto 37, 3) := by decide +kernel
theorem dX6_takeBack_38 : decode cX6_takeBack 38 = .ok (.aload_n 0, 1) := by decide +kernel
theorem dX6_takeBack_39 : decode cX6_takeBack 39 = .ok (.getfield 26, 3) := by decide +kernel
theorem dX6_takeBack_42 : decode cX6_takeBack 42 = .ok (.iload_n 2, 1) := by decide +kernel
theorem dX6_takeBack_43 : decode cX6_takeBack 43 = .ok (.iload_n 3, 1) := by decide +kernel
theorem dX6_takeBack_44 : decode cX6_takeBack 44 = .ok (.invokevirtual 312, 3) := by decide +kernel
theorem dX6_takeBack_47 : decode cX6_takeBack 47 = .ok (.goto 25, 3) := by decide +kernel
theorem dX6_takeBack_50 : decode cX6_takeBack 50 = .ok (.aload_n 0, 1) := by decide +kernel
theorem dX6_takeBack_51 : decode cX6_takeBack 51 = .ok (.getfield 26, 3) := by decide +kernel
theorem dX6_takeBack_54 : decode cX6_takeBack 54 = .ok (.iload_n 2, 1) := by decide +kernel
theorem dX6_takeBack_55 : decode cX6_takeBack 55 = .ok (.iload_n 3, 1) := by decide +kernel
theorem dX6_takeBack_56 : decode cX6_takeBack 56 = .ok (.invokevirtual 316, 3) := by decide +kernel
theorem dX6_takeBack_59 : decode cX6_takeBack 59 = .ok (.goto 13, 3) := by decide +kernel
theorem dX6_takeBack_62 : decode cX6_takeBack 62 = .ok (.aload_n 0, 1) := by decide +kernel
theorem dX6_takeBack_63 : decode cX6_takeBack 63 = .ok (.getfield 26, 3) := by decide +kernel
theorem dX6_takeBack_66 : decode cX6_takeBack 66 = .ok (.getfield 184, 3) := by decide +kernel
theorem dX6_takeBack_69 : decode cX6_takeBack 69 = .ok (.iload_n 2, 1) := by decide +kernel
theorem dX6_takeBack_70 : decode cX6_takeBack 70 = .ok (.iload_n 3, 1) := by decide +kernel
theorem dX6_takeBack_71 : decode cX6_takeBack 71 = .ok (.iastore, 1) := by decide +kernel
theorem dX6_takeBack_72 : decode cX6_takeBack 72 = .ok (.return_, 1) := by decide +kernel
theorem dX6_rowsOfUnlike_0 : decode cX6_rowsOfUnlike 0 = .ok (.iconst 1, 1) := by decide +kernel
theorem dX6_rowsOfUnlike_1 : decode cX6_rowsOfUnlike 1 = .ok (.istore_n 2, 1) := by decide +kernel
theorem dX6_rowsOfUnlike_2 : decode cX6_rowsOfUnlike 2 = .ok (.iconst 0, 1) := by decide +kernel
theorem dX6_rowsOfUnlike_3 : decode cX6_rowsOfUnlike 3 = .ok (.istore_n 3, 1) := by decide +kernel
theorem dX6_rowsOfUnlike_4 : decode cX6_rowsOfUnlike 4 = .ok (.iload_n 3, 1) := by decide +kernel
theorem dX6_rowsOfUnlike_5 : decode cX6_rowsOfUnlike 5 = .ok (.iload_n 1, 1) := by decide +kernel
theorem dX6_rowsOfUnlike_6 : decode cX6_rowsOfUnlike 6 = .ok (.if_icmp .ge 15, 3) := by decide +kernel
theorem dX6_rowsOfUnlike_9 : decode cX6_rowsOfUnlike 9 = .ok (.iload_n 2, 1) := by decide +kernel
theorem dX6_rowsOfUnlike_10 : decode cX6_rowsOfUnlike 10 = .ok (.iload_n 0, 1) := by decide +kernel
theorem dX6_rowsOfUnlike_11 : decode cX6_rowsOfUnlike 11 = .ok (.iload_n 3, 1) := by decide +kernel
theorem dX6_rowsOfUnlike_12 : decode cX6_rowsOfUnlike 12 = .ok (.isub, 1) := by decide +kernel
theorem dX6_rowsOfUnlike_13 : decode cX6_rowsOfUnlike 13 = .ok (.imul, 1) := by decide +kernel
theorem dX6_rowsOfUnlike_14 : decode cX6_rowsOfUnlike 14 = .ok (.istore_n 2, 1) := by decide +kernel
theorem dX6_rowsOfUnlike_15 : decode cX6_rowsOfUnlike 15 = .ok (.iinc 3 1, 3) := by decide +kernel
theorem dX6_rowsOfUnlike_18 : decode cX6_rowsOfUnlike 18 = .ok (.goto (-14), 3) := by decide +kernel
theorem dX6_rowsOfUnlike_21 : decode cX6_rowsOfUnlike 21 = .ok (.iload_n 2, 1) := by decide +kernel
theorem dX6_rowsOfUnlike_22 : decode cX6_rowsOfUnlike 22 = .ok (.ireturn, 1) := by decide +kernel
theorem dX6_commonDivisor_0 : decode cX6_commonDivisor 0 = .ok (.iload_n 1, 1) := by decide +kernel
theorem dX6_commonDivisor_1 : decode cX6_commonDivisor 1 = .ok (.istore_n 2, 1) := by decide +kernel
theorem dX6_commonDivisor_2 : decode cX6_commonDivisor 2 = .ok (.iload_n 0, 1) := by decide +kernel
theorem dX6_commonDivisor_3 : decode cX6_commonDivisor 3 = .ok (.istore_n 3, 1) := by decide +kernel
theorem dX6_commonDivisor_4 : decode cX6_commonDivisor 4 = .ok (.iconst 0, 1) := by decide +kernel
theorem dX6_commonDivisor_5 : decode cX6_commonDivisor 5 = .ok (.istore 4, 2) := by decide +kernel
theorem dX6_commonDivisor_7 : decode cX6_commonDivisor 7 = .ok (.iload 4, 2) := by decide +kernel
theorem dX6_commonDivisor_9 : decode cX6_commonDivisor 9 = .ok (.bipush 64, 2) := by decide +kernel
theorem dX6_commonDivisor_11 : decode cX6_commonDivisor 11 = .ok (.if_icmp .ge 23, 3) := by decide +kernel
theorem dX6_commonDivisor_14 : decode cX6_commonDivisor 14 = .ok (.iload_n 3, 1) := by decide +kernel
theorem dX6_commonDivisor_15 : decode cX6_commonDivisor 15 = .ok (.ifCond .eq 19, 3) := by decide +kernel
theorem dX6_commonDivisor_18 : decode cX6_commonDivisor 18 = .ok (.iload_n 2, 1) := by decide +kernel
theorem dX6_commonDivisor_19 : decode cX6_commonDivisor 19 = .ok (.iload_n 3, 1) := by decide +kernel
theorem dX6_commonDivisor_20 : decode cX6_commonDivisor 20 = .ok (.irem, 1) := by decide +kernel
theorem dX6_commonDivisor_21 : decode cX6_commonDivisor 21 = .ok (.istore 5, 2) := by decide +kernel
theorem dX6_commonDivisor_23 : decode cX6_commonDivisor 23 = .ok (.iload_n 3, 1) := by decide +kernel
theorem dX6_commonDivisor_24 : decode cX6_commonDivisor 24 = .ok (.istore_n 2, 1) := by decide +kernel
theorem dX6_commonDivisor_25 : decode cX6_commonDivisor 25 = .ok (.iload 5, 2) := by decide +kernel
theorem dX6_commonDivisor_27 : decode cX6_commonDivisor 27 = .ok (.istore_n 3, 1) := by decide +kernel
theorem dX6_commonDivisor_28 : decode cX6_commonDivisor 28 = .ok (.iinc 4 1, 3) := by decide +kernel
theorem dX6_commonDivisor_31 : decode cX6_commonDivisor 31 = .ok (.goto (-24), 3) := by decide +kernel
theorem dX6_commonDivisor_34 : decode cX6_commonDivisor 34 = .ok (.iload_n 2, 1) := by decide +kernel
theorem dX6_commonDivisor_35 : decode cX6_commonDivisor 35 = .ok (.ifCond .ne 7, 3) := by decide +kernel
theorem dX6_commonDivisor_38 : decode cX6_commonDivisor 38 = .ok (.iconst 1, 1) := by decide +kernel
theorem dX6_commonDivisor_39 : decode cX6_commonDivisor 39 = .ok (.goto 4, 3) := by decide +kernel
theorem dX6_commonDivisor_42 : decode cX6_commonDivisor 42 = .ok (.iload_n 2, 1) := by decide +kernel
theorem dX6_commonDivisor_43 : decode cX6_commonDivisor 43 = .ok (.ireturn, 1) := by decide +kernel
theorem dX6_parentOf_0 : decode cX6_parentOf 0 = .ok (.iload_n 0, 1) := by decide +kernel
theorem dX6_parentOf_1 : decode cX6_parentOf 1 = .ok (.iconst 2, 1) := by decide +kernel
theorem dX6_parentOf_2 : decode cX6_parentOf 2 = .ok (.if_icmp .eq 8, 3) := by decide +kernel
theorem dX6_parentOf_5 : decode cX6_parentOf 5 = .ok (.iload_n 0, 1) := by decide +kernel
theorem dX6_parentOf_6 : decode cX6_parentOf 6 = .ok (.iconst 3, 1) := by decide +kernel
theorem dX6_parentOf_7 : decode cX6_parentOf 7 = .ok (.if_icmp .ne 5, 3) := by decide +kernel
theorem dX6_parentOf_10 : decode cX6_parentOf 10 = .ok (.iconst 1, 1) := by decide +kernel
theorem dX6_parentOf_11 : decode cX6_parentOf 11 = .ok (.ireturn, 1) := by decide +kernel
theorem dX6_parentOf_12 : decode cX6_parentOf 12 = .ok (.iload_n 0, 1) := by decide +kernel
theorem dX6_parentOf_13 : decode cX6_parentOf 13 = .ok (.iconst 5, 1) := by decide +kernel
theorem dX6_parentOf_14 : decode cX6_parentOf 14 = .ok (.if_icmp .ne 7, 3) := by decide +kernel
theorem dX6_parentOf_17 : decode cX6_parentOf 17 = .ok (.iconst 4, 1) := by decide +kernel
theorem dX6_parentOf_18 : decode cX6_parentOf 18 = .ok (.goto 4, 3) := by decide +kernel
theorem dX6_parentOf_21 : decode cX6_parentOf 21 = .ok (.iconst 0, 1) := by decide +kernel
theorem dX6_parentOf_22 : decode cX6_parentOf 22 = .ok (.ireturn, 1) := by decide +kernel
theorem dX6_isOneOf_0 : decode cX6_isOneOf 0 = .ok (.iload_n 1, 1) := by decide +kernel
theorem dX6_isOneOf_1 : decode cX6_isOneOf 1 = .ok (.ifCond .eq 16, 3) := by decide +kernel
theorem dX6_isOneOf_4 : decode cX6_isOneOf 4 = .ok (.iload_n 1, 1) := by decide +kernel
theorem dX6_isOneOf_5 : decode cX6_isOneOf 5 = .ok (.iload_n 0, 1) := by decide +kernel
theorem dX6_isOneOf_6 : decode cX6_isOneOf 6 = .ok (.if_icmp .eq 11, 3) := by decide +kernel
theorem dX6_isOneOf_9 : decode cX6_isOneOf 9 = .ok (.iload_n 1, 1) := by decide +kernel
theorem dX6_isOneOf_10 : decode cX6_isOneOf 10 = .ok (.iload_n 0, 1) := by decide +kernel
theorem dX6_isOneOf_11 : decode cX6_isOneOf 11 = .ok (.invokestatic 319, 3) := by decide +kernel
theorem dX6_isOneOf_14 : decode cX6_isOneOf 14 = .ok (.if_icmp .ne 7, 3) := by decide +kernel
theorem dX6_isOneOf_17 : decode cX6_isOneOf 17 = .ok (.iconst 1, 1) := by decide +kernel
theorem dX6_isOneOf_18 : decode cX6_isOneOf 18 = .ok (.goto 4, 3) := by decide +kernel
theorem dX6_isOneOf_21 : decode cX6_isOneOf 21 = .ok (.iconst 0, 1) := by decide +kernel
theorem dX6_isOneOf_22 : decode cX6_isOneOf 22 = .ok (.ireturn, 1) := by decide +kernel
theorem dJ6_bitCount_0f7a4_0 : decode cJ6_bitCount_0f7a4 0 = .ok (.iload_n 0, 1) := by decide +kernel
theorem dJ6_bitCount_0f7a4_1 : decode cJ6_bitCount_0f7a4 1 = .ok (.iload_n 0, 1) := by decide +kernel
theorem dJ6_bitCount_0f7a4_2 : decode cJ6_bitCount_0f7a4 2 = .ok (.iconst 1, 1) := by decide +kernel
theorem dJ6_bitCount_0f7a4_3 : decode cJ6_bitCount_0f7a4 3 = .ok (.iushr, 1) := by decide +kernel
theorem dJ6_bitCount_0f7a4_4 : decode cJ6_bitCount_0f7a4 4 = .ok (.ldc_w 265, 3) := by decide +kernel
theorem dJ6_bitCount_0f7a4_7 : decode cJ6_bitCount_0f7a4 7 = .ok (.iand, 1) := by decide +kernel
theorem dJ6_bitCount_0f7a4_8 : decode cJ6_bitCount_0f7a4 8 = .ok (.isub, 1) := by decide +kernel
theorem dJ6_bitCount_0f7a4_9 : decode cJ6_bitCount_0f7a4 9 = .ok (.istore_n 0, 1) := by decide +kernel
theorem dJ6_bitCount_0f7a4_10 : decode cJ6_bitCount_0f7a4 10 = .ok (.iload_n 0, 1) := by decide +kernel
theorem dJ6_bitCount_0f7a4_11 : decode cJ6_bitCount_0f7a4 11 = .ok (.ldc_w 266, 3) := by decide +kernel
theorem dJ6_bitCount_0f7a4_14 : decode cJ6_bitCount_0f7a4 14 = .ok (.iand, 1) := by decide +kernel
theorem dJ6_bitCount_0f7a4_15 : decode cJ6_bitCount_0f7a4 15 = .ok (.iload_n 0, 1) := by decide +kernel
theorem dJ6_bitCount_0f7a4_16 : decode cJ6_bitCount_0f7a4 16 = .ok (.iconst 2, 1) := by decide +kernel
theorem dJ6_bitCount_0f7a4_17 : decode cJ6_bitCount_0f7a4 17 = .ok (.iushr, 1) := by decide +kernel
theorem dJ6_bitCount_0f7a4_18 : decode cJ6_bitCount_0f7a4 18 = .ok (.ldc_w 266, 3) := by decide +kernel
theorem dJ6_bitCount_0f7a4_21 : decode cJ6_bitCount_0f7a4 21 = .ok (.iand, 1) := by decide +kernel
theorem dJ6_bitCount_0f7a4_22 : decode cJ6_bitCount_0f7a4 22 = .ok (.iadd, 1) := by decide +kernel
theorem dJ6_bitCount_0f7a4_23 : decode cJ6_bitCount_0f7a4 23 = .ok (.istore_n 0, 1) := by decide +kernel
theorem dJ6_bitCount_0f7a4_24 : decode cJ6_bitCount_0f7a4 24 = .ok (.iload_n 0, 1) := by decide +kernel
theorem dJ6_bitCount_0f7a4_25 : decode cJ6_bitCount_0f7a4 25 = .ok (.iload_n 0, 1) := by decide +kernel
theorem dJ6_bitCount_0f7a4_26 : decode cJ6_bitCount_0f7a4 26 = .ok (.iconst 4, 1) := by decide +kernel
theorem dJ6_bitCount_0f7a4_27 : decode cJ6_bitCount_0f7a4 27 = .ok (.iushr, 1) := by decide +kernel
theorem dJ6_bitCount_0f7a4_28 : decode cJ6_bitCount_0f7a4 28 = .ok (.iadd, 1) := by decide +kernel
theorem dJ6_bitCount_0f7a4_29 : decode cJ6_bitCount_0f7a4 29 = .ok (.ldc_w 267, 3) := by decide +kernel
theorem dJ6_bitCount_0f7a4_32 : decode cJ6_bitCount_0f7a4 32 = .ok (.iand, 1) := by decide +kernel
theorem dJ6_bitCount_0f7a4_33 : decode cJ6_bitCount_0f7a4 33 = .ok (.istore_n 0, 1) := by decide +kernel
theorem dJ6_bitCount_0f7a4_34 : decode cJ6_bitCount_0f7a4 34 = .ok (.iload_n 0, 1) := by decide +kernel
theorem dJ6_bitCount_0f7a4_35 : decode cJ6_bitCount_0f7a4 35 = .ok (.iload_n 0, 1) := by decide +kernel
theorem dJ6_bitCount_0f7a4_36 : decode cJ6_bitCount_0f7a4 36 = .ok (.bipush 8, 2) := by decide +kernel
theorem dJ6_bitCount_0f7a4_38 : decode cJ6_bitCount_0f7a4 38 = .ok (.iushr, 1) := by decide +kernel
theorem dJ6_bitCount_0f7a4_39 : decode cJ6_bitCount_0f7a4 39 = .ok (.iadd, 1) := by decide +kernel
theorem dJ6_bitCount_0f7a4_40 : decode cJ6_bitCount_0f7a4 40 = .ok (.istore_n 0, 1) := by decide +kernel
theorem dJ6_bitCount_0f7a4_41 : decode cJ6_bitCount_0f7a4 41 = .ok (.iload_n 0, 1) := by decide +kernel
theorem dJ6_bitCount_0f7a4_42 : decode cJ6_bitCount_0f7a4 42 = .ok (.iload_n 0, 1) := by decide +kernel
theorem dJ6_bitCount_0f7a4_43 : decode cJ6_bitCount_0f7a4 43 = .ok (.bipush 16, 2) := by decide +kernel
theorem dJ6_bitCount_0f7a4_45 : decode cJ6_bitCount_0f7a4 45 = .ok (.iushr, 1) := by decide +kernel
theorem dJ6_bitCount_0f7a4_46 : decode cJ6_bitCount_0f7a4 46 = .ok (.iadd, 1) := by decide +kernel
theorem dJ6_bitCount_0f7a4_47 : decode cJ6_bitCount_0f7a4 47 = .ok (.istore_n 0, 1) := by decide +kernel
theorem dJ6_bitCount_0f7a4_48 : decode cJ6_bitCount_0f7a4 48 = .ok (.iload_n 0, 1) := by decide +kernel
theorem dJ6_bitCount_0f7a4_49 : decode cJ6_bitCount_0f7a4 49 = .ok (.bipush 63, 2) := by decide +kernel
theorem dJ6_bitCount_0f7a4_51 : decode cJ6_bitCount_0f7a4 51 = .ok (.iand, 1) := by decide +kernel
theorem dJ6_bitCount_0f7a4_52 : decode cJ6_bitCount_0f7a4 52 = .ok (.ireturn, 1) := by decide +kernel
theorem dJ9_max_7cf53_0 : decode cJ9_max_7cf53 0 = .ok (.iload_n 0, 1) := by decide +kernel
theorem dJ9_max_7cf53_1 : decode cJ9_max_7cf53 1 = .ok (.iload_n 1, 1) := by decide +kernel
theorem dJ9_max_7cf53_2 : decode cJ9_max_7cf53 2 = .ok (.if_icmp .lt 7, 3) := by decide +kernel
theorem dJ9_max_7cf53_5 : decode cJ9_max_7cf53 5 = .ok (.iload_n 0, 1) := by decide +kernel
theorem dJ9_max_7cf53_6 : decode cJ9_max_7cf53 6 = .ok (.goto 4, 3) := by decide +kernel
theorem dJ9_max_7cf53_9 : decode cJ9_max_7cf53 9 = .ok (.iload_n 1, 1) := by decide +kernel
theorem dJ9_max_7cf53_10 : decode cJ9_max_7cf53 10 = .ok (.ireturn, 1) := by decide +kernel
theorem dJ9_min_7cf53_0 : decode cJ9_min_7cf53 0 = .ok (.iload_n 0, 1) := by decide +kernel
theorem dJ9_min_7cf53_1 : decode cJ9_min_7cf53 1 = .ok (.iload_n 1, 1) := by decide +kernel
theorem dJ9_min_7cf53_2 : decode cJ9_min_7cf53 2 = .ok (.if_icmp .gt 7, 3) := by decide +kernel
theorem dJ9_min_7cf53_5 : decode cJ9_min_7cf53 5 = .ok (.iload_n 0, 1) := by decide +kernel
theorem dJ9_min_7cf53_6 : decode cJ9_min_7cf53 6 = .ok (.goto 4, 3) := by decide +kernel
theorem dJ9_min_7cf53_9 : decode cJ9_min_7cf53 9 = .ok (.iload_n 1, 1) := by decide +kernel
theorem dJ9_min_7cf53_10 : decode cJ9_min_7cf53 10 = .ok (.ireturn, 1) := by decide +kernel
