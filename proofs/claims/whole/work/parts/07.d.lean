theorem dX11_now_96 : decode cX11_now 96 = .ok (.sipush 168, 3) := by decide +kernel
theorem dX11_now_99 : decode cX11_now 99 = .ok (.iaload, 1) := by decide +kernel
theorem dX11_now_100 : decode cX11_now 100 = .ok (.ireturn, 1) := by decide +kernel
theorem dX11_now_101 : decode cX11_now 101 = .ok (.aload_n 0, 1) := by decide +kernel
theorem dX11_now_102 : decode cX11_now 102 = .ok (.getfield 7, 3) := by decide +kernel
theorem dX11_now_105 : decode cX11_now 105 = .ok (.sipush 169, 3) := by decide +kernel
theorem dX11_now_108 : decode cX11_now 108 = .ok (.iaload, 1) := by decide +kernel
theorem dX11_now_109 : decode cX11_now 109 = .ok (.ireturn, 1) := by decide +kernel
theorem dX11_now_110 : decode cX11_now 110 = .ok (.aload_n 0, 1) := by decide +kernel
theorem dX11_now_111 : decode cX11_now 111 = .ok (.getfield 7, 3) := by decide +kernel
theorem dX11_now_114 : decode cX11_now 114 = .ok (.sipush 170, 3) := by decide +kernel
theorem dX11_now_117 : decode cX11_now 117 = .ok (.iaload, 1) := by decide +kernel
theorem dX11_now_118 : decode cX11_now 118 = .ok (.ireturn, 1) := by decide +kernel
theorem dX11_now_119 : decode cX11_now 119 = .ok (.iload_n 2, 1) := by decide +kernel
theorem dX11_now_120 : decode cX11_now 120 = .ok (.ireturn, 1) := by decide +kernel
theorem dX11_now_121 : decode cX11_now 121 = .ok (.aload_n 0, 1) := by decide +kernel
theorem dX11_now_122 : decode cX11_now 122 = .ok (.getfield 7, 3) := by decide +kernel
theorem dX11_now_125 : decode cX11_now 125 = .ok (.sipush 171, 3) := by decide +kernel
theorem dX11_now_128 : decode cX11_now 128 = .ok (.iaload, 1) := by decide +kernel
theorem dX11_now_129 : decode cX11_now 129 = .ok (.ireturn, 1) := by decide +kernel
theorem dX11_now_130 : decode cX11_now 130 = .ok (.aload_n 0, 1) := by decide +kernel
theorem dX11_now_131 : decode cX11_now 131 = .ok (.getfield 7, 3) := by decide +kernel
theorem dX11_now_134 : decode cX11_now 134 = .ok (.sipush 172, 3) := by decide +kernel
theorem dX11_now_137 : decode cX11_now 137 = .ok (.iaload, 1) := by decide +kernel
theorem dX11_now_138 : decode cX11_now 138 = .ok (.ireturn, 1) := by decide +kernel
theorem dX11_now_139 : decode cX11_now 139 = .ok (.aload_n 0, 1) := by decide +kernel
theorem dX11_now_140 : decode cX11_now 140 = .ok (.getfield 7, 3) := by decide +kernel
theorem dX11_now_143 : decode cX11_now 143 = .ok (.sipush 173, 3) := by decide +kernel
theorem dX11_now_146 : decode cX11_now 146 = .ok (.iaload, 1) := by decide +kernel
theorem dX11_now_147 : decode cX11_now 147 = .ok (.ireturn, 1) := by decide +kernel
theorem dX11_now_148 : decode cX11_now 148 = .ok (.aload_n 0, 1) := by decide +kernel
theorem dX11_now_149 : decode cX11_now 149 = .ok (.getfield 7, 3) := by decide +kernel
theorem dX11_now_152 : decode cX11_now 152 = .ok (.sipush 174, 3) := by decide +kernel
theorem dX11_now_155 : decode cX11_now 155 = .ok (.iaload, 1) := by decide +kernel
theorem dX11_now_156 : decode cX11_now 156 = .ok (.ireturn, 1) := by decide +kernel
theorem dX11_now_157 : decode cX11_now 157 = .ok (.iconst (-1), 1) := by decide +kernel
theorem dX11_now_158 : decode cX11_now 158 = .ok (.ireturn, 1) := by decide +kernel
theorem dX11_points_0 : decode cX11_points 0 = .ok (.iload_n 1, 1) := by decide +kernel
theorem dX11_points_1 : decode cX11_points 1 = .ok (.i2l, 1) := by decide +kernel
theorem dX11_points_2 : decode cX11_points 2 = .ok (.lconst 0, 1) := by decide +kernel
theorem dX11_points_3 : decode cX11_points 3 = .ok (.aload_n 0, 1) := by decide +kernel
theorem dX11_points_4 : decode cX11_points 4 = .ok (.getfield 7, 3) := by decide +kernel
theorem dX11_points_7 : decode cX11_points 7 = .ok (.sipush 176, 3) := by decide +kernel
theorem dX11_points_10 : decode cX11_points 10 = .ok (.iaload, 1) := by decide +kernel
theorem dX11_points_11 : decode cX11_points 11 = .ok (.iconst 1, 1) := by decide +kernel
theorem dX11_points_12 : decode cX11_points 12 = .ok (.isub, 1) := by decide +kernel
theorem dX11_points_13 : decode cX11_points 13 = .ok (.i2l, 1) := by decide +kernel
theorem dX11_points_14 : decode cX11_points 14 = .ok (.invokestatic 72, 3) := by decide +kernel
theorem dX11_points_17 : decode cX11_points 17 = .ok (.ifCond .ne 5, 3) := by decide +kernel
theorem dX11_points_20 : decode cX11_points 20 = .ok (.iconst (-1), 1) := by decide +kernel
theorem dX11_points_21 : decode cX11_points 21 = .ok (.ireturn, 1) := by decide +kernel
theorem dX11_points_22 : decode cX11_points 22 = .ok (.aload_n 0, 1) := by decide +kernel
theorem dX11_points_23 : decode cX11_points 23 = .ok (.iload_n 1, 1) := by decide +kernel
theorem dX11_points_24 : decode cX11_points 24 = .ok (.invokevirtual 152, 3) := by decide +kernel
theorem dX11_points_27 : decode cX11_points 27 = .ok (.ifCond .ne 6, 3) := by decide +kernel
theorem dX11_points_30 : decode cX11_points 30 = .ok (.bipush (-4), 2) := by decide +kernel
theorem dX11_points_32 : decode cX11_points 32 = .ok (.ireturn, 1) := by decide +kernel
theorem dX11_points_33 : decode cX11_points 33 = .ok (.aload_n 0, 1) := by decide +kernel
theorem dX11_points_34 : decode cX11_points 34 = .ok (.iload_n 1, 1) := by decide +kernel
theorem dX11_points_35 : decode cX11_points 35 = .ok (.invokevirtual 196, 3) := by decide +kernel
theorem dX11_points_38 : decode cX11_points 38 = .ok (.ifCond .ne 21, 3) := by decide +kernel
theorem dX11_points_41 : decode cX11_points 41 = .ok (.aload_n 0, 1) := by decide +kernel
theorem dX11_points_42 : decode cX11_points 42 = .ok (.getfield 7, 3) := by decide +kernel
theorem dX11_points_45 : decode cX11_points 45 = .ok (.bipush 108, 2) := by decide +kernel
theorem dX11_points_47 : decode cX11_points 47 = .ok (.iload_n 1, 1) := by decide +kernel
theorem dX11_points_48 : decode cX11_points 48 = .ok (.iadd, 1) := by decide +kernel
theorem dX11_points_49 : decode cX11_points 49 = .ok (.iaload, 1) := by decide +kernel
theorem dX11_points_50 : decode cX11_points 50 = .ok (.aload_n 0, 1) := by decide +kernel
theorem dX11_points_51 : decode cX11_points 51 = .ok (.getfield 17, 3) := by decide +kernel
theorem dX11_points_54 : decode cX11_points 54 = .ok (.iconst 5, 1) := by decide +kernel
theorem dX11_points_55 : decode cX11_points 55 = .ok (.iaload, 1) := by decide +kernel
theorem dX11_points_56 : decode cX11_points 56 = .ok (.if_icmp .lt 7, 3) := by decide +kernel
theorem dX11_points_59 : decode cX11_points 59 = .ok (.iconst 0, 1) := by decide +kernel
theorem dX11_points_60 : decode cX11_points 60 = .ok (.goto 19, 3) := by decide +kernel
theorem dX11_points_63 : decode cX11_points 63 = .ok (.iconst 3, 1) := by decide +kernel
theorem dX11_points_64 : decode cX11_points 64 = .ok (.iconst 2, 1) := by decide +kernel
theorem dX11_points_65 : decode cX11_points 65 = .ok (.aload_n 0, 1) := by decide +kernel
theorem dX11_points_66 : decode cX11_points 66 = .ok (.getfield 7, 3) := by decide +kernel
theorem dX11_points_69 : decode cX11_points 69 = .ok (.bipush 108, 2) := by decide +kernel
theorem dX11_points_71 : decode cX11_points 71 = .ok (.iload_n 1, 1) := by decide +kernel
theorem dX11_points_72 : decode cX11_points 72 = .ok (.iadd, 1) := by decide +kernel
theorem dX11_points_73 : decode cX11_points 73 = .ok (.iaload, 1) := by decide +kernel
theorem dX11_points_74 : decode cX11_points 74 = .ok (.bipush 10, 2) := by decide +kernel
theorem dX11_points_76 : decode cX11_points 76 = .ok (.idiv, 1) := by decide +kernel
theorem dX11_points_77 : decode cX11_points 77 = .ok (.imul, 1) := by decide +kernel
theorem dX11_points_78 : decode cX11_points 78 = .ok (.iadd, 1) := by decide +kernel
theorem dX11_points_79 : decode cX11_points 79 = .ok (.ireturn, 1) := by decide +kernel
theorem dX11_copies_0 : decode cX11_copies 0 = .ok (.iconst 0, 1) := by decide +kernel
theorem dX11_copies_1 : decode cX11_copies 1 = .ok (.istore_n 3, 1) := by decide +kernel
theorem dX11_copies_2 : decode cX11_copies 2 = .ok (.iload_n 3, 1) := by decide +kernel
theorem dX11_copies_3 : decode cX11_copies 3 = .ok (.sipush 192, 3) := by decide +kernel
theorem dX11_copies_6 : decode cX11_copies 6 = .ok (.if_icmp .ge 25, 3) := by decide +kernel
theorem dX11_copies_9 : decode cX11_copies 9 = .ok (.aload_n 0, 1) := by decide +kernel
theorem dX11_copies_10 : decode cX11_copies 10 = .ok (.getfield 7, 3) := by decide +kernel
theorem dX11_copies_13 : decode cX11_copies 13 = .ok (.iload_n 1, 1) := by decide +kernel
theorem dX11_copies_14 : decode cX11_copies 14 = .ok (.iload_n 3, 1) := by decide +kernel
theorem dX11_copies_15 : decode cX11_copies 15 = .ok (.iadd, 1) := by decide +kernel
theorem dX11_copies_16 : decode cX11_copies 16 = .ok (.aload_n 0, 1) := by decide +kernel
theorem dX11_copies_17 : decode cX11_copies 17 = .ok (.getfield 7, 3) := by decide +kernel
theorem dX11_copies_20 : decode cX11_copies 20 = .ok (.iload_n 2, 1) := by decide +kernel
theorem dX11_copies_21 : decode cX11_copies 21 = .ok (.iload_n 3, 1) := by decide +kernel
theorem dX11_copies_22 : decode cX11_copies 22 = .ok (.iadd, 1) := by decide +kernel
theorem dX11_copies_23 : decode cX11_copies 23 = .ok (.iaload, 1) := by decide +kernel
theorem dX11_copies_24 : decode cX11_copies 24 = .ok (.iastore, 1) := by decide +kernel
theorem dX11_copies_25 : decode cX11_copies 25 = .ok (.iinc 3 1, 3) := by decide +kernel
theorem dX11_copies_28 : decode cX11_copies 28 = .ok (.goto (-26), 3) := by decide +kernel
theorem dX11_copies_31 : decode cX11_copies 31 = .ok (.return_, 1) := by decide +kernel
theorem dX11_keep_0 : decode cX11_keep 0 = .ok (.iload_n 1, 1) := by decide +kernel
theorem dX11_keep_1 : decode cX11_keep 1 = .ok (.i2l, 1) := by decide +kernel
theorem dX11_keep_2 : decode cX11_keep 2 = .ok (.lconst 0, 1) := by decide +kernel
theorem dX11_keep_3 : decode cX11_keep 3 = .ok (.lconst 1, 1) := by decide +kernel
theorem dX11_keep_4 : decode cX11_keep 4 = .ok (.invokestatic 72, 3) := by decide +kernel
theorem dX11_keep_7 : decode cX11_keep 7 = .ok (.ifCond .ne 5, 3) := by decide +kernel
theorem dX11_keep_10 : decode cX11_keep 10 = .ok (.iconst (-1), 1) := by decide +kernel
theorem dX11_keep_11 : decode cX11_keep 11 = .ok (.ireturn, 1) := by decide +kernel
theorem dX11_keep_12 : decode cX11_keep 12 = .ok (.aload_n 0, 1) := by decide +kernel
theorem dX11_keep_13 : decode cX11_keep 13 = .ok (.getfield 13, 3) := by decide +kernel
theorem dX11_keep_16 : decode cX11_keep 16 = .ok (.iload_n 1, 1) := by decide +kernel
theorem dX11_keep_17 : decode cX11_keep 17 = .ok (.baload, 1) := by decide +kernel
theorem dX11_keep_18 : decode cX11_keep 18 = .ok (.invokestatic 120, 3) := by decide +kernel
theorem dX11_keep_21 : decode cX11_keep 21 = .ok (.istore_n 2, 1) := by decide +kernel
theorem dX11_keep_22 : decode cX11_keep 22 = .ok (.aload_n 0, 1) := by decide +kernel
theorem dX11_keep_23 : decode cX11_keep 23 = .ok (.getfield 13, 3) := by decide +kernel
theorem dX11_keep_26 : decode cX11_keep 26 = .ok (.iload_n 1, 1) := by decide +kernel
theorem dX11_keep_27 : decode cX11_keep 27 = .ok (.iconst 1, 1) := by decide +kernel
theorem dX11_keep_28 : decode cX11_keep 28 = .ok (.bastore, 1) := by decide +kernel
theorem dX11_keep_29 : decode cX11_keep 29 = .ok (.aload_n 0, 1) := by decide +kernel
theorem dX11_keep_30 : decode cX11_keep 30 = .ok (.sipush 192, 3) := by decide +kernel
theorem dX11_keep_33 : decode cX11_keep 33 = .ok (.iload_n 1, 1) := by decide +kernel
theorem dX11_keep_34 : decode cX11_keep 34 = .ok (.iconst 1, 1) := by decide +kernel
theorem dX11_keep_35 : decode cX11_keep 35 = .ok (.iadd, 1) := by decide +kernel
theorem dX11_keep_36 : decode cX11_keep 36 = .ok (.imul, 1) := by decide +kernel
theorem dX11_keep_37 : decode cX11_keep 37 = .ok (.iconst 0, 1) := by decide +kernel
theorem dX11_keep_38 : decode cX11_keep 38 = .ok (.invokevirtual 220, 3) := by decide +kernel
theorem dX11_keep_41 : decode cX11_keep 41 = .ok (.iload_n 2, 1) := by decide +kernel
theorem dX11_keep_42 : decode cX11_keep 42 = .ok (.ireturn, 1) := by decide +kernel
theorem dX11_back_0 : decode cX11_back 0 = .ok (.iload_n 1, 1) := by decide +kernel
theorem dX11_back_1 : decode cX11_back 1 = .ok (.i2l, 1) := by decide +kernel
theorem dX11_back_2 : decode cX11_back 2 = .ok (.lconst 0, 1) := by decide +kernel
theorem dX11_back_3 : decode cX11_back 3 = .ok (.lconst 1, 1) := by decide +kernel
theorem dX11_back_4 : decode cX11_back 4 = .ok (.invokestatic 72, 3) := by decide +kernel
theorem dX11_back_7 : decode cX11_back 7 = .ok (.ifCond .ne 5, 3) := by decide +kernel
theorem dX11_back_10 : decode cX11_back 10 = .ok (.iconst (-1), 1) := by decide +kernel
theorem dX11_back_11 : decode cX11_back 11 = .ok (.ireturn, 1) := by decide +kernel
theorem dX11_back_12 : decode cX11_back 12 = .ok (.aload_n 0, 1) := by decide +kernel
theorem dX11_back_13 : decode cX11_back 13 = .ok (.getfield 13, 3) := by decide +kernel
theorem dX11_back_16 : decode cX11_back 16 = .ok (.iload_n 1, 1) := by decide +kernel
theorem dX11_back_17 : decode cX11_back 17 = .ok (.baload, 1) := by decide +kernel
theorem dX11_back_18 : decode cX11_back 18 = .ok (.ifCond .ne 6, 3) := by decide +kernel
theorem dX11_back_21 : decode cX11_back 21 = .ok (.bipush (-2), 2) := by decide +kernel
theorem dX11_back_23 : decode cX11_back 23 = .ok (.ireturn, 1) := by decide +kernel
theorem dX11_back_24 : decode cX11_back 24 = .ok (.aload_n 0, 1) := by decide +kernel
theorem dX11_back_25 : decode cX11_back 25 = .ok (.iconst 0, 1) := by decide +kernel
theorem dX11_back_26 : decode cX11_back 26 = .ok (.sipush 192, 3) := by decide +kernel
theorem dX11_back_29 : decode cX11_back 29 = .ok (.iload_n 1, 1) := by decide +kernel
theorem dX11_back_30 : decode cX11_back 30 = .ok (.iconst 1, 1) := by decide +kernel
theorem dX11_back_31 : decode cX11_back 31 = .ok (.iadd, 1) := by decide +kernel
theorem dX11_back_32 : decode cX11_back 32 = .ok (.imul, 1) := by decide +kernel
theorem dX11_back_33 : decode cX11_back 33 = .ok (.invokevirtual 220, 3) := by decide +kernel
theorem dX11_back_36 : decode cX11_back 36 = .ok (.aload_n 0, 1) := by decide +kernel
theorem dX11_back_37 : decode cX11_back 37 = .ok (.getfield 7, 3) := by decide +kernel
theorem dX11_back_40 : decode cX11_back 40 = .ok (.sipush 168, 3) := by decide +kernel
theorem dX11_back_43 : decode cX11_back 43 = .ok (.iaload, 1) := by decide +kernel
theorem dX11_back_44 : decode cX11_back 44 = .ok (.ireturn, 1) := by decide +kernel
theorem dX11_sets_0 : decode cX11_sets 0 = .ok (.aload_n 0, 1) := by decide +kernel
theorem dX11_sets_1 : decode cX11_sets 1 = .ok (.iload_n 1, 1) := by decide +kernel
theorem dX11_sets_2 : decode cX11_sets 2 = .ok (.putfield 223, 3) := by decide +kernel
theorem dX11_sets_5 : decode cX11_sets 5 = .ok (.aload_n 0, 1) := by decide +kernel
theorem dX11_sets_6 : decode cX11_sets 6 = .ok (.iload_n 2, 1) := by decide +kernel
theorem dX11_sets_7 : decode cX11_sets 7 = .ok (.putfield 226, 3) := by decide +kernel
theorem dX11_sets_10 : decode cX11_sets 10 = .ok (.aload_n 0, 1) := by decide +kernel
theorem dX11_sets_11 : decode cX11_sets 11 = .ok (.iload_n 3, 1) := by decide +kernel
theorem dX11_sets_12 : decode cX11_sets 12 = .ok (.putfield 229, 3) := by decide +kernel
theorem dX11_sets_15 : decode cX11_sets 15 = .ok (.aload_n 0, 1) := by decide +kernel
theorem dX11_sets_16 : decode cX11_sets 16 = .ok (.iconst 0, 1) := by decide +kernel
theorem dX11_sets_17 : decode cX11_sets 17 = .ok (.putfield 232, 3) := by decide +kernel
theorem dX11_sets_20 : decode cX11_sets 20 = .ok (.aload_n 0, 1) := by decide +kernel
theorem dX11_sets_21 : decode cX11_sets 21 = .ok (.bipush (-4), 2) := by decide +kernel
theorem dX11_sets_23 : decode cX11_sets 23 = .ok (.putfield 235, 3) := by decide +kernel
theorem dX11_sets_26 : decode cX11_sets 26 = .ok (.return_, 1) := by decide +kernel
theorem dX11_oneEnds_0 : decode cX11_oneEnds 0 = .ok (.aload_n 0, 1) := by decide +kernel
theorem dX11_oneEnds_1 : decode cX11_oneEnds 1 = .ok (.iload_n 1, 1) := by decide +kernel
theorem dX11_oneEnds_2 : decode cX11_oneEnds 2 = .ok (.putfield 232, 3) := by decide +kernel
theorem dX11_oneEnds_5 : decode cX11_oneEnds 5 = .ok (.aload_n 0, 1) := by decide +kernel
theorem dX11_oneEnds_6 : decode cX11_oneEnds 6 = .ok (.iload_n 2, 1) := by decide +kernel
theorem dX11_oneEnds_7 : decode cX11_oneEnds 7 = .ok (.putfield 235, 3) := by decide +kernel
theorem dX11_oneEnds_10 : decode cX11_oneEnds 10 = .ok (.return_, 1) := by decide +kernel
theorem dX11_oneGoes_0 : decode cX11_oneGoes 0 = .ok (.aload_n 0, 1) := by decide +kernel
theorem dX11_oneGoes_1 : decode cX11_oneGoes 1 = .ok (.aload_n 0, 1) := by decide +kernel
theorem dX11_oneGoes_2 : decode cX11_oneGoes 2 = .ok (.getfield 223, 3) := by decide +kernel
theorem dX11_oneGoes_5 : decode cX11_oneGoes 5 = .ok (.aload_n 0, 1) := by decide +kernel
theorem dX11_oneGoes_6 : decode cX11_oneGoes 6 = .ok (.getfield 226, 3) := by decide +kernel
theorem dX11_oneGoes_9 : decode cX11_oneGoes 9 = .ok (.invokevirtual 183, 3) := by decide +kernel
theorem dX11_oneGoes_12 : decode cX11_oneGoes 12 = .ok (.ifCond .eq 15, 3) := by decide +kernel
theorem dX11_oneGoes_15 : decode cX11_oneGoes 15 = .ok (.aload_n 0, 1) := by decide +kernel
theorem dX11_oneGoes_16 : decode cX11_oneGoes 16 = .ok (.getfield 7, 3) := by decide +kernel
theorem dX11_oneGoes_19 : decode cX11_oneGoes 19 = .ok (.aload_n 0, 1) := by decide +kernel
theorem dX11_oneGoes_20 : decode cX11_oneGoes 20 = .ok (.getfield 223, 3) := by decide +kernel
theorem dX11_oneGoes_23 : decode cX11_oneGoes 23 = .ok (.iaload, 1) := by decide +kernel
theorem dX11_oneGoes_24 : decode cX11_oneGoes 24 = .ok (.goto 7, 3) := by decide +kernel
theorem dX11_oneGoes_27 : decode cX11_oneGoes 27 = .ok (.aload_n 0, 1) := by decide +kernel
theorem dX11_oneGoes_28 : decode cX11_oneGoes 28 = .ok (.getfield 229, 3) := by decide +kernel
theorem dX11_oneGoes_31 : decode cX11_oneGoes 31 = .ok (.istore_n 2, 1) := by decide +kernel
theorem dX11_oneGoes_32 : decode cX11_oneGoes 32 = .ok (.aload_n 0, 1) := by decide +kernel
theorem dX11_oneGoes_33 : decode cX11_oneGoes 33 = .ok (.getfield 223, 3) := by decide +kernel
theorem dX11_oneGoes_36 : decode cX11_oneGoes 36 = .ok (.iload_n 2, 1) := by decide +kernel
theorem dX11_oneGoes_37 : decode cX11_oneGoes 37 = .ok (.invokestatic 190, 3) := by decide +kernel
theorem dX11_oneGoes_40 : decode cX11_oneGoes 40 = .ok (.istore_n 3, 1) := by decide +kernel
theorem dX11_oneGoes_41 : decode cX11_oneGoes 41 = .ok (.aload_n 0, 1) := by decide +kernel
theorem dX11_oneGoes_42 : decode cX11_oneGoes 42 = .ok (.iload_n 3, 1) := by decide +kernel
theorem dX11_oneGoes_43 : decode cX11_oneGoes 43 = .ok (.invokevirtual 193, 3) := by decide +kernel
theorem dX11_oneGoes_46 : decode cX11_oneGoes 46 = .ok (.ifCond .eq 13, 3) := by decide +kernel
theorem dX11_oneGoes_49 : decode cX11_oneGoes 49 = .ok (.aload_n 0, 1) := by decide +kernel
theorem dX11_oneGoes_50 : decode cX11_oneGoes 50 = .ok (.iload_n 2, 1) := by decide +kernel
theorem dX11_oneGoes_51 : decode cX11_oneGoes 51 = .ok (.iconst 1, 1) := by decide +kernel
theorem dX11_oneGoes_52 : decode cX11_oneGoes 52 = .ok (.iadd, 1) := by decide +kernel
theorem dX11_oneGoes_53 : decode cX11_oneGoes 53 = .ok (.iconst 4, 1) := by decide +kernel
theorem dX11_oneGoes_54 : decode cX11_oneGoes 54 = .ok (.irem, 1) := by decide +kernel
theorem dX11_oneGoes_55 : decode cX11_oneGoes 55 = .ok (.putfield 229, 3) := by decide +kernel
theorem dX11_oneGoes_58 : decode cX11_oneGoes 58 = .ok (.return_, 1) := by decide +kernel
theorem dX11_oneGoes_59 : decode cX11_oneGoes 59 = .ok (.aload_n 0, 1) := by decide +kernel
theorem dX11_oneGoes_60 : decode cX11_oneGoes 60 = .ok (.iload_n 3, 1) := by decide +kernel
theorem dX11_oneGoes_61 : decode cX11_oneGoes 61 = .ok (.putfield 223, 3) := by decide +kernel
theorem dX11_oneGoes_64 : decode cX11_oneGoes 64 = .ok (.aload_n 0, 1) := by decide +kernel
theorem dX11_oneGoes_65 : decode cX11_oneGoes 65 = .ok (.iload_n 2, 1) := by decide +kernel
theorem dX11_oneGoes_66 : decode cX11_oneGoes 66 = .ok (.putfield 229, 3) := by decide +kernel
theorem dX11_oneGoes_69 : decode cX11_oneGoes 69 = .ok (.aload_n 0, 1) := by decide +kernel
theorem dX11_oneGoes_70 : decode cX11_oneGoes 70 = .ok (.getfield 7, 3) := by decide +kernel
theorem dX11_oneGoes_73 : decode cX11_oneGoes 73 = .ok (.iload_n 3, 1) := by decide +kernel
theorem dX11_oneGoes_74 : decode cX11_oneGoes 74 = .ok (.iaload, 1) := by decide +kernel
theorem dX11_oneGoes_75 : decode cX11_oneGoes 75 = .ok (.bipush 6, 2) := by decide +kernel
theorem dX11_oneGoes_77 : decode cX11_oneGoes 77 = .ok (.if_icmp .ne 9, 3) := by decide +kernel
theorem dX11_oneGoes_80 : decode cX11_oneGoes 80 = .ok (.aload_n 0, 1) := by decide +kernel
theorem dX11_oneGoes_81 : decode cX11_oneGoes 81 = .ok (.iconst 2, 1) := by decide +kernel
theorem dX11_oneGoes_82 : decode cX11_oneGoes 82 = .ok (.iload_n 1, 1) := by decide +kernel
theorem dX11_oneGoes_83 : decode cX11_oneGoes 83 = .ok (.invokevirtual 238, 3) := by decide +kernel
theorem dX11_oneGoes_86 : decode cX11_oneGoes 86 = .ok (.return_, 1) := by decide +kernel
theorem dX11_oneActs_0 : decode cX11_oneActs 0 = .ok (.aload_n 0, 1) := by decide +kernel
theorem dX11_oneActs_1 : decode cX11_oneActs 1 = .ok (.getfield 7, 3) := by decide +kernel
theorem dX11_oneActs_4 : decode cX11_oneActs 4 = .ok (.sipush 170, 3) := by decide +kernel
theorem dX11_oneActs_7 : decode cX11_oneActs 7 = .ok (.iaload, 1) := by decide +kernel
theorem dX11_oneActs_8 : decode cX11_oneActs 8 = .ok (.ifCond .eq 17, 3) := by decide +kernel
theorem dX11_oneActs_11 : decode cX11_oneActs 11 = .ok (.aload_n 0, 1) := by decide +kernel
theorem dX11_oneActs_12 : decode cX11_oneActs 12 = .ok (.getfield 7, 3) := by decide +kernel
theorem dX11_oneActs_15 : decode cX11_oneActs 15 = .ok (.aload_n 0, 1) := by decide +kernel
theorem dX11_oneActs_16 : decode cX11_oneActs 16 = .ok (.getfield 223, 3) := by decide +kernel
theorem dX11_oneActs_19 : decode cX11_oneActs 19 = .ok (.iaload, 1) := by decide +kernel
theorem dX11_oneActs_20 : decode cX11_oneActs 20 = .ok (.bipush 7, 2) := by decide +kernel
theorem dX11_oneActs_22 : decode cX11_oneActs 22 = .ok (.if_icmp .ne 42, 3) := by decide +kernel
theorem dX11_oneActs_25 : decode cX11_oneActs 25 = .ok (.aload_n 0, 1) := by decide +kernel
theorem dX11_oneActs_26 : decode cX11_oneActs 26 = .ok (.dup, 1) := by decide +kernel
theorem dX11_oneActs_27 : decode cX11_oneActs 27 = .ok (.getfield 226, 3) := by decide +kernel
theorem dX11_oneActs_30 : decode cX11_oneActs 30 = .ok (.aload_n 0, 1) := by decide +kernel
theorem dX11_oneActs_31 : decode cX11_oneActs 31 = .ok (.aload_n 0, 1) := by decide +kernel
theorem dX11_oneActs_32 : decode cX11_oneActs 32 = .ok (.getfield 226, 3) := by decide +kernel
theorem dX11_oneActs_35 : decode cX11_oneActs 35 = .ok (.aload_n 0, 1) := by decide +kernel
theorem dX11_oneActs_36 : decode cX11_oneActs 36 = .ok (.getfield 7, 3) := by decide +kernel
theorem dX11_oneActs_39 : decode cX11_oneActs 39 = .ok (.sipush 169, 3) := by decide +kernel
theorem dX11_oneActs_42 : decode cX11_oneActs 42 = .ok (.iaload, 1) := by decide +kernel
theorem dX11_oneActs_43 : decode cX11_oneActs 43 = .ok (.invokevirtual 199, 3) := by decide +kernel
theorem dX11_oneActs_46 : decode cX11_oneActs 46 = .ok (.isub, 1) := by decide +kernel
theorem dX11_oneActs_47 : decode cX11_oneActs 47 = .ok (.putfield 226, 3) := by decide +kernel
theorem dX11_oneActs_50 : decode cX11_oneActs 50 = .ok (.aload_n 0, 1) := by decide +kernel
theorem dX11_oneActs_51 : decode cX11_oneActs 51 = .ok (.getfield 226, 3) := by decide +kernel
theorem dX11_oneActs_54 : decode cX11_oneActs 54 = .ok (.ifCond .ne 9, 3) := by decide +kernel
theorem dX11_oneActs_57 : decode cX11_oneActs 57 = .ok (.aload_n 0, 1) := by decide +kernel
theorem dX11_oneActs_58 : decode cX11_oneActs 58 = .ok (.iconst 1, 1) := by decide +kernel
theorem dX11_oneActs_59 : decode cX11_oneActs 59 = .ok (.iload_n 1, 1) := by decide +kernel
theorem dX11_oneActs_60 : decode cX11_oneActs 60 = .ok (.invokevirtual 238, 3) := by decide +kernel
theorem dX11_oneActs_63 : decode cX11_oneActs 63 = .ok (.return_, 1) := by decide +kernel
theorem dX11_oneActs_64 : decode cX11_oneActs 64 = .ok (.aload_n 0, 1) := by decide +kernel
theorem dX11_oneActs_65 : decode cX11_oneActs 65 = .ok (.dup, 1) := by decide +kernel
theorem dX11_oneActs_66 : decode cX11_oneActs 66 = .ok (.getfield 226, 3) := by decide +kernel
theorem dX11_oneActs_69 : decode cX11_oneActs 69 = .ok (.aload_n 0, 1) := by decide +kernel
theorem dX11_oneActs_70 : decode cX11_oneActs 70 = .ok (.aload_n 0, 1) := by decide +kernel
theorem dX11_oneActs_71 : decode cX11_oneActs 71 = .ok (.getfield 226, 3) := by decide +kernel
theorem dX11_oneActs_74 : decode cX11_oneActs 74 = .ok (.iload_n 1, 1) := by decide +kernel
theorem dX11_oneActs_75 : decode cX11_oneActs 75 = .ok (.invokevirtual 205, 3) := by decide +kernel
theorem dX11_oneActs_78 : decode cX11_oneActs 78 = .ok (.isub, 1) := by decide +kernel
theorem dX11_oneActs_79 : decode cX11_oneActs 79 = .ok (.putfield 226, 3) := by decide +kernel
theorem dX11_oneActs_82 : decode cX11_oneActs 82 = .ok (.aload_n 0, 1) := by decide +kernel
theorem dX11_oneActs_83 : decode cX11_oneActs 83 = .ok (.getfield 226, 3) := by decide +kernel
theorem dX11_oneActs_86 : decode cX11_oneActs 86 = .ok (.ifCond .ne 12, 3) := by decide +kernel
theorem dX11_oneActs_89 : decode cX11_oneActs 89 = .ok (.aload_n 0, 1) := by decide +kernel
theorem dX11_oneActs_90 : decode cX11_oneActs 90 = .ok (.iconst 1, 1) := by decide +kernel
theorem dX11_oneActs_91 : decode cX11_oneActs 91 = .ok (.iload_n 1, 1) := by decide +kernel
theorem dX11_oneActs_92 : decode cX11_oneActs 92 = .ok (.invokevirtual 238, 3) := by decide +kernel
theorem dX11_oneActs_95 : decode cX11_oneActs 95 = .ok (.goto 30, 3) := by decide +kernel
theorem dX11_oneActs_98 : decode cX11_oneActs 98 = .ok (.aload_n 0, 1) := by decide +kernel
theorem dX11_oneActs_99 : decode cX11_oneActs 99 = .ok (.getfield 226, 3) := by decide +kernel
theorem dX11_oneActs_102 : decode cX11_oneActs 102 = .ok (.aload_n 0, 1) := by decide +kernel
theorem dX11_oneActs_103 : decode cX11_oneActs 103 = .ok (.getfield 17, 3) := by decide +kernel
theorem dX11_oneActs_106 : decode cX11_oneActs 106 = .ok (.iconst 4, 1) := by decide +kernel
theorem dX11_oneActs_107 : decode cX11_oneActs 107 = .ok (.iaload, 1) := by decide +kernel
theorem dX11_oneActs_108 : decode cX11_oneActs 108 = .ok (.if_icmp .gt 12, 3) := by decide +kernel
theorem dX11_oneActs_111 : decode cX11_oneActs 111 = .ok (.aload_n 0, 1) := by decide +kernel
theorem dX11_oneActs_112 : decode cX11_oneActs 112 = .ok (.iconst 3, 1) := by decide +kernel
theorem dX11_oneActs_113 : decode cX11_oneActs 113 = .ok (.iload_n 1, 1) := by decide +kernel
theorem dX11_oneActs_114 : decode cX11_oneActs 114 = .ok (.invokevirtual 238, 3) := by decide +kernel
theorem dX11_oneActs_117 : decode cX11_oneActs 117 = .ok (.goto 8, 3) := by decide +kernel
theorem dX11_oneActs_120 : decode cX11_oneActs 120 = .ok (.aload_n 0, 1) := by decide +kernel
theorem dX11_oneActs_121 : decode cX11_oneActs 121 = .ok (.iload_n 1, 1) := by decide +kernel
theorem dX11_oneActs_122 : decode cX11_oneActs 122 = .ok (.invokevirtual 241, 3) := by decide +kernel
theorem dX11_oneActs_125 : decode cX11_oneActs 125 = .ok (.return_, 1) := by decide +kernel
theorem dX11_alone_0 : decode cX11_alone 0 = .ok (.iload_n 1, 1) := by decide +kernel
theorem dX11_alone_1 : decode cX11_alone 1 = .ok (.iload_n 2, 1) := by decide +kernel
theorem dX11_alone_2 : decode cX11_alone 2 = .ok (.iload_n 3, 1) := by decide +kernel
theorem dX11_alone_3 : decode cX11_alone 3 = .ok (.invokestatic 169, 3) := by decide +kernel
theorem dX11_alone_6 : decode cX11_alone 6 = .ok (.ifCond .eq 29, 3) := by decide +kernel
theorem dX11_alone_9 : decode cX11_alone 9 = .ok (.iload 4, 2) := by decide +kernel
theorem dX11_alone_11 : decode cX11_alone 11 = .ok (.i2l, 1) := by decide +kernel
theorem dX11_alone_12 : decode cX11_alone 12 = .ok (.lconst 0, 1) := by decide +kernel
theorem dX11_alone_13 : decode cX11_alone 13 = .ok (.ldc2_w 244, 3) := by decide +kernel
theorem dX11_alone_16 : decode cX11_alone 16 = .ok (.invokestatic 72, 3) := by decide +kernel
theorem dX11_alone_19 : decode cX11_alone 19 = .ok (.ifCond .eq 16, 3) := by decide +kernel
theorem dX11_alone_22 : decode cX11_alone 22 = .ok (.iload 5, 2) := by decide +kernel
theorem dX11_alone_24 : decode cX11_alone 24 = .ok (.i2l, 1) := by decide +kernel
theorem dX11_alone_25 : decode cX11_alone 25 = .ok (.lconst 0, 1) := by decide +kernel
theorem dX11_alone_26 : decode cX11_alone 26 = .ok (.ldc2_w 167, 3) := by decide +kernel
theorem dX11_alone_29 : decode cX11_alone 29 = .ok (.invokestatic 72, 3) := by decide +kernel
theorem dX11_alone_32 : decode cX11_alone 32 = .ok (.ifCond .ne 5, 3) := by decide +kernel
theorem dX11_alone_35 : decode cX11_alone 35 = .ok (.iconst (-1), 1) := by decide +kernel
theorem dX11_alone_36 : decode cX11_alone 36 = .ok (.ireturn, 1) := by decide +kernel
theorem dX11_alone_37 : decode cX11_alone 37 = .ok (.aload_n 0, 1) := by decide +kernel
theorem dX11_alone_38 : decode cX11_alone 38 = .ok (.getfield 7, 3) := by decide +kernel
theorem dX11_alone_41 : decode cX11_alone 41 = .ok (.iload_n 1, 1) := by decide +kernel
theorem dX11_alone_42 : decode cX11_alone 42 = .ok (.iaload, 1) := by decide +kernel
theorem dX11_alone_43 : decode cX11_alone 43 = .ok (.invokestatic 157, 3) := by decide +kernel
theorem dX11_alone_46 : decode cX11_alone 46 = .ok (.ifCond .eq 6, 3) := by decide +kernel
theorem dX11_alone_49 : decode cX11_alone 49 = .ok (.bipush (-2), 2) := by decide +kernel
theorem dX11_alone_51 : decode cX11_alone 51 = .ok (.ireturn, 1) := by decide +kernel
theorem dX11_alone_52 : decode cX11_alone 52 = .ok (.aload_n 0, 1) := by decide +kernel
theorem dX11_alone_53 : decode cX11_alone 53 = .ok (.iload_n 1, 1) := by decide +kernel
theorem dX11_alone_54 : decode cX11_alone 54 = .ok (.iload_n 2, 1) := by decide +kernel
theorem dX11_alone_55 : decode cX11_alone 55 = .ok (.iload_n 3, 1) := by decide +kernel
theorem dX11_alone_56 : decode cX11_alone 56 = .ok (.invokevirtual 246, 3) := by decide +kernel
theorem dX11_alone_59 : decode cX11_alone 59 = .ok (.iconst 0, 1) := by decide +kernel
theorem dX11_alone_60 : decode cX11_alone 60 = .ok (.istore 6, 2) := by decide +kernel
theorem dX11_alone_62 : decode cX11_alone 62 = .ok (.iload 6, 2) := by decide +kernel
theorem dX11_alone_64 : decode cX11_alone 64 = .ok (.iload 4, 2) := by decide +kernel
theorem dX11_alone_66 : decode cX11_alone 66 = .ok (.if_icmp .ge 22, 3) := by decide +kernel
theorem dX11_alone_69 : decode cX11_alone 69 = .ok (.aload_n 0, 1) := by decide +kernel
theorem dX11_alone_70 : decode cX11_alone 70 = .ok (.getfield 232, 3) := by decide +kernel
theorem dX11_alone_73 : decode cX11_alone 73 = .ok (.ifCond .ne 15, 3) := by decide +kernel
theorem dX11_alone_76 : decode cX11_alone 76 = .ok (.aload_n 0, 1) := by decide +kernel
theorem dX11_alone_77 : decode cX11_alone 77 = .ok (.iload 6, 2) := by decide +kernel
theorem dX11_alone_79 : decode cX11_alone 79 = .ok (.invokevirtual 250, 3) := by decide +kernel
theorem dX11_alone_82 : decode cX11_alone 82 = .ok (.iinc 6 1, 3) := by decide +kernel
theorem dX11_alone_85 : decode cX11_alone 85 = .ok (.goto (-23), 3) := by decide +kernel
theorem dX11_alone_88 : decode cX11_alone 88 = .ok (.iload 5, 2) := by decide +kernel
theorem dX11_alone_90 : decode cX11_alone 90 = .ok (.ifCond .ne 10, 3) := by decide +kernel
theorem dX11_alone_93 : decode cX11_alone 93 = .ok (.aload_n 0, 1) := by decide +kernel
theorem dX11_alone_94 : decode cX11_alone 94 = .ok (.getfield 223, 3) := by decide +kernel
theorem dX11_alone_97 : decode cX11_alone 97 = .ok (.goto 33, 3) := by decide +kernel
theorem dX11_alone_100 : decode cX11_alone 100 = .ok (.iload 5, 2) := by decide +kernel
theorem dX11_alone_102 : decode cX11_alone 102 = .ok (.iconst 1, 1) := by decide +kernel
theorem dX11_alone_103 : decode cX11_alone 103 = .ok (.if_icmp .ne 10, 3) := by decide +kernel
theorem dX11_alone_106 : decode cX11_alone 106 = .ok (.aload_n 0, 1) := by decide +kernel
theorem dX11_alone_107 : decode cX11_alone 107 = .ok (.getfield 226, 3) := by decide +kernel
theorem dX11_alone_110 : decode cX11_alone 110 = .ok (.goto 20, 3) := by decide +kernel
theorem dX11_alone_113 : decode cX11_alone 113 = .ok (.iload 5, 2) := by decide +kernel
theorem dX11_alone_115 : decode cX11_alone 115 = .ok (.iconst 2, 1) := by decide +kernel
theorem dX11_alone_116 : decode cX11_alone 116 = .ok (.if_icmp .ne 10, 3) := by decide +kernel
theorem dX11_alone_119 : decode cX11_alone 119 = .ok (.aload_n 0, 1) := by decide +kernel
theorem dX11_alone_120 : decode cX11_alone 120 = .ok (.getfield 232, 3) := by decide +kernel
theorem dX11_alone_123 : decode cX11_alone 123 = .ok (.goto 7, 3) := by decide +kernel
theorem dX11_alone_126 : decode cX11_alone 126 = .ok (.aload_n 0, 1) := by decide +kernel
theorem dX11_alone_127 : decode cX11_alone 127 = .ok (.getfield 235, 3) := by decide +kernel
theorem dX11_alone_130 : decode cX11_alone 130 = .ok (.ireturn, 1) := by decide +kernel
theorem dX11_reachOf_0 : decode cX11_reachOf 0 = .ok (.aload_n 0, 1) := by decide +kernel
theorem dX11_reachOf_1 : decode cX11_reachOf 1 = .ok (.iload_n 1, 1) := by decide +kernel
theorem dX11_reachOf_2 : decode cX11_reachOf 2 = .ok (.iload_n 2, 1) := by decide +kernel
theorem dX11_reachOf_3 : decode cX11_reachOf 3 = .ok (.iload_n 3, 1) := by decide +kernel
theorem dX11_reachOf_4 : decode cX11_reachOf 4 = .ok (.invokevirtual 246, 3) := by decide +kernel
theorem dX11_reachOf_7 : decode cX11_reachOf 7 = .ok (.iconst 0, 1) := by decide +kernel
theorem dX11_reachOf_8 : decode cX11_reachOf 8 = .ok (.istore 5, 2) := by decide +kernel
theorem dX11_reachOf_10 : decode cX11_reachOf 10 = .ok (.iload 5, 2) := by decide +kernel
theorem dX11_reachOf_12 : decode cX11_reachOf 12 = .ok (.sipush 400, 3) := by decide +kernel
theorem dX11_reachOf_15 : decode cX11_reachOf 15 = .ok (.if_icmp .gt 52, 3) := by decide +kernel
theorem dX11_reachOf_18 : decode cX11_reachOf 18 = .ok (.aload_n 0, 1) := by decide +kernel
theorem dX11_reachOf_19 : decode cX11_reachOf 19 = .ok (.getfield 223, 3) := by decide +kernel
theorem dX11_reachOf_22 : decode cX11_reachOf 22 = .ok (.iload 4, 2) := by decide +kernel
theorem dX11_reachOf_24 : decode cX11_reachOf 24 = .ok (.if_icmp .ne 21, 3) := by decide +kernel
theorem dX11_reachOf_27 : decode cX11_reachOf 27 = .ok (.aload_n 0, 1) := by decide +kernel
theorem dX11_reachOf_28 : decode cX11_reachOf 28 = .ok (.getfield 232, 3) := by decide +kernel
theorem dX11_reachOf_31 : decode cX11_reachOf 31 = .ok (.ifCond .eq 11, 3) := by decide +kernel
theorem dX11_reachOf_34 : decode cX11_reachOf 34 = .ok (.aload_n 0, 1) := by decide +kernel
theorem dX11_reachOf_35 : decode cX11_reachOf 35 = .ok (.getfield 232, 3) := by decide +kernel
theorem dX11_reachOf_38 : decode cX11_reachOf 38 = .ok (.iconst 2, 1) := by decide +kernel
theorem dX11_reachOf_39 : decode cX11_reachOf 39 = .ok (.if_icmp .ne 6, 3) := by decide +kernel
theorem dX11_reachOf_42 : decode cX11_reachOf 42 = .ok (.iload 5, 2) := by decide +kernel
theorem dX11_reachOf_44 : decode cX11_reachOf 44 = .ok (.ireturn, 1) := by decide +kernel
theorem dX11_reachOf_45 : decode cX11_reachOf 45 = .ok (.aload_n 0, 1) := by decide +kernel
theorem dX11_reachOf_46 : decode cX11_reachOf 46 = .ok (.getfield 232, 3) := by decide +kernel
theorem dX11_reachOf_49 : decode cX11_reachOf 49 = .ok (.ifCond .eq 6, 3) := by decide +kernel
theorem dX11_reachOf_52 : decode cX11_reachOf 52 = .ok (.bipush (-4), 2) := by decide +kernel
theorem dX11_reachOf_54 : decode cX11_reachOf 54 = .ok (.ireturn, 1) := by decide +kernel
theorem dX11_reachOf_55 : decode cX11_reachOf 55 = .ok (.aload_n 0, 1) := by decide +kernel
theorem dX11_reachOf_56 : decode cX11_reachOf 56 = .ok (.iload 5, 2) := by decide +kernel
theorem dX11_reachOf_58 : decode cX11_reachOf 58 = .ok (.invokevirtual 250, 3) := by decide +kernel
theorem dX11_reachOf_61 : decode cX11_reachOf 61 = .ok (.iinc 5 1, 3) := by decide +kernel
theorem dX11_reachOf_64 : decode cX11_reachOf 64 = .ok (.goto (-54), 3) := by decide +kernel
theorem dX11_reachOf_67 : decode cX11_reachOf 67 = .ok (.bipush (-4), 2) := by decide +kernel
theorem dX11_reachOf_69 : decode cX11_reachOf 69 = .ok (.ireturn, 1) := by decide +kernel
theorem dX11_reach_0 : decode cX11_reach 0 = .ok (.iload_n 1, 1) := by decide +kernel
theorem dX11_reach_1 : decode cX11_reach 1 = .ok (.iload_n 2, 1) := by decide +kernel
theorem dX11_reach_2 : decode cX11_reach 2 = .ok (.iload_n 3, 1) := by decide +kernel
theorem dX11_reach_3 : decode cX11_reach 3 = .ok (.invokestatic 169, 3) := by decide +kernel
theorem dX11_reach_6 : decode cX11_reach 6 = .ok (.ifCond .eq 11, 3) := by decide +kernel
theorem dX11_reach_9 : decode cX11_reach 9 = .ok (.iload 4, 2) := by decide +kernel
theorem dX11_reach_11 : decode cX11_reach 11 = .ok (.invokestatic 148, 3) := by decide +kernel
theorem dX11_reach_14 : decode cX11_reach 14 = .ok (.ifCond .ne 5, 3) := by decide +kernel
theorem dX11_reach_17 : decode cX11_reach 17 = .ok (.iconst (-1), 1) := by decide +kernel
theorem dX11_reach_18 : decode cX11_reach 18 = .ok (.ireturn, 1) := by decide +kernel
theorem dX11_reach_19 : decode cX11_reach 19 = .ok (.aload_n 0, 1) := by decide +kernel
theorem dX11_reach_20 : decode cX11_reach 20 = .ok (.getfield 7, 3) := by decide +kernel
theorem dX11_reach_23 : decode cX11_reach 23 = .ok (.iload_n 1, 1) := by decide +kernel
theorem dX11_reach_24 : decode cX11_reach 24 = .ok (.iaload, 1) := by decide +kernel
theorem dX11_reach_25 : decode cX11_reach 25 = .ok (.invokestatic 157, 3) := by decide +kernel
theorem dX11_reach_28 : decode cX11_reach 28 = .ok (.ifCond .eq 8, 3) := by decide +kernel
theorem dX11_reach_31 : decode cX11_reach 31 = .ok (.bipush (-2), 2) := by decide +kernel
theorem dX11_reach_33 : decode cX11_reach 33 = .ok (.goto 12, 3) := by decide +kernel
theorem dX11_reach_36 : decode cX11_reach 36 = .ok (.aload_n 0, 1) := by decide +kernel
theorem dX11_reach_37 : decode cX11_reach 37 = .ok (.iload_n 1, 1) := by decide +kernel
theorem dX11_reach_38 : decode cX11_reach 38 = .ok (.iload_n 2, 1) := by decide +kernel
theorem dX11_reach_39 : decode cX11_reach 39 = .ok (.iload_n 3, 1) := by decide +kernel
theorem dX11_reach_40 : decode cX11_reach 40 = .ok (.iload 4, 2) := by decide +kernel
theorem dX11_reach_42 : decode cX11_reach 42 = .ok (.invokevirtual 253, 3) := by decide +kernel
theorem dX11_reach_45 : decode cX11_reach 45 = .ok (.ireturn, 1) := by decide +kernel
theorem dX11_along_0 : decode cX11_along 0 = .ok (.iconst 0, 1) := by decide +kernel
theorem dX11_along_1 : decode cX11_along 1 = .ok (.istore 4, 2) := by decide +kernel
theorem dX11_along_3 : decode cX11_along 3 = .ok (.iload 4, 2) := by decide +kernel
theorem dX11_along_5 : decode cX11_along 5 = .ok (.sipush 384, 3) := by decide +kernel
theorem dX11_along_8 : decode cX11_along 8 = .ok (.if_icmp .ge 17, 3) := by decide +kernel
theorem dX11_along_11 : decode cX11_along 11 = .ok (.aload_n 0, 1) := by decide +kernel
theorem dX11_along_12 : decode cX11_along 12 = .ok (.getfield 32, 3) := by decide +kernel
theorem dX11_along_15 : decode cX11_along 15 = .ok (.iload 4, 2) := by decide +kernel
theorem dX11_along_17 : decode cX11_along 17 = .ok (.iconst 0, 1) := by decide +kernel
theorem dX11_along_18 : decode cX11_along 18 = .ok (.iastore, 1) := by decide +kernel
theorem dX11_along_19 : decode cX11_along 19 = .ok (.iinc 4 1, 3) := by decide +kernel
theorem dX11_along_22 : decode cX11_along 22 = .ok (.goto (-19), 3) := by decide +kernel
theorem dX11_along_25 : decode cX11_along 25 = .ok (.aload_n 0, 1) := by decide +kernel
theorem dX11_along_26 : decode cX11_along 26 = .ok (.iload_n 1, 1) := by decide +kernel
theorem dX11_along_27 : decode cX11_along 27 = .ok (.iload_n 2, 1) := by decide +kernel
theorem dX11_along_28 : decode cX11_along 28 = .ok (.iload_n 3, 1) := by decide +kernel
theorem dX11_along_29 : decode cX11_along 29 = .ok (.invokevirtual 246, 3) := by decide +kernel
theorem dX11_along_32 : decode cX11_along 32 = .ok (.iconst 0, 1) := by decide +kernel
theorem dX11_along_33 : decode cX11_along 33 = .ok (.istore 4, 2) := by decide +kernel
theorem dX11_along_35 : decode cX11_along 35 = .ok (.aload_n 0, 1) := by decide +kernel
theorem dX11_along_36 : decode cX11_along 36 = .ok (.getfield 232, 3) := by decide +kernel
theorem dX11_along_39 : decode cX11_along 39 = .ok (.ifCond .ne 52, 3) := by decide +kernel
theorem dX11_along_42 : decode cX11_along 42 = .ok (.aload_n 0, 1) := by decide +kernel
theorem dX11_along_43 : decode cX11_along 43 = .ok (.getfield 32, 3) := by decide +kernel
theorem dX11_along_46 : decode cX11_along 46 = .ok (.iconst 4, 1) := by decide +kernel
theorem dX11_along_47 : decode cX11_along 47 = .ok (.aload_n 0, 1) := by decide +kernel
theorem dX11_along_48 : decode cX11_along 48 = .ok (.getfield 223, 3) := by decide +kernel
theorem dX11_along_51 : decode cX11_along 51 = .ok (.imul, 1) := by decide +kernel
theorem dX11_along_52 : decode cX11_along 52 = .ok (.aload_n 0, 1) := by decide +kernel
theorem dX11_along_53 : decode cX11_along 53 = .ok (.getfield 229, 3) := by decide +kernel
theorem dX11_along_56 : decode cX11_along 56 = .ok (.iadd, 1) := by decide +kernel
theorem dX11_along_57 : decode cX11_along 57 = .ok (.iaload, 1) := by decide +kernel
theorem dX11_along_58 : decode cX11_along 58 = .ok (.ifCond .ne 33, 3) := by decide +kernel
theorem dX11_along_61 : decode cX11_along 61 = .ok (.iinc 4 1, 3) := by decide +kernel
theorem dX11_along_64 : decode cX11_along 64 = .ok (.aload_n 0, 1) := by decide +kernel
theorem dX11_along_65 : decode cX11_along 65 = .ok (.getfield 32, 3) := by decide +kernel
theorem dX11_along_68 : decode cX11_along 68 = .ok (.iconst 4, 1) := by decide +kernel
theorem dX11_along_69 : decode cX11_along 69 = .ok (.aload_n 0, 1) := by decide +kernel
theorem dX11_along_70 : decode cX11_along 70 = .ok (.getfield 223, 3) := by decide +kernel
theorem dX11_along_73 : decode cX11_along 73 = .ok (.imul, 1) := by decide +kernel
theorem dX11_along_74 : decode cX11_along 74 = .ok (.aload_n 0, 1) := by decide +kernel
theorem dX11_along_75 : decode cX11_along 75 = .ok (.getfield 229, 3) := by decide +kernel
theorem dX11_along_78 : decode cX11_along 78 = .ok (.iadd, 1) := by decide +kernel
theorem dX11_along_79 : decode cX11_along 79 = .ok (.iload 4, 2) := by decide +kernel
theorem dX11_along_81 : decode cX11_along 81 = .ok (.iastore, 1) := by decide +kernel
theorem dX11_along_82 : decode cX11_along 82 = .ok (.aload_n 0, 1) := by decide +kernel
theorem dX11_along_83 : decode cX11_along 83 = .ok (.iload 4, 2) := by decide +kernel
theorem dX11_along_85 : decode cX11_along 85 = .ok (.invokevirtual 241, 3) := by decide +kernel
theorem dX11_along_88 : decode cX11_along 88 = .ok (.goto (-53), 3) := by decide +kernel
theorem dX11_along_91 : decode cX11_along 91 = .ok (.iload 4, 2) := by decide +kernel
theorem dX11_along_93 : decode cX11_along 93 = .ok (.ireturn, 1) := by decide +kernel
theorem dX11_ring_0 : decode cX11_ring 0 = .ok (.iload_n 1, 1) := by decide +kernel
theorem dX11_ring_1 : decode cX11_ring 1 = .ok (.iload_n 2, 1) := by decide +kernel
theorem dX11_ring_2 : decode cX11_ring 2 = .ok (.iload_n 3, 1) := by decide +kernel
theorem dX11_ring_3 : decode cX11_ring 3 = .ok (.invokestatic 169, 3) := by decide +kernel
theorem dX11_ring_6 : decode cX11_ring 6 = .ok (.ifCond .eq 16, 3) := by decide +kernel
theorem dX11_ring_9 : decode cX11_ring 9 = .ok (.iload 4, 2) := by decide +kernel
theorem dX11_ring_11 : decode cX11_ring 11 = .ok (.i2l, 1) := by decide +kernel
theorem dX11_ring_12 : decode cX11_ring 12 = .ok (.lconst 0, 1) := by decide +kernel
theorem dX11_ring_13 : decode cX11_ring 13 = .ok (.ldc2_w 257, 3) := by decide +kernel
theorem dX11_ring_16 : decode cX11_ring 16 = .ok (.invokestatic 72, 3) := by decide +kernel
theorem dX11_ring_19 : decode cX11_ring 19 = .ok (.ifCond .ne 5, 3) := by decide +kernel
theorem dX11_ring_22 : decode cX11_ring 22 = .ok (.iconst (-1), 1) := by decide +kernel
theorem dX11_ring_23 : decode cX11_ring 23 = .ok (.ireturn, 1) := by decide +kernel
theorem dX11_ring_24 : decode cX11_ring 24 = .ok (.aload_n 0, 1) := by decide +kernel
theorem dX11_ring_25 : decode cX11_ring 25 = .ok (.getfield 7, 3) := by decide +kernel
theorem dX11_ring_28 : decode cX11_ring 28 = .ok (.iload_n 1, 1) := by decide +kernel
theorem dX11_ring_29 : decode cX11_ring 29 = .ok (.iaload, 1) := by decide +kernel
theorem dX11_ring_30 : decode cX11_ring 30 = .ok (.invokestatic 157, 3) := by decide +kernel
theorem dX11_ring_33 : decode cX11_ring 33 = .ok (.ifCond .eq 6, 3) := by decide +kernel
theorem dX11_ring_36 : decode cX11_ring 36 = .ok (.bipush (-2), 2) := by decide +kernel
theorem dX11_ring_38 : decode cX11_ring 38 = .ok (.ireturn, 1) := by decide +kernel
theorem dX11_ring_39 : decode cX11_ring 39 = .ok (.aload_n 0, 1) := by decide +kernel
theorem dX11_ring_40 : decode cX11_ring 40 = .ok (.iload_n 1, 1) := by decide +kernel
theorem dX11_ring_41 : decode cX11_ring 41 = .ok (.iload_n 2, 1) := by decide +kernel
theorem dX11_ring_42 : decode cX11_ring 42 = .ok (.iload_n 3, 1) := by decide +kernel
theorem dX11_ring_43 : decode cX11_ring 43 = .ok (.invokevirtual 259, 3) := by decide +kernel
theorem dX11_ring_46 : decode cX11_ring 46 = .ok (.istore 5, 2) := by decide +kernel
theorem dX11_ring_48 : decode cX11_ring 48 = .ok (.aload_n 0, 1) := by decide +kernel
theorem dX11_ring_49 : decode cX11_ring 49 = .ok (.getfield 232, 3) := by decide +kernel
theorem dX11_ring_52 : decode cX11_ring 52 = .ok (.ifCond .eq 6, 3) := by decide +kernel
theorem dX11_ring_55 : decode cX11_ring 55 = .ok (.bipush (-4), 2) := by decide +kernel
theorem dX11_ring_57 : decode cX11_ring 57 = .ok (.ireturn, 1) := by decide +kernel
theorem dX11_ring_58 : decode cX11_ring 58 = .ok (.aload_n 0, 1) := by decide +kernel
theorem dX11_ring_59 : decode cX11_ring 59 = .ok (.getfield 32, 3) := by decide +kernel
theorem dX11_ring_62 : decode cX11_ring 62 = .ok (.iconst 4, 1) := by decide +kernel
theorem dX11_ring_63 : decode cX11_ring 63 = .ok (.aload_n 0, 1) := by decide +kernel
theorem dX11_ring_64 : decode cX11_ring 64 = .ok (.getfield 223, 3) := by decide +kernel
theorem dX11_ring_67 : decode cX11_ring 67 = .ok (.imul, 1) := by decide +kernel
theorem dX11_ring_68 : decode cX11_ring 68 = .ok (.aload_n 0, 1) := by decide +kernel
theorem dX11_ring_69 : decode cX11_ring 69 = .ok (.getfield 229, 3) := by decide +kernel
theorem dX11_ring_72 : decode cX11_ring 72 = .ok (.iadd, 1) := by decide +kernel
theorem dX11_ring_73 : decode cX11_ring 73 = .ok (.iaload, 1) := by decide +kernel
theorem dX11_ring_74 : decode cX11_ring 74 = .ok (.istore 6, 2) := by decide +kernel
theorem dX11_ring_76 : decode cX11_ring 76 = .ok (.iconst 0, 1) := by decide +kernel
theorem dX11_ring_77 : decode cX11_ring 77 = .ok (.istore 7, 2) := by decide +kernel
theorem dX11_ring_79 : decode cX11_ring 79 = .ok (.iconst 0, 1) := by decide +kernel
theorem dX11_ring_80 : decode cX11_ring 80 = .ok (.istore 8, 2) := by decide +kernel
theorem dX11_ring_82 : decode cX11_ring 82 = .ok (.iload 8, 2) := by decide +kernel
theorem dX11_ring_84 : decode cX11_ring 84 = .ok (.bipush 96, 2) := by decide +kernel
theorem dX11_ring_86 : decode cX11_ring 86 = .ok (.if_icmp .ge 66, 3) := by decide +kernel
theorem dX11_ring_89 : decode cX11_ring 89 = .ok (.iconst 0, 1) := by decide +kernel
theorem dX11_ring_90 : decode cX11_ring 90 = .ok (.istore 9, 2) := by decide +kernel
theorem dX11_ring_92 : decode cX11_ring 92 = .ok (.iconst 0, 1) := by decide +kernel
theorem dX11_ring_93 : decode cX11_ring 93 = .ok (.istore 10, 2) := by decide +kernel
theorem dX11_ring_95 : decode cX11_ring 95 = .ok (.iload 10, 2) := by decide +kernel
theorem dX11_ring_97 : decode cX11_ring 97 = .ok (.iconst 4, 1) := by decide +kernel
theorem dX11_ring_98 : decode cX11_ring 98 = .ok (.if_icmp .ge 38, 3) := by decide +kernel
theorem dX11_ring_101 : decode cX11_ring 101 = .ok (.iload 9, 2) := by decide +kernel
theorem dX11_ring_103 : decode cX11_ring 103 = .ok (.ifCond .ne 20, 3) := by decide +kernel
theorem dX11_ring_106 : decode cX11_ring 106 = .ok (.aload_n 0, 1) := by decide +kernel
theorem dX11_ring_107 : decode cX11_ring 107 = .ok (.getfield 32, 3) := by decide +kernel
theorem dX11_ring_110 : decode cX11_ring 110 = .ok (.iconst 4, 1) := by decide +kernel
theorem dX11_ring_111 : decode cX11_ring 111 = .ok (.iload 8, 2) := by decide +kernel
theorem dX11_ring_113 : decode cX11_ring 113 = .ok (.imul, 1) := by decide +kernel
theorem dX11_ring_114 : decode cX11_ring 114 = .ok (.iload 10, 2) := by decide +kernel
theorem dX11_ring_116 : decode cX11_ring 116 = .ok (.iadd, 1) := by decide +kernel
theorem dX11_ring_117 : decode cX11_ring 117 = .ok (.iaload, 1) := by decide +kernel
theorem dX11_ring_118 : decode cX11_ring 118 = .ok (.iload 6, 2) := by decide +kernel
theorem dX11_ring_120 : decode cX11_ring 120 = .ok (.if_icmp .lt 7, 3) := by decide +kernel
theorem dX11_ring_123 : decode cX11_ring 123 = .ok (.iconst 1, 1) := by decide +kernel
theorem dX11_ring_124 : decode cX11_ring 124 = .ok (.goto 4, 3) := by decide +kernel
theorem dX11_ring_127 : decode cX11_ring 127 = .ok (.iconst 0, 1) := by decide +kernel
theorem dX11_ring_128 : decode cX11_ring 128 = .ok (.istore 9, 2) := by decide +kernel
theorem dX11_ring_130 : decode cX11_ring 130 = .ok (.iinc 10 1, 3) := by decide +kernel
theorem dX11_ring_133 : decode cX11_ring 133 = .ok (.goto (-38), 3) := by decide +kernel
theorem dX11_ring_136 : decode cX11_ring 136 = .ok (.iload 7, 2) := by decide +kernel
theorem dX11_ring_138 : decode cX11_ring 138 = .ok (.iload 9, 2) := by decide +kernel
theorem dX11_ring_140 : decode cX11_ring 140 = .ok (.invokestatic 120, 3) := by decide +kernel
theorem dX11_ring_143 : decode cX11_ring 143 = .ok (.iadd, 1) := by decide +kernel
theorem dX11_ring_144 : decode cX11_ring 144 = .ok (.istore 7, 2) := by decide +kernel
theorem dX11_ring_146 : decode cX11_ring 146 = .ok (.iinc 8 1, 3) := by decide +kernel
theorem dX11_ring_149 : decode cX11_ring 149 = .ok (.goto (-67), 3) := by decide +kernel
theorem dX11_ring_152 : decode cX11_ring 152 = .ok (.iload 4, 2) := by decide +kernel
theorem dX11_ring_154 : decode cX11_ring 154 = .ok (.ifCond .ne 10, 3) := by decide +kernel
theorem dX11_ring_157 : decode cX11_ring 157 = .ok (.iload 6, 2) := by decide +kernel
theorem dX11_ring_159 : decode cX11_ring 159 = .ok (.iconst 1, 1) := by decide +kernel
theorem dX11_ring_160 : decode cX11_ring 160 = .ok (.isub, 1) := by decide +kernel
theorem dX11_ring_161 : decode cX11_ring 161 = .ok (.goto 21, 3) := by decide +kernel
theorem dX11_ring_164 : decode cX11_ring 164 = .ok (.iload 4, 2) := by decide +kernel
theorem dX11_ring_166 : decode cX11_ring 166 = .ok (.iconst 1, 1) := by decide +kernel
theorem dX11_ring_167 : decode cX11_ring 167 = .ok (.if_icmp .ne 13, 3) := by decide +kernel
theorem dX11_ring_170 : decode cX11_ring 170 = .ok (.iload 5, 2) := by decide +kernel
theorem dX11_ring_172 : decode cX11_ring 172 = .ok (.iload 6, 2) := by decide +kernel
theorem dX11_ring_174 : decode cX11_ring 174 = .ok (.isub, 1) := by decide +kernel
theorem dX11_ring_175 : decode cX11_ring 175 = .ok (.iconst 1, 1) := by decide +kernel
theorem dX11_ring_176 : decode cX11_ring 176 = .ok (.iadd, 1) := by decide +kernel
theorem dX11_ring_177 : decode cX11_ring 177 = .ok (.goto 5, 3) := by decide +kernel
theorem dX11_ring_180 : decode cX11_ring 180 = .ok (.iload 7, 2) := by decide +kernel
theorem dX11_ring_182 : decode cX11_ring 182 = .ok (.ireturn, 1) := by decide +kernel
theorem dX11_falls_0 : decode cX11_falls 0 = .ok (.iload_n 1, 1) := by decide +kernel
theorem dX11_falls_1 : decode cX11_falls 1 = .ok (.iconst 1, 1) := by decide +kernel
theorem dX11_falls_2 : decode cX11_falls 2 = .ok (.iload_n 2, 1) := by decide +kernel
theorem dX11_falls_3 : decode cX11_falls 3 = .ok (.invokestatic 169, 3) := by decide +kernel
theorem dX11_falls_6 : decode cX11_falls 6 = .ok (.ifCond .eq 10, 3) := by decide +kernel
theorem dX11_falls_9 : decode cX11_falls 9 = .ok (.iload_n 3, 1) := by decide +kernel
theorem dX11_falls_10 : decode cX11_falls 10 = .ok (.invokestatic 148, 3) := by decide +kernel
theorem dX11_falls_13 : decode cX11_falls 13 = .ok (.ifCond .ne 7, 3) := by decide +kernel
theorem dX11_falls_16 : decode cX11_falls 16 = .ok (.ldc2_w 263, 3) := by decide +kernel
theorem dX11_falls_19 : decode cX11_falls 19 = .ok (.lreturn, 1) := by decide +kernel
theorem dX11_falls_20 : decode cX11_falls 20 = .ok (.aload_n 0, 1) := by decide +kernel
theorem dX11_falls_21 : decode cX11_falls 21 = .ok (.getfield 7, 3) := by decide +kernel
theorem dX11_falls_24 : decode cX11_falls 24 = .ok (.iload_n 1, 1) := by decide +kernel
theorem dX11_falls_25 : decode cX11_falls 25 = .ok (.iaload, 1) := by decide +kernel
theorem dX11_falls_26 : decode cX11_falls 26 = .ok (.invokestatic 157, 3) := by decide +kernel
theorem dX11_falls_29 : decode cX11_falls 29 = .ok (.ifCond .ne 14, 3) := by decide +kernel
theorem dX11_falls_32 : decode cX11_falls 32 = .ok (.aload_n 0, 1) := by decide +kernel
theorem dX11_falls_33 : decode cX11_falls 33 = .ok (.getfield 7, 3) := by decide +kernel
theorem dX11_falls_36 : decode cX11_falls 36 = .ok (.iload_n 3, 1) := by decide +kernel
theorem dX11_falls_37 : decode cX11_falls 37 = .ok (.iaload, 1) := by decide +kernel
theorem dX11_falls_38 : decode cX11_falls 38 = .ok (.bipush 6, 2) := by decide +kernel
theorem dX11_falls_40 : decode cX11_falls 40 = .ok (.if_icmp .eq 7, 3) := by decide +kernel
theorem dX11_falls_43 : decode cX11_falls 43 = .ok (.ldc2_w 265, 3) := by decide +kernel
theorem dX11_falls_46 : decode cX11_falls 46 = .ok (.lreturn, 1) := by decide +kernel
theorem dX11_falls_47 : decode cX11_falls 47 = .ok (.lconst 0, 1) := by decide +kernel
theorem dX11_falls_48 : decode cX11_falls 48 = .ok (.lstore 4, 2) := by decide +kernel
theorem dX11_falls_50 : decode cX11_falls 50 = .ok (.iconst 1, 1) := by decide +kernel
theorem dX11_falls_51 : decode cX11_falls 51 = .ok (.istore 6, 2) := by decide +kernel
theorem dX11_falls_53 : decode cX11_falls 53 = .ok (.iload 6, 2) := by decide +kernel
theorem dX11_falls_55 : decode cX11_falls 55 = .ok (.bipush 60, 2) := by decide +kernel
theorem dX11_falls_57 : decode cX11_falls 57 = .ok (.if_icmp .gt 46, 3) := by decide +kernel
theorem dX11_falls_60 : decode cX11_falls 60 = .ok (.aload_n 0, 1) := by decide +kernel
theorem dX11_falls_61 : decode cX11_falls 61 = .ok (.iload_n 1, 1) := by decide +kernel
theorem dX11_falls_62 : decode cX11_falls 62 = .ok (.iload 6, 2) := by decide +kernel
theorem dX11_falls_64 : decode cX11_falls 64 = .ok (.iload_n 2, 1) := by decide +kernel
theorem dX11_falls_65 : decode cX11_falls 65 = .ok (.invokevirtual 259, 3) := by decide +kernel
theorem dX11_falls_68 : decode cX11_falls 68 = .ok (.pop, 1) := by decide +kernel
theorem dX11_falls_69 : decode cX11_falls 69 = .ok (.lload 4, 2) := by decide +kernel
theorem dX11_falls_71 : decode cX11_falls 71 = .ok (.aload_n 0, 1) := by decide +kernel
theorem dX11_falls_72 : decode cX11_falls 72 = .ok (.getfield 232, 3) := by decide +kernel
theorem dX11_falls_75 : decode cX11_falls 75 = .ok (.ifCond .eq 18, 3) := by decide +kernel
theorem dX11_falls_78 : decode cX11_falls 78 = .ok (.aload_n 0, 1) := by decide +kernel
theorem dX11_falls_79 : decode cX11_falls 79 = .ok (.getfield 223, 3) := by decide +kernel
theorem dX11_falls_82 : decode cX11_falls 82 = .ok (.iload_n 3, 1) := by decide +kernel
theorem dX11_falls_83 : decode cX11_falls 83 = .ok (.if_icmp .ne 10, 3) := by decide +kernel
theorem dX11_falls_86 : decode cX11_falls 86 = .ok (.lconst 1, 1) := by decide +kernel
theorem dX11_falls_87 : decode cX11_falls 87 = .ok (.iload 6, 2) := by decide +kernel
theorem dX11_falls_89 : decode cX11_falls 89 = .ok (.lshl, 1) := by decide +kernel
theorem dX11_falls_90 : decode cX11_falls 90 = .ok (.goto 4, 3) := by decide +kernel
theorem dX11_falls_93 : decode cX11_falls 93 = .ok (.lconst 0, 1) := by decide +kernel
theorem dX11_falls_94 : decode cX11_falls 94 = .ok (.lor, 1) := by decide +kernel
theorem dX11_falls_95 : decode cX11_falls 95 = .ok (.lstore 4, 2) := by decide +kernel
theorem dX11_falls_97 : decode cX11_falls 97 = .ok (.iinc 6 1, 3) := by decide +kernel
theorem dX11_falls_100 : decode cX11_falls 100 = .ok (.goto (-47), 3) := by decide +kernel
theorem dX11_falls_103 : decode cX11_falls 103 = .ok (.lload 4, 2) := by decide +kernel
theorem dX11_falls_105 : decode cX11_falls 105 = .ok (.lreturn, 1) := by decide +kernel
theorem dX11_mend_0 : decode cX11_mend 0 = .ok (.iload_n 1, 1) := by decide +kernel
theorem dX11_mend_1 : decode cX11_mend 1 = .ok (.iload_n 2, 1) := by decide +kernel
theorem dX11_mend_2 : decode cX11_mend 2 = .ok (.iload_n 3, 1) := by decide +kernel
theorem dX11_mend_3 : decode cX11_mend 3 = .ok (.invokestatic 169, 3) := by decide +kernel
theorem dX11_mend_6 : decode cX11_mend 6 = .ok (.ifCond .eq 24, 3) := by decide +kernel
theorem dX11_mend_9 : decode cX11_mend 9 = .ok (.iload 4, 2) := by decide +kernel
theorem dX11_mend_11 : decode cX11_mend 11 = .ok (.invokestatic 148, 3) := by decide +kernel
theorem dX11_mend_14 : decode cX11_mend 14 = .ok (.ifCond .eq 16, 3) := by decide +kernel
theorem dX11_mend_17 : decode cX11_mend 17 = .ok (.iload 5, 2) := by decide +kernel
theorem dX11_mend_19 : decode cX11_mend 19 = .ok (.i2l, 1) := by decide +kernel
theorem dX11_mend_20 : decode cX11_mend 20 = .ok (.lconst 0, 1) := by decide +kernel
theorem dX11_mend_21 : decode cX11_mend 21 = .ok (.ldc2_w 257, 3) := by decide +kernel
theorem dX11_mend_24 : decode cX11_mend 24 = .ok (.invokestatic 72, 3) := by decide +kernel
theorem dX11_mend_27 : decode cX11_mend 27 = .ok (.ifCond .ne 5, 3) := by decide +kernel
theorem dX11_mend_30 : decode cX11_mend 30 = .ok (.iconst (-1), 1) := by decide +kernel
theorem dX11_mend_31 : decode cX11_mend 31 = .ok (.ireturn, 1) := by decide +kernel
theorem dX11_mend_32 : decode cX11_mend 32 = .ok (.aload_n 0, 1) := by decide +kernel
theorem dX11_mend_33 : decode cX11_mend 33 = .ok (.getfield 7, 3) := by decide +kernel
theorem dX11_mend_36 : decode cX11_mend 36 = .ok (.iload_n 1, 1) := by decide +kernel
theorem dX11_mend_37 : decode cX11_mend 37 = .ok (.iaload, 1) := by decide +kernel
theorem dX11_mend_38 : decode cX11_mend 38 = .ok (.invokestatic 157, 3) := by decide +kernel
theorem dX11_mend_41 : decode cX11_mend 41 = .ok (.ifCond .eq 6, 3) := by decide +kernel
theorem dX11_mend_44 : decode cX11_mend 44 = .ok (.bipush (-2), 2) := by decide +kernel
theorem dX11_mend_46 : decode cX11_mend 46 = .ok (.ireturn, 1) := by decide +kernel
theorem dX11_mend_47 : decode cX11_mend 47 = .ok (.aload_n 0, 1) := by decide +kernel
theorem dX11_mend_48 : decode cX11_mend 48 = .ok (.iload_n 1, 1) := by decide +kernel
theorem dX11_mend_49 : decode cX11_mend 49 = .ok (.iload_n 2, 1) := by decide +kernel
theorem dX11_mend_50 : decode cX11_mend 50 = .ok (.iload_n 3, 1) := by decide +kernel
theorem dX11_mend_51 : decode cX11_mend 51 = .ok (.iload 4, 2) := by decide +kernel
theorem dX11_mend_53 : decode cX11_mend 53 = .ok (.invokevirtual 253, 3) := by decide +kernel
theorem dX11_mend_56 : decode cX11_mend 56 = .ok (.istore 6, 2) := by decide +kernel
theorem dX11_mend_58 : decode cX11_mend 58 = .ok (.bipush (-4), 2) := by decide +kernel
theorem dX11_mend_60 : decode cX11_mend 60 = .ok (.istore 7, 2) := by decide +kernel
theorem dX11_mend_62 : decode cX11_mend 62 = .ok (.iconst 0, 1) := by decide +kernel
theorem dX11_mend_63 : decode cX11_mend 63 = .ok (.istore 8, 2) := by decide +kernel
theorem dX11_mend_65 : decode cX11_mend 65 = .ok (.iload 8, 2) := by decide +kernel
theorem dX11_mend_67 : decode cX11_mend 67 = .ok (.bipush 96, 2) := by decide +kernel
theorem dX11_mend_69 : decode cX11_mend 69 = .ok (.if_icmp .ge 114, 3) := by decide +kernel
theorem dX11_mend_72 : decode cX11_mend 72 = .ok (.aload_n 0, 1) := by decide +kernel
theorem dX11_mend_73 : decode cX11_mend 73 = .ok (.getfield 7, 3) := by decide +kernel
theorem dX11_mend_76 : decode cX11_mend 76 = .ok (.iload 8, 2) := by decide +kernel
theorem dX11_mend_78 : decode cX11_mend 78 = .ok (.iaload, 1) := by decide +kernel
theorem dX11_mend_79 : decode cX11_mend 79 = .ok (.istore 9, 2) := by decide +kernel
theorem dX11_mend_81 : decode cX11_mend 81 = .ok (.iconst 0, 1) := by decide +kernel
theorem dX11_mend_82 : decode cX11_mend 82 = .ok (.istore 10, 2) := by decide +kernel
theorem dX11_mend_84 : decode cX11_mend 84 = .ok (.iload 10, 2) := by decide +kernel
theorem dX11_mend_86 : decode cX11_mend 86 = .ok (.iconst 4, 1) := by decide +kernel
theorem dX11_mend_87 : decode cX11_mend 87 = .ok (.if_icmp .gt 81, 3) := by decide +kernel
theorem dX11_mend_90 : decode cX11_mend 90 = .ok (.iload 9, 2) := by decide +kernel
theorem dX11_mend_92 : decode cX11_mend 92 = .ok (.iconst 4, 1) := by decide +kernel
theorem dX11_mend_93 : decode cX11_mend 93 = .ok (.if_icmp .gt 75, 3) := by decide +kernel
theorem dX11_mend_96 : decode cX11_mend 96 = .ok (.aload_n 0, 1) := by decide +kernel
theorem dX11_mend_97 : decode cX11_mend 97 = .ok (.getfield 7, 3) := by decide +kernel
theorem dX11_mend_100 : decode cX11_mend 100 = .ok (.iload 8, 2) := by decide +kernel
theorem dX11_mend_102 : decode cX11_mend 102 = .ok (.iload 10, 2) := by decide +kernel
theorem dX11_mend_104 : decode cX11_mend 104 = .ok (.iastore, 1) := by decide +kernel
theorem dX11_mend_105 : decode cX11_mend 105 = .ok (.iload 10, 2) := by decide +kernel
theorem dX11_mend_107 : decode cX11_mend 107 = .ok (.iload 9, 2) := by decide +kernel
theorem dX11_mend_109 : decode cX11_mend 109 = .ok (.if_icmp .ne 8, 3) := by decide +kernel
theorem dX11_mend_112 : decode cX11_mend 112 = .ok (.bipush (-4), 2) := by decide +kernel
theorem dX11_mend_114 : decode cX11_mend 114 = .ok (.goto 12, 3) := by decide +kernel
theorem dX11_mend_117 : decode cX11_mend 117 = .ok (.aload_n 0, 1) := by decide +kernel
theorem dX11_mend_118 : decode cX11_mend 118 = .ok (.iload_n 1, 1) := by decide +kernel
theorem dX11_mend_119 : decode cX11_mend 119 = .ok (.iload_n 2, 1) := by decide +kernel
theorem dX11_mend_120 : decode cX11_mend 120 = .ok (.iload_n 3, 1) := by decide +kernel
theorem dX11_mend_121 : decode cX11_mend 121 = .ok (.iload 4, 2) := by decide +kernel
theorem dX11_mend_123 : decode cX11_mend 123 = .ok (.invokevirtual 253, 3) := by decide +kernel
theorem dX11_mend_126 : decode cX11_mend 126 = .ok (.istore 11, 2) := by decide +kernel
theorem dX11_mend_128 : decode cX11_mend 128 = .ok (.iload 11, 2) := by decide +kernel
theorem dX11_mend_130 : decode cX11_mend 130 = .ok (.bipush (-4), 2) := by decide +kernel
theorem dX11_mend_132 : decode cX11_mend 132 = .ok (.if_icmp .eq 30, 3) := by decide +kernel
theorem dX11_mend_135 : decode cX11_mend 135 = .ok (.iload 6, 2) := by decide +kernel
theorem dX11_mend_137 : decode cX11_mend 137 = .ok (.bipush (-4), 2) := by decide +kernel
theorem dX11_mend_139 : decode cX11_mend 139 = .ok (.if_icmp .eq 10, 3) := by decide +kernel
theorem dX11_mend_142 : decode cX11_mend 142 = .ok (.iload 11, 2) := by decide +kernel
theorem dX11_mend_144 : decode cX11_mend 144 = .ok (.iload 6, 2) := by decide +kernel
theorem dX11_mend_146 : decode cX11_mend 146 = .ok (.if_icmp .ge 16, 3) := by decide +kernel
theorem dX11_mend_149 : decode cX11_mend 149 = .ok (.iload 11, 2) := by decide +kernel
theorem dX11_mend_151 : decode cX11_mend 151 = .ok (.istore 6, 2) := by decide +kernel
theorem dX11_mend_153 : decode cX11_mend 153 = .ok (.iconst 5, 1) := by decide +kernel
theorem dX11_mend_154 : decode cX11_mend 154 = .ok (.iload 8, 2) := by decide +kernel
theorem dX11_mend_156 : decode cX11_mend 156 = .ok (.imul, 1) := by decide +kernel
theorem dX11_mend_157 : decode cX11_mend 157 = .ok (.iload 10, 2) := by decide +kernel
theorem dX11_mend_159 : decode cX11_mend 159 = .ok (.iadd, 1) := by decide +kernel
theorem dX11_mend_160 : decode cX11_mend 160 = .ok (.istore 7, 2) := by decide +kernel
theorem dX11_mend_162 : decode cX11_mend 162 = .ok (.iinc 10 1, 3) := by decide +kernel
theorem dX11_mend_165 : decode cX11_mend 165 = .ok (.goto (-81), 3) := by decide +kernel
theorem dX11_mend_168 : decode cX11_mend 168 = .ok (.aload_n 0, 1) := by decide +kernel
theorem dX11_mend_169 : decode cX11_mend 169 = .ok (.getfield 7, 3) := by decide +kernel
theorem dX11_mend_172 : decode cX11_mend 172 = .ok (.iload 8, 2) := by decide +kernel
theorem dX11_mend_174 : decode cX11_mend 174 = .ok (.iload 9, 2) := by decide +kernel
theorem dX11_mend_176 : decode cX11_mend 176 = .ok (.iastore, 1) := by decide +kernel
theorem dX11_mend_177 : decode cX11_mend 177 = .ok (.iinc 8 1, 3) := by decide +kernel
theorem dX11_mend_180 : decode cX11_mend 180 = .ok (.goto (-115), 3) := by decide +kernel
theorem dX11_mend_183 : decode cX11_mend 183 = .ok (.iload 7, 2) := by decide +kernel
theorem dX11_mend_185 : decode cX11_mend 185 = .ok (.bipush (-4), 2) := by decide +kernel
theorem dX11_mend_187 : decode cX11_mend 187 = .ok (.if_icmp .ne 8, 3) := by decide +kernel
theorem dX11_mend_190 : decode cX11_mend 190 = .ok (.bipush (-4), 2) := by decide +kernel
theorem dX11_mend_192 : decode cX11_mend 192 = .ok (.goto 30, 3) := by decide +kernel
theorem dX11_mend_195 : decode cX11_mend 195 = .ok (.iload 5, 2) := by decide +kernel
theorem dX11_mend_197 : decode cX11_mend 197 = .ok (.ifCond .ne 8, 3) := by decide +kernel
theorem dX11_mend_200 : decode cX11_mend 200 = .ok (.iload 6, 2) := by decide +kernel
theorem dX11_mend_202 : decode cX11_mend 202 = .ok (.goto 20, 3) := by decide +kernel
theorem dX11_mend_205 : decode cX11_mend 205 = .ok (.iload 5, 2) := by decide +kernel
theorem dX11_mend_207 : decode cX11_mend 207 = .ok (.iconst 1, 1) := by decide +kernel
theorem dX11_mend_208 : decode cX11_mend 208 = .ok (.if_icmp .ne 10, 3) := by decide +kernel
theorem dX11_mend_211 : decode cX11_mend 211 = .ok (.iload 7, 2) := by decide +kernel
theorem dX11_mend_213 : decode cX11_mend 213 = .ok (.iconst 5, 1) := by decide +kernel
theorem dX11_mend_214 : decode cX11_mend 214 = .ok (.idiv, 1) := by decide +kernel
theorem dX11_mend_215 : decode cX11_mend 215 = .ok (.goto 7, 3) := by decide +kernel
theorem dX11_mend_218 : decode cX11_mend 218 = .ok (.iload 7, 2) := by decide +kernel
theorem dX11_mend_220 : decode cX11_mend 220 = .ok (.iconst 5, 1) := by decide +kernel
theorem dX11_mend_221 : decode cX11_mend 221 = .ok (.irem, 1) := by decide +kernel
theorem dX11_mend_222 : decode cX11_mend 222 = .ok (.ireturn, 1) := by decide +kernel
theorem dX11_lifeOf_0 : decode cX11_lifeOf 0 = .ok (.iload_n 1, 1) := by decide +kernel
theorem dX11_lifeOf_1 : decode cX11_lifeOf 1 = .ok (.istore 4, 2) := by decide +kernel
theorem dX11_lifeOf_3 : decode cX11_lifeOf 3 = .ok (.iconst 0, 1) := by decide +kernel
theorem dX11_lifeOf_4 : decode cX11_lifeOf 4 = .ok (.istore 5, 2) := by decide +kernel
theorem dX11_lifeOf_6 : decode cX11_lifeOf 6 = .ok (.iconst 1, 1) := by decide +kernel
theorem dX11_lifeOf_7 : decode cX11_lifeOf 7 = .ok (.istore 6, 2) := by decide +kernel
theorem dX11_lifeOf_9 : decode cX11_lifeOf 9 = .ok (.iload 6, 2) := by decide +kernel
theorem dX11_lifeOf_11 : decode cX11_lifeOf 11 = .ok (.ifCond .eq 63, 3) := by decide +kernel
theorem dX11_lifeOf_14 : decode cX11_lifeOf 14 = .ok (.iload 4, 2) := by decide +kernel
theorem dX11_lifeOf_16 : decode cX11_lifeOf 16 = .ok (.iload_n 3, 1) := by decide +kernel
theorem dX11_lifeOf_17 : decode cX11_lifeOf 17 = .ok (.ifCond .eq 14, 3) := by decide +kernel
theorem dX11_lifeOf_20 : decode cX11_lifeOf 20 = .ok (.aload_n 0, 1) := by decide +kernel
theorem dX11_lifeOf_21 : decode cX11_lifeOf 21 = .ok (.iload 4, 2) := by decide +kernel
theorem dX11_lifeOf_23 : decode cX11_lifeOf 23 = .ok (.iload 5, 2) := by decide +kernel
theorem dX11_lifeOf_25 : decode cX11_lifeOf 25 = .ok (.invokevirtual 205, 3) := by decide +kernel
theorem dX11_lifeOf_28 : decode cX11_lifeOf 28 = .ok (.goto 10, 3) := by decide +kernel
theorem dX11_lifeOf_31 : decode cX11_lifeOf 31 = .ok (.aload_n 0, 1) := by decide +kernel
theorem dX11_lifeOf_32 : decode cX11_lifeOf 32 = .ok (.iload 4, 2) := by decide +kernel
theorem dX11_lifeOf_34 : decode cX11_lifeOf 34 = .ok (.iload_n 2, 1) := by decide +kernel
theorem dX11_lifeOf_35 : decode cX11_lifeOf 35 = .ok (.invokevirtual 199, 3) := by decide +kernel
theorem dX11_lifeOf_38 : decode cX11_lifeOf 38 = .ok (.isub, 1) := by decide +kernel
theorem dX11_lifeOf_39 : decode cX11_lifeOf 39 = .ok (.istore 4, 2) := by decide +kernel
theorem dX11_lifeOf_41 : decode cX11_lifeOf 41 = .ok (.iload 4, 2) := by decide +kernel
theorem dX11_lifeOf_43 : decode cX11_lifeOf 43 = .ok (.ifCond .le 22, 3) := by decide +kernel
theorem dX11_lifeOf_46 : decode cX11_lifeOf 46 = .ok (.iload_n 3, 1) := by decide +kernel
theorem dX11_lifeOf_47 : decode cX11_lifeOf 47 = .ok (.ifCond .eq 14, 3) := by decide +kernel
theorem dX11_lifeOf_50 : decode cX11_lifeOf 50 = .ok (.iload 4, 2) := by decide +kernel
theorem dX11_lifeOf_52 : decode cX11_lifeOf 52 = .ok (.aload_n 0, 1) := by decide +kernel
theorem dX11_lifeOf_53 : decode cX11_lifeOf 53 = .ok (.getfield 17, 3) := by decide +kernel
theorem dX11_lifeOf_56 : decode cX11_lifeOf 56 = .ok (.iconst 4, 1) := by decide +kernel
theorem dX11_lifeOf_57 : decode cX11_lifeOf 57 = .ok (.iaload, 1) := by decide +kernel
theorem dX11_lifeOf_58 : decode cX11_lifeOf 58 = .ok (.if_icmp .le 7, 3) := by decide +kernel
theorem dX11_lifeOf_61 : decode cX11_lifeOf 61 = .ok (.iconst 1, 1) := by decide +kernel
theorem dX11_lifeOf_62 : decode cX11_lifeOf 62 = .ok (.goto 4, 3) := by decide +kernel
theorem dX11_lifeOf_65 : decode cX11_lifeOf 65 = .ok (.iconst 0, 1) := by decide +kernel
theorem dX11_lifeOf_66 : decode cX11_lifeOf 66 = .ok (.istore 6, 2) := by decide +kernel
theorem dX11_lifeOf_68 : decode cX11_lifeOf 68 = .ok (.iinc 5 1, 3) := by decide +kernel
theorem dX11_lifeOf_71 : decode cX11_lifeOf 71 = .ok (.goto (-62), 3) := by decide +kernel
theorem dX11_lifeOf_74 : decode cX11_lifeOf 74 = .ok (.iload 5, 2) := by decide +kernel
theorem dX11_lifeOf_76 : decode cX11_lifeOf 76 = .ok (.ireturn, 1) := by decide +kernel
theorem dX11_floatsAt_0 : decode cX11_floatsAt 0 = .ok (.iload_n 1, 1) := by decide +kernel
theorem dX11_floatsAt_1 : decode cX11_floatsAt 1 = .ok (.iload_n 2, 1) := by decide +kernel
theorem dX11_floatsAt_2 : decode cX11_floatsAt 2 = .ok (.ifCond .eq 12, 3) := by decide +kernel
theorem dX11_floatsAt_5 : decode cX11_floatsAt 5 = .ok (.aload_n 0, 1) := by decide +kernel
theorem dX11_floatsAt_6 : decode cX11_floatsAt 6 = .ok (.getfield 17, 3) := by decide +kernel
theorem dX11_floatsAt_9 : decode cX11_floatsAt 9 = .ok (.iconst 0, 1) := by decide +kernel
theorem dX11_floatsAt_10 : decode cX11_floatsAt 10 = .ok (.iaload, 1) := by decide +kernel
theorem dX11_floatsAt_11 : decode cX11_floatsAt 11 = .ok (.goto 9, 3) := by decide +kernel
theorem dX11_floatsAt_14 : decode cX11_floatsAt 14 = .ok (.aload_n 0, 1) := by decide +kernel
theorem dX11_floatsAt_15 : decode cX11_floatsAt 15 = .ok (.getfield 17, 3) := by decide +kernel
theorem dX11_floatsAt_18 : decode cX11_floatsAt 18 = .ok (.iconst 1, 1) := by decide +kernel
theorem dX11_floatsAt_19 : decode cX11_floatsAt 19 = .ok (.iaload, 1) := by decide +kernel
theorem dX11_floatsAt_20 : decode cX11_floatsAt 20 = .ok (.if_icmp .lt 7, 3) := by decide +kernel
theorem dX11_floatsAt_23 : decode cX11_floatsAt 23 = .ok (.iconst 1, 1) := by decide +kernel
theorem dX11_floatsAt_24 : decode cX11_floatsAt 24 = .ok (.goto 4, 3) := by decide +kernel
theorem dX11_floatsAt_27 : decode cX11_floatsAt 27 = .ok (.iconst 0, 1) := by decide +kernel
theorem dX11_floatsAt_28 : decode cX11_floatsAt 28 = .ok (.ireturn, 1) := by decide +kernel
theorem dX11_lifeAt_0 : decode cX11_lifeAt 0 = .ok (.aload_n 0, 1) := by decide +kernel
theorem dX11_lifeAt_1 : decode cX11_lifeAt 1 = .ok (.iload_n 1, 1) := by decide +kernel
theorem dX11_lifeAt_2 : decode cX11_lifeAt 2 = .ok (.iload_n 2, 1) := by decide +kernel
theorem dX11_lifeAt_3 : decode cX11_lifeAt 3 = .ok (.aload_n 0, 1) := by decide +kernel
theorem dX11_lifeAt_4 : decode cX11_lifeAt 4 = .ok (.iload_n 2, 1) := by decide +kernel
theorem dX11_lifeAt_5 : decode cX11_lifeAt 5 = .ok (.iload_n 3, 1) := by decide +kernel
theorem dX11_lifeAt_6 : decode cX11_lifeAt 6 = .ok (.invokevirtual 267, 3) := by decide +kernel
theorem dX11_lifeAt_9 : decode cX11_lifeAt 9 = .ok (.invokevirtual 271, 3) := by decide +kernel
theorem dX11_lifeAt_12 : decode cX11_lifeAt 12 = .ok (.ireturn, 1) := by decide +kernel
theorem dX11_isSize_0 : decode cX11_isSize 0 = .ok (.iload_n 0, 1) := by decide +kernel
theorem dX11_isSize_1 : decode cX11_isSize 1 = .ok (.i2l, 1) := by decide +kernel
theorem dX11_isSize_2 : decode cX11_isSize 2 = .ok (.lconst 1, 1) := by decide +kernel
theorem dX11_isSize_3 : decode cX11_isSize 3 = .ok (.ldc2_w 165, 3) := by decide +kernel
theorem dX11_isSize_6 : decode cX11_isSize 6 = .ok (.invokestatic 72, 3) := by decide +kernel
theorem dX11_isSize_9 : decode cX11_isSize 9 = .ok (.ireturn, 1) := by decide +kernel
theorem dX11_isHeat_0 : decode cX11_isHeat 0 = .ok (.iload_n 0, 1) := by decide +kernel
theorem dX11_isHeat_1 : decode cX11_isHeat 1 = .ok (.i2l, 1) := by decide +kernel
theorem dX11_isHeat_2 : decode cX11_isHeat 2 = .ok (.lconst 0, 1) := by decide +kernel
theorem dX11_isHeat_3 : decode cX11_isHeat 3 = .ok (.ldc2_w 163, 3) := by decide +kernel
theorem dX11_isHeat_6 : decode cX11_isHeat 6 = .ok (.invokestatic 72, 3) := by decide +kernel
theorem dX11_isHeat_9 : decode cX11_isHeat 9 = .ok (.ireturn, 1) := by decide +kernel
theorem dX11_life_0 : decode cX11_life 0 = .ok (.iload_n 1, 1) := by decide +kernel
theorem dX11_life_1 : decode cX11_life 1 = .ok (.invokestatic 275, 3) := by decide +kernel
theorem dX11_life_4 : decode cX11_life 4 = .ok (.ifCond .eq 20, 3) := by decide +kernel
theorem dX11_life_7 : decode cX11_life 7 = .ok (.iload_n 2, 1) := by decide +kernel
theorem dX11_life_8 : decode cX11_life 8 = .ok (.invokestatic 278, 3) := by decide +kernel
theorem dX11_life_11 : decode cX11_life 11 = .ok (.ifCond .eq 13, 3) := by decide +kernel
theorem dX11_life_14 : decode cX11_life 14 = .ok (.aload_n 0, 1) := by decide +kernel
theorem dX11_life_15 : decode cX11_life 15 = .ok (.iload_n 1, 1) := by decide +kernel
theorem dX11_life_16 : decode cX11_life 16 = .ok (.iload_n 2, 1) := by decide +kernel
theorem dX11_life_17 : decode cX11_life 17 = .ok (.iload_n 3, 1) := by decide +kernel
theorem dX11_life_18 : decode cX11_life 18 = .ok (.invokevirtual 281, 3) := by decide +kernel
theorem dX11_life_21 : decode cX11_life 21 = .ok (.goto 4, 3) := by decide +kernel
theorem dX11_life_24 : decode cX11_life 24 = .ok (.iconst (-1), 1) := by decide +kernel
theorem dX11_life_25 : decode cX11_life 25 = .ok (.ireturn, 1) := by decide +kernel
theorem dX11_hump_0 : decode cX11_hump 0 = .ok (.iload_n 1, 1) := by decide +kernel
theorem dX11_hump_1 : decode cX11_hump 1 = .ok (.invokestatic 275, 3) := by decide +kernel
theorem dX11_hump_4 : decode cX11_hump 4 = .ok (.ifCond .eq 15, 3) := by decide +kernel
theorem dX11_hump_7 : decode cX11_hump 7 = .ok (.iload_n 3, 1) := by decide +kernel
theorem dX11_hump_8 : decode cX11_hump 8 = .ok (.i2l, 1) := by decide +kernel
theorem dX11_hump_9 : decode cX11_hump 9 = .ok (.lconst 0, 1) := by decide +kernel
theorem dX11_hump_10 : decode cX11_hump 10 = .ok (.ldc2_w 167, 3) := by decide +kernel
theorem dX11_hump_13 : decode cX11_hump 13 = .ok (.invokestatic 72, 3) := by decide +kernel
theorem dX11_hump_16 : decode cX11_hump 16 = .ok (.ifCond .ne 5, 3) := by decide +kernel
theorem dX11_hump_19 : decode cX11_hump 19 = .ok (.iconst (-1), 1) := by decide +kernel
theorem dX11_hump_20 : decode cX11_hump 20 = .ok (.ireturn, 1) := by decide +kernel
theorem dX11_hump_21 : decode cX11_hump 21 = .ok (.iconst 0, 1) := by decide +kernel
theorem dX11_hump_22 : decode cX11_hump 22 = .ok (.istore 4, 2) := by decide +kernel
theorem dX11_hump_24 : decode cX11_hump 24 = .ok (.iconst (-1), 1) := by decide +kernel
theorem dX11_hump_25 : decode cX11_hump 25 = .ok (.istore 5, 2) := by decide +kernel
theorem dX11_hump_27 : decode cX11_hump 27 = .ok (.ldc_w 284, 3) := by decide +kernel
theorem dX11_hump_30 : decode cX11_hump 30 = .ok (.istore 6, 2) := by decide +kernel
theorem dX11_hump_32 : decode cX11_hump 32 = .ok (.bipush (-4), 2) := by decide +kernel
theorem dX11_hump_34 : decode cX11_hump 34 = .ok (.istore 7, 2) := by decide +kernel
theorem dX11_hump_36 : decode cX11_hump 36 = .ok (.iconst 0, 1) := by decide +kernel
theorem dX11_hump_37 : decode cX11_hump 37 = .ok (.istore 8, 2) := by decide +kernel
theorem dX11_hump_39 : decode cX11_hump 39 = .ok (.iconst 0, 1) := by decide +kernel
theorem dX11_hump_40 : decode cX11_hump 40 = .ok (.istore 9, 2) := by decide +kernel
theorem dX11_hump_42 : decode cX11_hump 42 = .ok (.iload 9, 2) := by decide +kernel
theorem dX11_hump_44 : decode cX11_hump 44 = .ok (.bipush 99, 2) := by decide +kernel
theorem dX11_hump_46 : decode cX11_hump 46 = .ok (.if_icmp .gt 104, 3) := by decide +kernel
theorem dX11_hump_49 : decode cX11_hump 49 = .ok (.aload_n 0, 1) := by decide +kernel
theorem dX11_hump_50 : decode cX11_hump 50 = .ok (.iload_n 1, 1) := by decide +kernel
theorem dX11_hump_51 : decode cX11_hump 51 = .ok (.iload 9, 2) := by decide +kernel
theorem dX11_hump_53 : decode cX11_hump 53 = .ok (.iload_n 2, 1) := by decide +kernel
theorem dX11_hump_54 : decode cX11_hump 54 = .ok (.invokevirtual 281, 3) := by decide +kernel
theorem dX11_hump_57 : decode cX11_hump 57 = .ok (.istore 10, 2) := by decide +kernel
theorem dX11_hump_59 : decode cX11_hump 59 = .ok (.iload 10, 2) := by decide +kernel
theorem dX11_hump_61 : decode cX11_hump 61 = .ok (.iload 5, 2) := by decide +kernel
theorem dX11_hump_63 : decode cX11_hump 63 = .ok (.if_icmp .le 8, 3) := by decide +kernel
theorem dX11_hump_66 : decode cX11_hump 66 = .ok (.iload 9, 2) := by decide +kernel
theorem dX11_hump_68 : decode cX11_hump 68 = .ok (.goto 5, 3) := by decide +kernel
theorem dX11_hump_71 : decode cX11_hump 71 = .ok (.iload 4, 2) := by decide +kernel
theorem dX11_hump_73 : decode cX11_hump 73 = .ok (.istore 4, 2) := by decide +kernel
theorem dX11_hump_75 : decode cX11_hump 75 = .ok (.iload 10, 2) := by decide +kernel
theorem dX11_hump_77 : decode cX11_hump 77 = .ok (.iload 5, 2) := by decide +kernel
theorem dX11_hump_79 : decode cX11_hump 79 = .ok (.if_icmp .le 8, 3) := by decide +kernel
theorem dX11_hump_82 : decode cX11_hump 82 = .ok (.iload 10, 2) := by decide +kernel
theorem dX11_hump_84 : decode cX11_hump 84 = .ok (.goto 5, 3) := by decide +kernel
theorem dX11_hump_87 : decode cX11_hump 87 = .ok (.iload 5, 2) := by decide +kernel
theorem dX11_hump_89 : decode cX11_hump 89 = .ok (.istore 5, 2) := by decide +kernel
theorem dX11_hump_91 : decode cX11_hump 91 = .ok (.iload 9, 2) := by decide +kernel
theorem dX11_hump_93 : decode cX11_hump 93 = .ok (.ifCond .le 15, 3) := by decide +kernel
theorem dX11_hump_96 : decode cX11_hump 96 = .ok (.iload 10, 2) := by decide +kernel
theorem dX11_hump_98 : decode cX11_hump 98 = .ok (.iload 6, 2) := by decide +kernel
theorem dX11_hump_100 : decode cX11_hump 100 = .ok (.if_icmp .ge 8, 3) := by decide +kernel
theorem dX11_hump_103 : decode cX11_hump 103 = .ok (.iload 10, 2) := by decide +kernel
theorem dX11_hump_105 : decode cX11_hump 105 = .ok (.goto 5, 3) := by decide +kernel
theorem dX11_hump_108 : decode cX11_hump 108 = .ok (.iload 6, 2) := by decide +kernel
theorem dX11_hump_110 : decode cX11_hump 110 = .ok (.istore 6, 2) := by decide +kernel
theorem dX11_hump_112 : decode cX11_hump 112 = .ok (.iload 9, 2) := by decide +kernel
theorem dX11_hump_114 : decode cX11_hump 114 = .ok (.ifCond .le 22, 3) := by decide +kernel
theorem dX11_hump_117 : decode cX11_hump 117 = .ok (.iload 10, 2) := by decide +kernel
theorem dX11_hump_119 : decode cX11_hump 119 = .ok (.iload 8, 2) := by decide +kernel
theorem dX11_hump_121 : decode cX11_hump 121 = .ok (.if_icmp .le 15, 3) := by decide +kernel
theorem dX11_hump_124 : decode cX11_hump 124 = .ok (.iload 7, 2) := by decide +kernel
theorem dX11_hump_126 : decode cX11_hump 126 = .ok (.bipush (-4), 2) := by decide +kernel
theorem dX11_hump_128 : decode cX11_hump 128 = .ok (.if_icmp .ne 8, 3) := by decide +kernel
theorem dX11_hump_131 : decode cX11_hump 131 = .ok (.iload 9, 2) := by decide +kernel
theorem dX11_hump_133 : decode cX11_hump 133 = .ok (.goto 5, 3) := by decide +kernel
theorem dX11_hump_136 : decode cX11_hump 136 = .ok (.iload 7, 2) := by decide +kernel
theorem dX11_hump_138 : decode cX11_hump 138 = .ok (.istore 7, 2) := by decide +kernel
theorem dX11_hump_140 : decode cX11_hump 140 = .ok (.iload 10, 2) := by decide +kernel
theorem dX11_hump_142 : decode cX11_hump 142 = .ok (.istore 8, 2) := by decide +kernel
theorem dX11_hump_144 : decode cX11_hump 144 = .ok (.iinc 9 1, 3) := by decide +kernel
theorem dX11_hump_147 : decode cX11_hump 147 = .ok (.goto (-105), 3) := by decide +kernel
theorem dX11_hump_150 : decode cX11_hump 150 = .ok (.iload_n 3, 1) := by decide +kernel
theorem dX11_hump_151 : decode cX11_hump 151 = .ok (.ifCond .ne 8, 3) := by decide +kernel
theorem dX11_hump_154 : decode cX11_hump 154 = .ok (.iload 4, 2) := by decide +kernel
theorem dX11_hump_156 : decode cX11_hump 156 = .ok (.goto 25, 3) := by decide +kernel
theorem dX11_hump_159 : decode cX11_hump 159 = .ok (.iload_n 3, 1) := by decide +kernel
theorem dX11_hump_160 : decode cX11_hump 160 = .ok (.iconst 1, 1) := by decide +kernel
theorem dX11_hump_161 : decode cX11_hump 161 = .ok (.if_icmp .ne 8, 3) := by decide +kernel
theorem dX11_hump_164 : decode cX11_hump 164 = .ok (.iload 5, 2) := by decide +kernel
theorem dX11_hump_166 : decode cX11_hump 166 = .ok (.goto 15, 3) := by decide +kernel
theorem dX11_hump_169 : decode cX11_hump 169 = .ok (.iload_n 3, 1) := by decide +kernel
theorem dX11_hump_170 : decode cX11_hump 170 = .ok (.iconst 2, 1) := by decide +kernel
theorem dX11_hump_171 : decode cX11_hump 171 = .ok (.if_icmp .ne 8, 3) := by decide +kernel
theorem dX11_hump_174 : decode cX11_hump 174 = .ok (.iload 6, 2) := by decide +kernel
theorem dX11_hump_176 : decode cX11_hump 176 = .ok (.goto 5, 3) := by decide +kernel
theorem dX11_hump_179 : decode cX11_hump 179 = .ok (.iload 7, 2) := by decide +kernel
theorem dX11_hump_181 : decode cX11_hump 181 = .ok (.ireturn, 1) := by decide +kernel
theorem dX11_isLife_0 : decode cX11_isLife 0 = .ok (.iload_n 0, 1) := by decide +kernel
theorem dX11_isLife_1 : decode cX11_isLife 1 = .ok (.i2l, 1) := by decide +kernel
theorem dX11_isLife_2 : decode cX11_isLife 2 = .ok (.lconst 0, 1) := by decide +kernel
theorem dX11_isLife_3 : decode cX11_isLife 3 = .ok (.ldc2_w 285, 3) := by decide +kernel
theorem dX11_isLife_6 : decode cX11_isLife 6 = .ok (.invokestatic 72, 3) := by decide +kernel
theorem dX11_isLife_9 : decode cX11_isLife 9 = .ok (.ireturn, 1) := by decide +kernel
theorem dX11_hot_0 : decode cX11_hot 0 = .ok (.iload_n 1, 1) := by decide +kernel
theorem dX11_hot_1 : decode cX11_hot 1 = .ok (.invokestatic 275, 3) := by decide +kernel
theorem dX11_hot_4 : decode cX11_hot 4 = .ok (.ifCond .eq 23, 3) := by decide +kernel
theorem dX11_hot_7 : decode cX11_hot 7 = .ok (.iload_n 2, 1) := by decide +kernel
theorem dX11_hot_8 : decode cX11_hot 8 = .ok (.invokestatic 287, 3) := by decide +kernel
theorem dX11_hot_11 : decode cX11_hot 11 = .ok (.ifCond .eq 16, 3) := by decide +kernel
theorem dX11_hot_14 : decode cX11_hot 14 = .ok (.iload 4, 2) := by decide +kernel
theorem dX11_hot_16 : decode cX11_hot 16 = .ok (.i2l, 1) := by decide +kernel
theorem dX11_hot_17 : decode cX11_hot 17 = .ok (.lconst 0, 1) := by decide +kernel
theorem dX11_hot_18 : decode cX11_hot 18 = .ok (.ldc2_w 257, 3) := by decide +kernel
theorem dX11_hot_21 : decode cX11_hot 21 = .ok (.invokestatic 72, 3) := by decide +kernel
theorem dX11_hot_24 : decode cX11_hot 24 = .ok (.ifCond .ne 5, 3) := by decide +kernel
theorem dX11_hot_27 : decode cX11_hot 27 = .ok (.iconst (-1), 1) := by decide +kernel
theorem dX11_hot_28 : decode cX11_hot 28 = .ok (.ireturn, 1) := by decide +kernel
theorem dX11_hot_29 : decode cX11_hot 29 = .ok (.iconst 0, 1) := by decide +kernel
theorem dX11_hot_30 : decode cX11_hot 30 = .ok (.istore 5, 2) := by decide +kernel
theorem dX11_hot_32 : decode cX11_hot 32 = .ok (.bipush (-4), 2) := by decide +kernel
theorem dX11_hot_34 : decode cX11_hot 34 = .ok (.istore 6, 2) := by decide +kernel
theorem dX11_hot_36 : decode cX11_hot 36 = .ok (.bipush (-4), 2) := by decide +kernel
theorem dX11_hot_38 : decode cX11_hot 38 = .ok (.istore 7, 2) := by decide +kernel
theorem dX11_hot_40 : decode cX11_hot 40 = .ok (.iconst 0, 1) := by decide +kernel
theorem dX11_hot_41 : decode cX11_hot 41 = .ok (.istore 8, 2) := by decide +kernel
theorem dX11_hot_43 : decode cX11_hot 43 = .ok (.iload 8, 2) := by decide +kernel
theorem dX11_hot_45 : decode cX11_hot 45 = .ok (.bipush 99, 2) := by decide +kernel
theorem dX11_hot_47 : decode cX11_hot 47 = .ok (.if_icmp .gt 44, 3) := by decide +kernel
theorem dX11_hot_50 : decode cX11_hot 50 = .ok (.aload_n 0, 1) := by decide +kernel
theorem dX11_hot_51 : decode cX11_hot 51 = .ok (.iload_n 1, 1) := by decide +kernel
theorem dX11_hot_52 : decode cX11_hot 52 = .ok (.iload 8, 2) := by decide +kernel
theorem dX11_hot_54 : decode cX11_hot 54 = .ok (.iload_n 3, 1) := by decide +kernel
theorem dX11_hot_55 : decode cX11_hot 55 = .ok (.invokevirtual 281, 3) := by decide +kernel
theorem dX11_hot_58 : decode cX11_hot 58 = .ok (.iload_n 2, 1) := by decide +kernel
theorem dX11_hot_59 : decode cX11_hot 59 = .ok (.if_icmp .ne 26, 3) := by decide +kernel
theorem dX11_hot_62 : decode cX11_hot 62 = .ok (.iinc 5 1, 3) := by decide +kernel
theorem dX11_hot_65 : decode cX11_hot 65 = .ok (.iload 6, 2) := by decide +kernel
theorem dX11_hot_67 : decode cX11_hot 67 = .ok (.bipush (-4), 2) := by decide +kernel
theorem dX11_hot_69 : decode cX11_hot 69 = .ok (.if_icmp .ne 8, 3) := by decide +kernel
theorem dX11_hot_72 : decode cX11_hot 72 = .ok (.iload 8, 2) := by decide +kernel
theorem dX11_hot_74 : decode cX11_hot 74 = .ok (.goto 5, 3) := by decide +kernel
theorem dX11_hot_77 : decode cX11_hot 77 = .ok (.iload 6, 2) := by decide +kernel
theorem dX11_hot_79 : decode cX11_hot 79 = .ok (.istore 6, 2) := by decide +kernel
theorem dX11_hot_81 : decode cX11_hot 81 = .ok (.iload 8, 2) := by decide +kernel
theorem dX11_hot_83 : decode cX11_hot 83 = .ok (.istore 7, 2) := by decide +kernel
theorem dX11_hot_85 : decode cX11_hot 85 = .ok (.iinc 8 1, 3) := by decide +kernel
theorem dX11_hot_88 : decode cX11_hot 88 = .ok (.goto (-45), 3) := by decide +kernel
theorem dX11_hot_91 : decode cX11_hot 91 = .ok (.iload 4, 2) := by decide +kernel
theorem dX11_hot_93 : decode cX11_hot 93 = .ok (.ifCond .ne 8, 3) := by decide +kernel
theorem dX11_hot_96 : decode cX11_hot 96 = .ok (.iload 5, 2) := by decide +kernel
theorem dX11_hot_98 : decode cX11_hot 98 = .ok (.goto 16, 3) := by decide +kernel
theorem dX11_hot_101 : decode cX11_hot 101 = .ok (.iload 4, 2) := by decide +kernel
theorem dX11_hot_103 : decode cX11_hot 103 = .ok (.iconst 1, 1) := by decide +kernel
theorem dX11_hot_104 : decode cX11_hot 104 = .ok (.if_icmp .ne 8, 3) := by decide +kernel
theorem dX11_hot_107 : decode cX11_hot 107 = .ok (.iload 6, 2) := by decide +kernel
theorem dX11_hot_109 : decode cX11_hot 109 = .ok (.goto 5, 3) := by decide +kernel
theorem dX11_hot_112 : decode cX11_hot 112 = .ok (.iload 7, 2) := by decide +kernel
theorem dX11_hot_114 : decode cX11_hot 114 = .ok (.ireturn, 1) := by decide +kernel
theorem dX11_spreads_0 : decode cX11_spreads 0 = .ok (.lconst 0, 1) := by decide +kernel
theorem dX11_spreads_1 : decode cX11_spreads 1 = .ok (.lstore_n 2, 1) := by decide +kernel
theorem dX11_spreads_2 : decode cX11_spreads 2 = .ok (.iconst 0, 1) := by decide +kernel
theorem dX11_spreads_3 : decode cX11_spreads 3 = .ok (.istore 4, 2) := by decide +kernel
theorem dX11_spreads_5 : decode cX11_spreads 5 = .ok (.iload 4, 2) := by decide +kernel
theorem dX11_spreads_7 : decode cX11_spreads 7 = .ok (.bipush 96, 2) := by decide +kernel
theorem dX11_spreads_9 : decode cX11_spreads 9 = .ok (.if_icmp .ge 17, 3) := by decide +kernel
theorem dX11_spreads_12 : decode cX11_spreads 12 = .ok (.aload_n 0, 1) := by decide +kernel
theorem dX11_spreads_13 : decode cX11_spreads 13 = .ok (.getfield 39, 3) := by decide +kernel
theorem dX11_spreads_16 : decode cX11_spreads 16 = .ok (.iload 4, 2) := by decide +kernel
theorem dX11_spreads_18 : decode cX11_spreads 18 = .ok (.lconst 0, 1) := by decide +kernel
theorem dX11_spreads_19 : decode cX11_spreads 19 = .ok (.lastore, 1) := by decide +kernel
theorem dX11_spreads_20 : decode cX11_spreads 20 = .ok (.iinc 4 1, 3) := by decide +kernel
theorem dX11_spreads_23 : decode cX11_spreads 23 = .ok (.goto (-18), 3) := by decide +kernel
theorem dX11_spreads_26 : decode cX11_spreads 26 = .ok (.iconst 0, 1) := by decide +kernel
theorem dX11_spreads_27 : decode cX11_spreads 27 = .ok (.istore 4, 2) := by decide +kernel
theorem dX11_spreads_29 : decode cX11_spreads 29 = .ok (.iload 4, 2) := by decide +kernel
theorem dX11_spreads_31 : decode cX11_spreads 31 = .ok (.bipush 96, 2) := by decide +kernel
theorem dX11_spreads_33 : decode cX11_spreads 33 = .ok (.if_icmp .ge 143, 3) := by decide +kernel
theorem dX11_spreads_36 : decode cX11_spreads 36 = .ok (.iconst 0, 1) := by decide +kernel
theorem dX11_spreads_37 : decode cX11_spreads 37 = .ok (.istore 5, 2) := by decide +kernel
theorem dX11_spreads_39 : decode cX11_spreads 39 = .ok (.iload 5, 2) := by decide +kernel
theorem dX11_spreads_41 : decode cX11_spreads 41 = .ok (.iconst 4, 1) := by decide +kernel
theorem dX11_spreads_42 : decode cX11_spreads 42 = .ok (.if_icmp .ge 128, 3) := by decide +kernel
theorem dX11_spreads_45 : decode cX11_spreads 45 = .ok (.aload_n 0, 1) := by decide +kernel
theorem dX11_spreads_46 : decode cX11_spreads 46 = .ok (.getfield 35, 3) := by decide +kernel
theorem dX11_spreads_49 : decode cX11_spreads 49 = .ok (.iload 4, 2) := by decide +kernel
theorem dX11_spreads_51 : decode cX11_spreads 51 = .ok (.laload, 1) := by decide +kernel
theorem dX11_spreads_52 : decode cX11_spreads 52 = .ok (.lconst 0, 1) := by decide +kernel
theorem dX11_spreads_53 : decode cX11_spreads 53 = .ok (.lcmp, 1) := by decide +kernel
theorem dX11_spreads_54 : decode cX11_spreads 54 = .ok (.ifCond .le 116, 3) := by decide +kernel
theorem dX11_spreads_57 : decode cX11_spreads 57 = .ok (.iload 4, 2) := by decide +kernel
theorem dX11_spreads_59 : decode cX11_spreads 59 = .ok (.aload_n 0, 1) := by decide +kernel
theorem dX11_spreads_60 : decode cX11_spreads 60 = .ok (.getfield 7, 3) := by decide +kernel
theorem dX11_spreads_63 : decode cX11_spreads 63 = .ok (.iload 4, 2) := by decide +kernel
theorem dX11_spreads_65 : decode cX11_spreads 65 = .ok (.iaload, 1) := by decide +kernel
theorem dX11_spreads_66 : decode cX11_spreads 66 = .ok (.iconst 4, 1) := by decide +kernel
theorem dX11_spreads_67 : decode cX11_spreads 67 = .ok (.if_icmp .ge 13, 3) := by decide +kernel
theorem dX11_spreads_70 : decode cX11_spreads 70 = .ok (.aload_n 0, 1) := by decide +kernel
theorem dX11_spreads_71 : decode cX11_spreads 71 = .ok (.getfield 7, 3) := by decide +kernel
theorem dX11_spreads_74 : decode cX11_spreads 74 = .ok (.iload 4, 2) := by decide +kernel
theorem dX11_spreads_76 : decode cX11_spreads 76 = .ok (.iaload, 1) := by decide +kernel
theorem dX11_spreads_77 : decode cX11_spreads 77 = .ok (.goto 5, 3) := by decide +kernel
theorem dX11_spreads_80 : decode cX11_spreads 80 = .ok (.iload 5, 2) := by decide +kernel
theorem dX11_spreads_82 : decode cX11_spreads 82 = .ok (.invokestatic 190, 3) := by decide +kernel
theorem dX11_spreads_85 : decode cX11_spreads 85 = .ok (.istore 6, 2) := by decide +kernel
theorem dX11_spreads_87 : decode cX11_spreads 87 = .ok (.aload_n 0, 1) := by decide +kernel
theorem dX11_spreads_88 : decode cX11_spreads 88 = .ok (.getfield 7, 3) := by decide +kernel
theorem dX11_spreads_91 : decode cX11_spreads 91 = .ok (.iload 4, 2) := by decide +kernel
theorem dX11_spreads_93 : decode cX11_spreads 93 = .ok (.iaload, 1) := by decide +kernel
theorem dX11_spreads_94 : decode cX11_spreads 94 = .ok (.bipush 6, 2) := by decide +kernel
theorem dX11_spreads_96 : decode cX11_spreads 96 = .ok (.if_icmp .eq 12, 3) := by decide +kernel
theorem dX11_spreads_99 : decode cX11_spreads 99 = .ok (.aload_n 0, 1) := by decide +kernel
theorem dX11_spreads_100 : decode cX11_spreads 100 = .ok (.iload 6, 2) := by decide +kernel
theorem dX11_spreads_102 : decode cX11_spreads 102 = .ok (.invokevirtual 193, 3) := by decide +kernel
theorem dX11_spreads_105 : decode cX11_spreads 105 = .ok (.ifCond .eq 8, 3) := by decide +kernel
theorem dX11_spreads_108 : decode cX11_spreads 108 = .ok (.iload 4, 2) := by decide +kernel
theorem dX11_spreads_110 : decode cX11_spreads 110 = .ok (.goto 5, 3) := by decide +kernel
theorem dX11_spreads_113 : decode cX11_spreads 113 = .ok (.iload 6, 2) := by decide +kernel
theorem dX11_spreads_115 : decode cX11_spreads 115 = .ok (.istore 7, 2) := by decide +kernel
theorem dX11_spreads_117 : decode cX11_spreads 117 = .ok (.lload_n 2, 1) := by decide +kernel
theorem dX11_spreads_118 : decode cX11_spreads 118 = .ok (.iload 7, 2) := by decide +kernel
theorem dX11_spreads_120 : decode cX11_spreads 120 = .ok (.iload_n 1, 1) := by decide +kernel
theorem dX11_spreads_121 : decode cX11_spreads 121 = .ok (.if_icmp .ne 13, 3) := by decide +kernel
theorem dX11_spreads_124 : decode cX11_spreads 124 = .ok (.aload_n 0, 1) := by decide +kernel
theorem dX11_spreads_125 : decode cX11_spreads 125 = .ok (.getfield 35, 3) := by decide +kernel
theorem dX11_spreads_128 : decode cX11_spreads 128 = .ok (.iload 4, 2) := by decide +kernel
theorem dX11_spreads_130 : decode cX11_spreads 130 = .ok (.laload, 1) := by decide +kernel
theorem dX11_spreads_131 : decode cX11_spreads 131 = .ok (.goto 4, 3) := by decide +kernel
theorem dX11_spreads_134 : decode cX11_spreads 134 = .ok (.lconst 0, 1) := by decide +kernel
theorem dX11_spreads_135 : decode cX11_spreads 135 = .ok (.ladd, 1) := by decide +kernel
theorem dX11_spreads_136 : decode cX11_spreads 136 = .ok (.lstore_n 2, 1) := by decide +kernel
theorem dX11_spreads_137 : decode cX11_spreads 137 = .ok (.aload_n 0, 1) := by decide +kernel
theorem dX11_spreads_138 : decode cX11_spreads 138 = .ok (.getfield 39, 3) := by decide +kernel
theorem dX11_spreads_141 : decode cX11_spreads 141 = .ok (.iload 7, 2) := by decide +kernel
theorem dX11_spreads_143 : decode cX11_spreads 143 = .ok (.dup2, 1) := by decide +kernel
theorem dX11_spreads_144 : decode cX11_spreads 144 = .ok (.laload, 1) := by decide +kernel
theorem dX11_spreads_145 : decode cX11_spreads 145 = .ok (.iload 7, 2) := by decide +kernel
theorem dX11_spreads_147 : decode cX11_spreads 147 = .ok (.iload_n 1, 1) := by decide +kernel
theorem dX11_spreads_148 : decode cX11_spreads 148 = .ok (.if_icmp .ne 7, 3) := by decide +kernel
theorem dX11_spreads_151 : decode cX11_spreads 151 = .ok (.lconst 0, 1) := by decide +kernel
theorem dX11_spreads_152 : decode cX11_spreads 152 = .ok (.goto 10, 3) := by decide +kernel
theorem dX11_spreads_155 : decode cX11_spreads 155 = .ok (.aload_n 0, 1) := by decide +kernel
theorem dX11_spreads_156 : decode cX11_spreads 156 = .ok (.getfield 35, 3) := by decide +kernel
theorem dX11_spreads_159 : decode cX11_spreads 159 = .ok (.iload 4, 2) := by decide +kernel
theorem dX11_spreads_161 : decode cX11_spreads 161 = .ok (.laload, 1) := by decide +kernel
theorem dX11_spreads_162 : decode cX11_spreads 162 = .ok (.ladd, 1) := by decide +kernel
theorem dX11_spreads_163 : decode cX11_spreads 163 = .ok (.lastore, 1) := by decide +kernel
theorem dX11_spreads_164 : decode cX11_spreads 164 = .ok (.iinc 5 1, 3) := by decide +kernel
theorem dX11_spreads_167 : decode cX11_spreads 167 = .ok (.goto (-128), 3) := by decide +kernel
theorem dX11_spreads_170 : decode cX11_spreads 170 = .ok (.iinc 4 1, 3) := by decide +kernel
theorem dX11_spreads_173 : decode cX11_spreads 173 = .ok (.goto (-144), 3) := by decide +kernel
theorem dX11_spreads_176 : decode cX11_spreads 176 = .ok (.iconst 0, 1) := by decide +kernel
theorem dX11_spreads_177 : decode cX11_spreads 177 = .ok (.istore 4, 2) := by decide +kernel
theorem dX11_spreads_179 : decode cX11_spreads 179 = .ok (.iload 4, 2) := by decide +kernel
theorem dX11_spreads_181 : decode cX11_spreads 181 = .ok (.bipush 96, 2) := by decide +kernel
theorem dX11_spreads_183 : decode cX11_spreads 183 = .ok (.if_icmp .ge 23, 3) := by decide +kernel
theorem dX11_spreads_186 : decode cX11_spreads 186 = .ok (.aload_n 0, 1) := by decide +kernel
theorem dX11_spreads_187 : decode cX11_spreads 187 = .ok (.getfield 35, 3) := by decide +kernel
theorem dX11_spreads_190 : decode cX11_spreads 190 = .ok (.iload 4, 2) := by decide +kernel
theorem dX11_spreads_192 : decode cX11_spreads 192 = .ok (.aload_n 0, 1) := by decide +kernel
theorem dX11_spreads_193 : decode cX11_spreads 193 = .ok (.getfield 39, 3) := by decide +kernel
theorem dX11_spreads_196 : decode cX11_spreads 196 = .ok (.iload 4, 2) := by decide +kernel
theorem dX11_spreads_198 : decode cX11_spreads 198 = .ok (.laload, 1) := by decide +kernel
theorem dX11_spreads_199 : decode cX11_spreads 199 = .ok (.lastore, 1) := by decide +kernel
theorem dX11_spreads_200 : decode cX11_spreads 200 = .ok (.iinc 4 1, 3) := by decide +kernel
theorem dX11_spreads_203 : decode cX11_spreads 203 = .ok (.goto (-24), 3) := by decide +kernel
theorem dX11_spreads_206 : decode cX11_spreads 206 = .ok (.lload_n 2, 1) := by decide +kernel
theorem dX11_spreads_207 : decode cX11_spreads 207 = .ok (.lreturn, 1) := by decide +kernel
theorem dX11_told_0 : decode cX11_told 0 = .ok (.lload_n 2, 1) := by decide +kernel
theorem dX11_told_1 : decode cX11_told 1 = .ok (.lstore 5, 2) := by decide +kernel
theorem dX11_told_3 : decode cX11_told 3 = .ok (.lload_n 0, 1) := by decide +kernel
theorem dX11_told_4 : decode cX11_told 4 = .ok (.lstore 7, 2) := by decide +kernel
theorem dX11_told_6 : decode cX11_told 6 = .ok (.lload 7, 2) := by decide +kernel
theorem dX11_told_8 : decode cX11_told 8 = .ok (.lconst 0, 1) := by decide +kernel
theorem dX11_told_9 : decode cX11_told 9 = .ok (.lcmp, 1) := by decide +kernel
theorem dX11_told_10 : decode cX11_told 10 = .ok (.ifCond .eq 21, 3) := by decide +kernel
theorem dX11_told_13 : decode cX11_told 13 = .ok (.lload 5, 2) := by decide +kernel
theorem dX11_told_15 : decode cX11_told 15 = .ok (.lload 7, 2) := by decide +kernel
theorem dX11_told_17 : decode cX11_told 17 = .ok (.lrem, 1) := by decide +kernel
theorem dX11_told_18 : decode cX11_told 18 = .ok (.lstore 9, 2) := by decide +kernel
theorem dX11_told_20 : decode cX11_told 20 = .ok (.lload 7, 2) := by decide +kernel
theorem dX11_told_22 : decode cX11_told 22 = .ok (.lstore 5, 2) := by decide +kernel
theorem dX11_told_24 : decode cX11_told 24 = .ok (.lload 9, 2) := by decide +kernel
theorem dX11_told_26 : decode cX11_told 26 = .ok (.lstore 7, 2) := by decide +kernel
theorem dX11_told_28 : decode cX11_told 28 = .ok (.goto (-22), 3) := by decide +kernel
theorem dX11_told_31 : decode cX11_told 31 = .ok (.iload 4, 2) := by decide +kernel
theorem dX11_told_33 : decode cX11_told 33 = .ok (.ifCond .ne 10, 3) := by decide +kernel
theorem dX11_told_36 : decode cX11_told 36 = .ok (.lload_n 0, 1) := by decide +kernel
theorem dX11_told_37 : decode cX11_told 37 = .ok (.lload 5, 2) := by decide +kernel
theorem dX11_told_39 : decode cX11_told 39 = .ok (.ldiv, 1) := by decide +kernel
theorem dX11_told_40 : decode cX11_told 40 = .ok (.goto 7, 3) := by decide +kernel
theorem dX11_told_43 : decode cX11_told 43 = .ok (.lload_n 2, 1) := by decide +kernel
theorem dX11_told_44 : decode cX11_told 44 = .ok (.lload 5, 2) := by decide +kernel
theorem dX11_told_46 : decode cX11_told 46 = .ok (.ldiv, 1) := by decide +kernel
theorem dX11_told_47 : decode cX11_told 47 = .ok (.lreturn, 1) := by decide +kernel
theorem dX11_odds_0 : decode cX11_odds 0 = .ok (.iload_n 1, 1) := by decide +kernel
theorem dX11_odds_1 : decode cX11_odds 1 = .ok (.invokestatic 148, 3) := by decide +kernel
theorem dX11_odds_4 : decode cX11_odds 4 = .ok (.ifCond .eq 33, 3) := by decide +kernel
theorem dX11_odds_7 : decode cX11_odds 7 = .ok (.iload_n 2, 1) := by decide +kernel
theorem dX11_odds_8 : decode cX11_odds 8 = .ok (.invokestatic 148, 3) := by decide +kernel
theorem dX11_odds_11 : decode cX11_odds 11 = .ok (.ifCond .eq 26, 3) := by decide +kernel
theorem dX11_odds_14 : decode cX11_odds 14 = .ok (.iload_n 3, 1) := by decide +kernel
theorem dX11_odds_15 : decode cX11_odds 15 = .ok (.i2l, 1) := by decide +kernel
theorem dX11_odds_16 : decode cX11_odds 16 = .ok (.lconst 0, 1) := by decide +kernel
theorem dX11_odds_17 : decode cX11_odds 17 = .ok (.ldc2_w 290, 3) := by decide +kernel
theorem dX11_odds_20 : decode cX11_odds 20 = .ok (.invokestatic 72, 3) := by decide +kernel
theorem dX11_odds_23 : decode cX11_odds 23 = .ok (.ifCond .eq 14, 3) := by decide +kernel
theorem dX11_odds_26 : decode cX11_odds 26 = .ok (.iload 4, 2) := by decide +kernel
theorem dX11_odds_28 : decode cX11_odds 28 = .ok (.i2l, 1) := by decide +kernel
theorem dX11_odds_29 : decode cX11_odds 29 = .ok (.lconst 0, 1) := by decide +kernel
theorem dX11_odds_30 : decode cX11_odds 30 = .ok (.lconst 1, 1) := by decide +kernel
theorem dX11_odds_31 : decode cX11_odds 31 = .ok (.invokestatic 72, 3) := by decide +kernel
theorem dX11_odds_34 : decode cX11_odds 34 = .ok (.ifCond .ne 7, 3) := by decide +kernel
theorem dX11_odds_37 : decode cX11_odds 37 = .ok (.ldc2_w 263, 3) := by decide +kernel
theorem dX11_odds_40 : decode cX11_odds 40 = .ok (.lreturn, 1) := by decide +kernel
theorem dX11_odds_41 : decode cX11_odds 41 = .ok (.aload_n 0, 1) := by decide +kernel
theorem dX11_odds_42 : decode cX11_odds 42 = .ok (.getfield 7, 3) := by decide +kernel
theorem dX11_odds_45 : decode cX11_odds 45 = .ok (.iload_n 1, 1) := by decide +kernel
theorem dX11_odds_46 : decode cX11_odds 46 = .ok (.iaload, 1) := by decide +kernel
theorem dX11_odds_47 : decode cX11_odds 47 = .ok (.iconst 5, 1) := by decide +kernel
theorem dX11_odds_48 : decode cX11_odds 48 = .ok (.if_icmp .ne 7, 3) := by decide +kernel
theorem dX11_odds_51 : decode cX11_odds 51 = .ok (.ldc2_w 265, 3) := by decide +kernel
theorem dX11_odds_54 : decode cX11_odds 54 = .ok (.lreturn, 1) := by decide +kernel
theorem dX11_odds_55 : decode cX11_odds 55 = .ok (.iconst 0, 1) := by decide +kernel
theorem dX11_odds_56 : decode cX11_odds 56 = .ok (.istore 5, 2) := by decide +kernel
theorem dX11_odds_58 : decode cX11_odds 58 = .ok (.iload 5, 2) := by decide +kernel
theorem dX11_odds_60 : decode cX11_odds 60 = .ok (.bipush 96, 2) := by decide +kernel
theorem dX11_odds_62 : decode cX11_odds 62 = .ok (.if_icmp .ge 32, 3) := by decide +kernel
theorem dX11_odds_65 : decode cX11_odds 65 = .ok (.aload_n 0, 1) := by decide +kernel
theorem dX11_odds_66 : decode cX11_odds 66 = .ok (.getfield 35, 3) := by decide +kernel
theorem dX11_odds_69 : decode cX11_odds 69 = .ok (.iload 5, 2) := by decide +kernel
theorem dX11_odds_71 : decode cX11_odds 71 = .ok (.iload 5, 2) := by decide +kernel
theorem dX11_odds_73 : decode cX11_odds 73 = .ok (.iload_n 1, 1) := by decide +kernel
theorem dX11_odds_74 : decode cX11_odds 74 = .ok (.if_icmp .ne 12, 3) := by decide +kernel
theorem dX11_odds_77 : decode cX11_odds 77 = .ok (.iload_n 1, 1) := by decide +kernel
theorem dX11_odds_78 : decode cX11_odds 78 = .ok (.iload_n 2, 1) := by decide +kernel
theorem dX11_odds_79 : decode cX11_odds 79 = .ok (.if_icmp .eq 7, 3) := by decide +kernel
theorem dX11_odds_82 : decode cX11_odds 82 = .ok (.lconst 1, 1) := by decide +kernel
theorem dX11_odds_83 : decode cX11_odds 83 = .ok (.goto 4, 3) := by decide +kernel
theorem dX11_odds_86 : decode cX11_odds 86 = .ok (.lconst 0, 1) := by decide +kernel
theorem dX11_odds_87 : decode cX11_odds 87 = .ok (.lastore, 1) := by decide +kernel
theorem dX11_odds_88 : decode cX11_odds 88 = .ok (.iinc 5 1, 3) := by decide +kernel
theorem dX11_odds_91 : decode cX11_odds 91 = .ok (.goto (-33), 3) := by decide +kernel
theorem dX11_odds_94 : decode cX11_odds 94 = .ok (.iload_n 1, 1) := by decide +kernel
theorem dX11_odds_95 : decode cX11_odds 95 = .ok (.iload_n 2, 1) := by decide +kernel
theorem dX11_odds_96 : decode cX11_odds 96 = .ok (.if_icmp .ne 7, 3) := by decide +kernel
theorem dX11_odds_99 : decode cX11_odds 99 = .ok (.lconst 1, 1) := by decide +kernel
theorem dX11_odds_100 : decode cX11_odds 100 = .ok (.goto 4, 3) := by decide +kernel
theorem dX11_odds_103 : decode cX11_odds 103 = .ok (.lconst 0, 1) := by decide +kernel
theorem dX11_odds_104 : decode cX11_odds 104 = .ok (.lstore 5, 2) := by decide +kernel
theorem dX11_odds_106 : decode cX11_odds 106 = .ok (.lconst 1, 1) := by decide +kernel
theorem dX11_odds_107 : decode cX11_odds 107 = .ok (.lstore 7, 2) := by decide +kernel
theorem dX11_odds_109 : decode cX11_odds 109 = .ok (.iconst 0, 1) := by decide +kernel
theorem dX11_odds_110 : decode cX11_odds 110 = .ok (.istore 9, 2) := by decide +kernel
theorem dX11_odds_112 : decode cX11_odds 112 = .ok (.iload 9, 2) := by decide +kernel
theorem dX11_odds_114 : decode cX11_odds 114 = .ok (.iload_n 3, 1) := by decide +kernel
theorem dX11_odds_115 : decode cX11_odds 115 = .ok (.if_icmp .ge 31, 3) := by decide +kernel
theorem dX11_odds_118 : decode cX11_odds 118 = .ok (.ldc2_w 292, 3) := by decide +kernel
theorem dX11_odds_121 : decode cX11_odds 121 = .ok (.lload 5, 2) := by decide +kernel
theorem dX11_odds_123 : decode cX11_odds 123 = .ok (.lmul, 1) := by decide +kernel
theorem dX11_odds_124 : decode cX11_odds 124 = .ok (.aload_n 0, 1) := by decide +kernel
theorem dX11_odds_125 : decode cX11_odds 125 = .ok (.iload_n 2, 1) := by decide +kernel
theorem dX11_odds_126 : decode cX11_odds 126 = .ok (.invokevirtual 294, 3) := by decide +kernel
theorem dX11_odds_129 : decode cX11_odds 129 = .ok (.ladd, 1) := by decide +kernel
theorem dX11_odds_130 : decode cX11_odds 130 = .ok (.lstore 5, 2) := by decide +kernel
theorem dX11_odds_132 : decode cX11_odds 132 = .ok (.lload 7, 2) := by decide +kernel
theorem dX11_odds_134 : decode cX11_odds 134 = .ok (.ldc2_w 292, 3) := by decide +kernel
theorem dX11_odds_137 : decode cX11_odds 137 = .ok (.lmul, 1) := by decide +kernel
theorem dX11_odds_138 : decode cX11_odds 138 = .ok (.lstore 7, 2) := by decide +kernel
theorem dX11_odds_140 : decode cX11_odds 140 = .ok (.iinc 9 1, 3) := by decide +kernel
theorem dX11_odds_143 : decode cX11_odds 143 = .ok (.goto (-31), 3) := by decide +kernel
theorem dX11_odds_146 : decode cX11_odds 146 = .ok (.lload 5, 2) := by decide +kernel
theorem dX11_odds_148 : decode cX11_odds 148 = .ok (.lload 7, 2) := by decide +kernel
theorem dX11_odds_150 : decode cX11_odds 150 = .ok (.iload 4, 2) := by decide +kernel
theorem dX11_odds_152 : decode cX11_odds 152 = .ok (.invokestatic 298, 3) := by decide +kernel
theorem dX11_odds_155 : decode cX11_odds 155 = .ok (.lreturn, 1) := by decide +kernel
theorem dX11_cools_0 : decode cX11_cools 0 = .ok (.iload_n 1, 1) := by decide +kernel
theorem dX11_cools_1 : decode cX11_cools 1 = .ok (.invokestatic 278, 3) := by decide +kernel
theorem dX11_cools_4 : decode cX11_cools 4 = .ok (.ifCond .eq 20, 3) := by decide +kernel
theorem dX11_cools_7 : decode cX11_cools 7 = .ok (.iload_n 2, 1) := by decide +kernel
theorem dX11_cools_8 : decode cX11_cools 8 = .ok (.invokestatic 278, 3) := by decide +kernel
theorem dX11_cools_11 : decode cX11_cools 11 = .ok (.ifCond .eq 13, 3) := by decide +kernel
theorem dX11_cools_14 : decode cX11_cools 14 = .ok (.iload_n 3, 1) := by decide +kernel
theorem dX11_cools_15 : decode cX11_cools 15 = .ok (.i2l, 1) := by decide +kernel
theorem dX11_cools_16 : decode cX11_cools 16 = .ok (.lconst 0, 1) := by decide +kernel
theorem dX11_cools_17 : decode cX11_cools 17 = .ok (.lconst 1, 1) := by decide +kernel
theorem dX11_cools_18 : decode cX11_cools 18 = .ok (.invokestatic 72, 3) := by decide +kernel
theorem dX11_cools_21 : decode cX11_cools 21 = .ok (.ifCond .ne 5, 3) := by decide +kernel
theorem dX11_cools_24 : decode cX11_cools 24 = .ok (.iconst (-1), 1) := by decide +kernel
theorem dX11_cools_25 : decode cX11_cools 25 = .ok (.ireturn, 1) := by decide +kernel
theorem dX11_cools_26 : decode cX11_cools 26 = .ok (.iload_n 1, 1) := by decide +kernel
theorem dX11_cools_27 : decode cX11_cools 27 = .ok (.istore 4, 2) := by decide +kernel
theorem dX11_cools_29 : decode cX11_cools 29 = .ok (.iconst 0, 1) := by decide +kernel
theorem dX11_cools_30 : decode cX11_cools 30 = .ok (.istore 5, 2) := by decide +kernel
theorem dX11_cools_32 : decode cX11_cools 32 = .ok (.iconst 0, 1) := by decide +kernel
theorem dX11_cools_33 : decode cX11_cools 33 = .ok (.istore 6, 2) := by decide +kernel
theorem dX11_cools_35 : decode cX11_cools 35 = .ok (.iload 4, 2) := by decide +kernel
theorem dX11_cools_37 : decode cX11_cools 37 = .ok (.iload_n 2, 1) := by decide +kernel
theorem dX11_cools_38 : decode cX11_cools 38 = .ok (.if_icmp .le 76, 3) := by decide +kernel
theorem dX11_cools_41 : decode cX11_cools 41 = .ok (.iload 4, 2) := by decide +kernel
theorem dX11_cools_43 : decode cX11_cools 43 = .ok (.aload_n 0, 1) := by decide +kernel
theorem dX11_cools_44 : decode cX11_cools 44 = .ok (.getfield 17, 3) := by decide +kernel
theorem dX11_cools_47 : decode cX11_cools 47 = .ok (.iconst 1, 1) := by decide +kernel
theorem dX11_cools_48 : decode cX11_cools 48 = .ok (.iaload, 1) := by decide +kernel
theorem dX11_cools_49 : decode cX11_cools 49 = .ok (.if_icmp .lt 7, 3) := by decide +kernel
theorem dX11_cools_52 : decode cX11_cools 52 = .ok (.iconst 1, 1) := by decide +kernel
theorem dX11_cools_53 : decode cX11_cools 53 = .ok (.goto 4, 3) := by decide +kernel
theorem dX11_cools_56 : decode cX11_cools 56 = .ok (.iconst 0, 1) := by decide +kernel
theorem dX11_cools_57 : decode cX11_cools 57 = .ok (.istore 7, 2) := by decide +kernel
theorem dX11_cools_59 : decode cX11_cools 59 = .ok (.iload 6, 2) := by decide +kernel
theorem dX11_cools_61 : decode cX11_cools 61 = .ok (.iload 7, 2) := by decide +kernel
theorem dX11_cools_63 : decode cX11_cools 63 = .ok (.invokestatic 120, 3) := by decide +kernel
theorem dX11_cools_66 : decode cX11_cools 66 = .ok (.iadd, 1) := by decide +kernel
theorem dX11_cools_67 : decode cX11_cools 67 = .ok (.istore 6, 2) := by decide +kernel
theorem dX11_cools_69 : decode cX11_cools 69 = .ok (.iload 4, 2) := by decide +kernel
theorem dX11_cools_71 : decode cX11_cools 71 = .ok (.iload 7, 2) := by decide +kernel
theorem dX11_cools_73 : decode cX11_cools 73 = .ok (.ifCond .eq 7, 3) := by decide +kernel
theorem dX11_cools_76 : decode cX11_cools 76 = .ok (.iconst 1, 1) := by decide +kernel
theorem dX11_cools_77 : decode cX11_cools 77 = .ok (.goto 15, 3) := by decide +kernel
theorem dX11_cools_80 : decode cX11_cools 80 = .ok (.iconst 1, 1) := by decide +kernel
theorem dX11_cools_81 : decode cX11_cools 81 = .ok (.iload 4, 2) := by decide +kernel
theorem dX11_cools_83 : decode cX11_cools 83 = .ok (.aload_n 0, 1) := by decide +kernel
theorem dX11_cools_84 : decode cX11_cools 84 = .ok (.getfield 17, 3) := by decide +kernel
theorem dX11_cools_87 : decode cX11_cools 87 = .ok (.bipush 6, 2) := by decide +kernel
theorem dX11_cools_89 : decode cX11_cools 89 = .ok (.iaload, 1) := by decide +kernel
theorem dX11_cools_90 : decode cX11_cools 90 = .ok (.idiv, 1) := by decide +kernel
theorem dX11_cools_91 : decode cX11_cools 91 = .ok (.iadd, 1) := by decide +kernel
theorem dX11_cools_92 : decode cX11_cools 92 = .ok (.isub, 1) := by decide +kernel
theorem dX11_cools_93 : decode cX11_cools 93 = .ok (.istore 4, 2) := by decide +kernel
theorem dX11_cools_95 : decode cX11_cools 95 = .ok (.iload 4, 2) := by decide +kernel
theorem dX11_cools_97 : decode cX11_cools 97 = .ok (.ifCond .ge 7, 3) := by decide +kernel
theorem dX11_cools_100 : decode cX11_cools 100 = .ok (.iconst 0, 1) := by decide +kernel
theorem dX11_cools_101 : decode cX11_cools 101 = .ok (.goto 5, 3) := by decide +kernel
theorem dX11_cools_104 : decode cX11_cools 104 = .ok (.iload 4, 2) := by decide +kernel
theorem dX11_cools_106 : decode cX11_cools 106 = .ok (.istore 4, 2) := by decide +kernel
theorem dX11_cools_108 : decode cX11_cools 108 = .ok (.iinc 5 1, 3) := by decide +kernel
theorem dX11_cools_111 : decode cX11_cools 111 = .ok (.goto (-76), 3) := by decide +kernel
theorem dX11_cools_114 : decode cX11_cools 114 = .ok (.iload_n 3, 1) := by decide +kernel
theorem dX11_cools_115 : decode cX11_cools 115 = .ok (.ifCond .ne 8, 3) := by decide +kernel
theorem dX11_cools_118 : decode cX11_cools 118 = .ok (.iload 5, 2) := by decide +kernel
theorem dX11_cools_120 : decode cX11_cools 120 = .ok (.goto 5, 3) := by decide +kernel
theorem dX11_cools_123 : decode cX11_cools 123 = .ok (.iload 6, 2) := by decide +kernel
theorem dX11_cools_125 : decode cX11_cools 125 = .ok (.ireturn, 1) := by decide +kernel
theorem dX11_saw_0 : decode cX11_saw 0 = .ok (.iload_n 1, 1) := by decide +kernel
theorem dX11_saw_1 : decode cX11_saw 1 = .ok (.invokestatic 275, 3) := by decide +kernel
theorem dX11_saw_4 : decode cX11_saw 4 = .ok (.ifCond .eq 18, 3) := by decide +kernel
theorem dX11_saw_7 : decode cX11_saw 7 = .ok (.iload_n 2, 1) := by decide +kernel
theorem dX11_saw_8 : decode cX11_saw 8 = .ok (.invokestatic 278, 3) := by decide +kernel
theorem dX11_saw_11 : decode cX11_saw 11 = .ok (.ifCond .eq 11, 3) := by decide +kernel
theorem dX11_saw_14 : decode cX11_saw 14 = .ok (.iload 4, 2) := by decide +kernel
theorem dX11_saw_16 : decode cX11_saw 16 = .ok (.invokestatic 287, 3) := by decide +kernel
theorem dX11_saw_19 : decode cX11_saw 19 = .ok (.ifCond .ne 5, 3) := by decide +kernel
theorem dX11_saw_22 : decode cX11_saw 22 = .ok (.iconst (-1), 1) := by decide +kernel
theorem dX11_saw_23 : decode cX11_saw 23 = .ok (.ireturn, 1) := by decide +kernel
theorem dX11_saw_24 : decode cX11_saw 24 = .ok (.aload_n 0, 1) := by decide +kernel
theorem dX11_saw_25 : decode cX11_saw 25 = .ok (.getfield 64, 3) := by decide +kernel
theorem dX11_saw_28 : decode cX11_saw 28 = .ok (.bipush 12, 2) := by decide +kernel
theorem dX11_saw_30 : decode cX11_saw 30 = .ok (.if_icmp .ne 6, 3) := by decide +kernel
theorem dX11_saw_33 : decode cX11_saw 33 = .ok (.bipush (-3), 2) := by decide +kernel
theorem dX11_saw_35 : decode cX11_saw 35 = .ok (.ireturn, 1) := by decide +kernel
theorem dX11_saw_36 : decode cX11_saw 36 = .ok (.aload_n 0, 1) := by decide +kernel
theorem dX11_saw_37 : decode cX11_saw 37 = .ok (.getfield 42, 3) := by decide +kernel
theorem dX11_saw_40 : decode cX11_saw 40 = .ok (.iconst 4, 1) := by decide +kernel
theorem dX11_saw_41 : decode cX11_saw 41 = .ok (.aload_n 0, 1) := by decide +kernel
theorem dX11_saw_42 : decode cX11_saw 42 = .ok (.getfield 64, 3) := by decide +kernel
theorem dX11_saw_45 : decode cX11_saw 45 = .ok (.imul, 1) := by decide +kernel
theorem dX11_saw_46 : decode cX11_saw 46 = .ok (.iload_n 1, 1) := by decide +kernel
theorem dX11_saw_47 : decode cX11_saw 47 = .ok (.iastore, 1) := by decide +kernel
theorem dX11_saw_48 : decode cX11_saw 48 = .ok (.aload_n 0, 1) := by decide +kernel
theorem dX11_saw_49 : decode cX11_saw 49 = .ok (.getfield 42, 3) := by decide +kernel
theorem dX11_saw_52 : decode cX11_saw 52 = .ok (.iconst 4, 1) := by decide +kernel
theorem dX11_saw_53 : decode cX11_saw 53 = .ok (.aload_n 0, 1) := by decide +kernel
theorem dX11_saw_54 : decode cX11_saw 54 = .ok (.getfield 64, 3) := by decide +kernel
theorem dX11_saw_57 : decode cX11_saw 57 = .ok (.imul, 1) := by decide +kernel
theorem dX11_saw_58 : decode cX11_saw 58 = .ok (.iconst 1, 1) := by decide +kernel
theorem dX11_saw_59 : decode cX11_saw 59 = .ok (.iadd, 1) := by decide +kernel
theorem dX11_saw_60 : decode cX11_saw 60 = .ok (.iload_n 2, 1) := by decide +kernel
theorem dX11_saw_61 : decode cX11_saw 61 = .ok (.iastore, 1) := by decide +kernel
theorem dX11_saw_62 : decode cX11_saw 62 = .ok (.aload_n 0, 1) := by decide +kernel
theorem dX11_saw_63 : decode cX11_saw 63 = .ok (.getfield 42, 3) := by decide +kernel
theorem dX11_saw_66 : decode cX11_saw 66 = .ok (.iconst 4, 1) := by decide +kernel
theorem dX11_saw_67 : decode cX11_saw 67 = .ok (.aload_n 0, 1) := by decide +kernel
theorem dX11_saw_68 : decode cX11_saw 68 = .ok (.getfield 64, 3) := by decide +kernel
theorem dX11_saw_71 : decode cX11_saw 71 = .ok (.imul, 1) := by decide +kernel
theorem dX11_saw_72 : decode cX11_saw 72 = .ok (.iconst 2, 1) := by decide +kernel
theorem dX11_saw_73 : decode cX11_saw 73 = .ok (.iadd, 1) := by decide +kernel
theorem dX11_saw_74 : decode cX11_saw 74 = .ok (.iload_n 3, 1) := by decide +kernel
theorem dX11_saw_75 : decode cX11_saw 75 = .ok (.invokestatic 120, 3) := by decide +kernel
theorem dX11_saw_78 : decode cX11_saw 78 = .ok (.iastore, 1) := by decide +kernel
theorem dX11_saw_79 : decode cX11_saw 79 = .ok (.aload_n 0, 1) := by decide +kernel
theorem dX11_saw_80 : decode cX11_saw 80 = .ok (.getfield 42, 3) := by decide +kernel
theorem dX11_saw_83 : decode cX11_saw 83 = .ok (.iconst 4, 1) := by decide +kernel
theorem dX11_saw_84 : decode cX11_saw 84 = .ok (.aload_n 0, 1) := by decide +kernel
theorem dX11_saw_85 : decode cX11_saw 85 = .ok (.getfield 64, 3) := by decide +kernel
theorem dX11_saw_88 : decode cX11_saw 88 = .ok (.imul, 1) := by decide +kernel
theorem dX11_saw_89 : decode cX11_saw 89 = .ok (.iconst 3, 1) := by decide +kernel
theorem dX11_saw_90 : decode cX11_saw 90 = .ok (.iadd, 1) := by decide +kernel
theorem dX11_saw_91 : decode cX11_saw 91 = .ok (.iload 4, 2) := by decide +kernel
theorem dX11_saw_93 : decode cX11_saw 93 = .ok (.iastore, 1) := by decide +kernel
theorem dX11_saw_94 : decode cX11_saw 94 = .ok (.aload_n 0, 1) := by decide +kernel
theorem dX11_saw_95 : decode cX11_saw 95 = .ok (.dup, 1) := by decide +kernel
theorem dX11_saw_96 : decode cX11_saw 96 = .ok (.getfield 64, 3) := by decide +kernel
theorem dX11_saw_99 : decode cX11_saw 99 = .ok (.iconst 1, 1) := by decide +kernel
theorem dX11_saw_100 : decode cX11_saw 100 = .ok (.iadd, 1) := by decide +kernel
theorem dX11_saw_101 : decode cX11_saw 101 = .ok (.putfield 64, 3) := by decide +kernel
theorem dX11_saw_104 : decode cX11_saw 104 = .ok (.aload_n 0, 1) := by decide +kernel
theorem dX11_saw_105 : decode cX11_saw 105 = .ok (.getfield 64, 3) := by decide +kernel
theorem dX11_saw_108 : decode cX11_saw 108 = .ok (.ireturn, 1) := by decide +kernel
theorem dX11_forget_0 : decode cX11_forget 0 = .ok (.aload_n 0, 1) := by decide +kernel
theorem dX11_forget_1 : decode cX11_forget 1 = .ok (.getfield 64, 3) := by decide +kernel
theorem dX11_forget_4 : decode cX11_forget 4 = .ok (.istore_n 1, 1) := by decide +kernel
theorem dX11_forget_5 : decode cX11_forget 5 = .ok (.aload_n 0, 1) := by decide +kernel
theorem dX11_forget_6 : decode cX11_forget 6 = .ok (.iconst 0, 1) := by decide +kernel
theorem dX11_forget_7 : decode cX11_forget 7 = .ok (.putfield 64, 3) := by decide +kernel
theorem dX11_forget_10 : decode cX11_forget 10 = .ok (.iload_n 1, 1) := by decide +kernel
theorem dX11_forget_11 : decode cX11_forget 11 = .ok (.ireturn, 1) := by decide +kernel
theorem dX11_isRight_0 : decode cX11_isRight 0 = .ok (.aload_n 0, 1) := by decide +kernel
theorem dX11_isRight_1 : decode cX11_isRight 1 = .ok (.aload_n 0, 1) := by decide +kernel
theorem dX11_isRight_2 : decode cX11_isRight 2 = .ok (.getfield 42, 3) := by decide +kernel
theorem dX11_isRight_5 : decode cX11_isRight 5 = .ok (.iconst 4, 1) := by decide +kernel
theorem dX11_isRight_6 : decode cX11_isRight 6 = .ok (.iload_n 1, 1) := by decide +kernel
theorem dX11_isRight_7 : decode cX11_isRight 7 = .ok (.imul, 1) := by decide +kernel
theorem dX11_isRight_8 : decode cX11_isRight 8 = .ok (.iaload, 1) := by decide +kernel
theorem dX11_isRight_9 : decode cX11_isRight 9 = .ok (.aload_n 0, 1) := by decide +kernel
theorem dX11_isRight_10 : decode cX11_isRight 10 = .ok (.getfield 42, 3) := by decide +kernel
theorem dX11_isRight_13 : decode cX11_isRight 13 = .ok (.iconst 4, 1) := by decide +kernel
theorem dX11_isRight_14 : decode cX11_isRight 14 = .ok (.iload_n 1, 1) := by decide +kernel
theorem dX11_isRight_15 : decode cX11_isRight 15 = .ok (.imul, 1) := by decide +kernel
theorem dX11_isRight_16 : decode cX11_isRight 16 = .ok (.iconst 1, 1) := by decide +kernel
theorem dX11_isRight_17 : decode cX11_isRight 17 = .ok (.iadd, 1) := by decide +kernel
theorem dX11_isRight_18 : decode cX11_isRight 18 = .ok (.iaload, 1) := by decide +kernel
theorem dX11_isRight_19 : decode cX11_isRight 19 = .ok (.aload_n 0, 1) := by decide +kernel
theorem dX11_isRight_20 : decode cX11_isRight 20 = .ok (.getfield 42, 3) := by decide +kernel
theorem dX11_isRight_23 : decode cX11_isRight 23 = .ok (.iconst 4, 1) := by decide +kernel
theorem dX11_isRight_24 : decode cX11_isRight 24 = .ok (.iload_n 1, 1) := by decide +kernel
theorem dX11_isRight_25 : decode cX11_isRight 25 = .ok (.imul, 1) := by decide +kernel
theorem dX11_isRight_26 : decode cX11_isRight 26 = .ok (.iconst 2, 1) := by decide +kernel
theorem dX11_isRight_27 : decode cX11_isRight 27 = .ok (.iadd, 1) := by decide +kernel
theorem dX11_isRight_28 : decode cX11_isRight 28 = .ok (.iaload, 1) := by decide +kernel
theorem dX11_isRight_29 : decode cX11_isRight 29 = .ok (.iconst 1, 1) := by decide +kernel
theorem dX11_isRight_30 : decode cX11_isRight 30 = .ok (.if_icmp .ne 7, 3) := by decide +kernel
theorem dX11_isRight_33 : decode cX11_isRight 33 = .ok (.iconst 1, 1) := by decide +kernel
theorem dX11_isRight_34 : decode cX11_isRight 34 = .ok (.goto 4, 3) := by decide +kernel
theorem dX11_isRight_37 : decode cX11_isRight 37 = .ok (.iconst 0, 1) := by decide +kernel
theorem dX11_isRight_38 : decode cX11_isRight 38 = .ok (.invokevirtual 281, 3) := by decide +kernel
theorem dX11_isRight_41 : decode cX11_isRight 41 = .ok (.aload_n 0, 1) := by decide +kernel
theorem dX11_isRight_42 : decode cX11_isRight 42 = .ok (.getfield 42, 3) := by decide +kernel
theorem dX11_isRight_45 : decode cX11_isRight 45 = .ok (.iconst 4, 1) := by decide +kernel
theorem dX11_isRight_46 : decode cX11_isRight 46 = .ok (.iload_n 1, 1) := by decide +kernel
theorem dX11_isRight_47 : decode cX11_isRight 47 = .ok (.imul, 1) := by decide +kernel
theorem dX11_isRight_48 : decode cX11_isRight 48 = .ok (.iconst 3, 1) := by decide +kernel
theorem dX11_isRight_49 : decode cX11_isRight 49 = .ok (.iadd, 1) := by decide +kernel
theorem dX11_isRight_50 : decode cX11_isRight 50 = .ok (.iaload, 1) := by decide +kernel
theorem dX11_isRight_51 : decode cX11_isRight 51 = .ok (.if_icmp .ne 7, 3) := by decide +kernel
theorem dX11_isRight_54 : decode cX11_isRight 54 = .ok (.iconst 1, 1) := by decide +kernel
theorem dX11_isRight_55 : decode cX11_isRight 55 = .ok (.goto 4, 3) := by decide +kernel
theorem dX11_isRight_58 : decode cX11_isRight 58 = .ok (.iconst 0, 1) := by decide +kernel
theorem dX11_isRight_59 : decode cX11_isRight 59 = .ok (.ireturn, 1) := by decide +kernel
theorem dX11_right_0 : decode cX11_right 0 = .ok (.iconst 0, 1) := by decide +kernel
theorem dX11_right_1 : decode cX11_right 1 = .ok (.istore_n 1, 1) := by decide +kernel
theorem dX11_right_2 : decode cX11_right 2 = .ok (.iconst 0, 1) := by decide +kernel
theorem dX11_right_3 : decode cX11_right 3 = .ok (.istore_n 2, 1) := by decide +kernel
theorem dX11_right_4 : decode cX11_right 4 = .ok (.iload_n 2, 1) := by decide +kernel
theorem dX11_right_5 : decode cX11_right 5 = .ok (.aload_n 0, 1) := by decide +kernel
theorem dX11_right_6 : decode cX11_right 6 = .ok (.getfield 64, 3) := by decide +kernel
theorem dX11_right_9 : decode cX11_right 9 = .ok (.if_icmp .ge 27, 3) := by decide +kernel
theorem dX11_right_12 : decode cX11_right 12 = .ok (.iload_n 1, 1) := by decide +kernel
theorem dX11_right_13 : decode cX11_right 13 = .ok (.aload_n 0, 1) := by decide +kernel
theorem dX11_right_14 : decode cX11_right 14 = .ok (.iload_n 2, 1) := by decide +kernel
theorem dX11_right_15 : decode cX11_right 15 = .ok (.invokevirtual 302, 3) := by decide +kernel
theorem dX11_right_18 : decode cX11_right 18 = .ok (.ifCond .eq 9, 3) := by decide +kernel
theorem dX11_right_21 : decode cX11_right 21 = .ok (.iconst 1, 1) := by decide +kernel
theorem dX11_right_22 : decode cX11_right 22 = .ok (.iload_n 2, 1) := by decide +kernel
theorem dX11_right_23 : decode cX11_right 23 = .ok (.ishl, 1) := by decide +kernel
theorem dX11_right_24 : decode cX11_right 24 = .ok (.goto 4, 3) := by decide +kernel
theorem dX11_right_27 : decode cX11_right 27 = .ok (.iconst 0, 1) := by decide +kernel
theorem dX11_right_28 : decode cX11_right 28 = .ok (.ior, 1) := by decide +kernel
theorem dX11_right_29 : decode cX11_right 29 = .ok (.istore_n 1, 1) := by decide +kernel
theorem dX11_right_30 : decode cX11_right 30 = .ok (.iinc 2 1, 3) := by decide +kernel
theorem dX11_right_33 : decode cX11_right 33 = .ok (.goto (-29), 3) := by decide +kernel
theorem dX11_right_36 : decode cX11_right 36 = .ok (.iload_n 1, 1) := by decide +kernel
theorem dX11_right_37 : decode cX11_right 37 = .ok (.ireturn, 1) := by decide +kernel
theorem dX11_fits_0 : decode cX11_fits 0 = .ok (.iload_n 1, 1) := by decide +kernel
theorem dX11_fits_1 : decode cX11_fits 1 = .ok (.i2l, 1) := by decide +kernel
theorem dX11_fits_2 : decode cX11_fits 2 = .ok (.lconst 0, 1) := by decide +kernel
theorem dX11_fits_3 : decode cX11_fits 3 = .ok (.ldc2_w 257, 3) := by decide +kernel
theorem dX11_fits_6 : decode cX11_fits 6 = .ok (.invokestatic 72, 3) := by decide +kernel
theorem dX11_fits_9 : decode cX11_fits 9 = .ok (.ifCond .ne 5, 3) := by decide +kernel
theorem dX11_fits_12 : decode cX11_fits 12 = .ok (.iconst (-1), 1) := by decide +kernel
theorem dX11_fits_13 : decode cX11_fits 13 = .ok (.ireturn, 1) := by decide +kernel
theorem dX11_fits_14 : decode cX11_fits 14 = .ok (.aload_n 0, 1) := by decide +kernel
theorem dX11_fits_15 : decode cX11_fits 15 = .ok (.getfield 17, 3) := by decide +kernel
theorem dX11_fits_18 : decode cX11_fits 18 = .ok (.iconst 0, 1) := by decide +kernel
theorem dX11_fits_19 : decode cX11_fits 19 = .ok (.iaload, 1) := by decide +kernel
theorem dX11_fits_20 : decode cX11_fits 20 = .ok (.istore_n 2, 1) := by decide +kernel
theorem dX11_fits_21 : decode cX11_fits 21 = .ok (.iconst 0, 1) := by decide +kernel
theorem dX11_fits_22 : decode cX11_fits 22 = .ok (.istore_n 3, 1) := by decide +kernel
theorem dX11_fits_23 : decode cX11_fits 23 = .ok (.bipush (-4), 2) := by decide +kernel
theorem dX11_fits_25 : decode cX11_fits 25 = .ok (.istore 4, 2) := by decide +kernel
theorem dX11_fits_27 : decode cX11_fits 27 = .ok (.bipush (-4), 2) := by decide +kernel
theorem dX11_fits_29 : decode cX11_fits 29 = .ok (.istore 5, 2) := by decide +kernel
theorem dX11_fits_31 : decode cX11_fits 31 = .ok (.aload_n 0, 1) := by decide +kernel
theorem dX11_fits_32 : decode cX11_fits 32 = .ok (.getfield 17, 3) := by decide +kernel
theorem dX11_fits_35 : decode cX11_fits 35 = .ok (.iconst 1, 1) := by decide +kernel
theorem dX11_fits_36 : decode cX11_fits 36 = .ok (.iaload, 1) := by decide +kernel
theorem dX11_fits_37 : decode cX11_fits 37 = .ok (.iconst 1, 1) := by decide +kernel
theorem dX11_fits_38 : decode cX11_fits 38 = .ok (.if_icmp .ge 7, 3) := by decide +kernel
theorem dX11_fits_41 : decode cX11_fits 41 = .ok (.iconst 1, 1) := by decide +kernel
theorem dX11_fits_42 : decode cX11_fits 42 = .ok (.goto 9, 3) := by decide +kernel
theorem dX11_fits_45 : decode cX11_fits 45 = .ok (.aload_n 0, 1) := by decide +kernel
theorem dX11_fits_46 : decode cX11_fits 46 = .ok (.getfield 17, 3) := by decide +kernel
theorem dX11_fits_49 : decode cX11_fits 49 = .ok (.iconst 1, 1) := by decide +kernel
theorem dX11_fits_50 : decode cX11_fits 50 = .ok (.iaload, 1) := by decide +kernel
theorem dX11_fits_51 : decode cX11_fits 51 = .ok (.istore 6, 2) := by decide +kernel
theorem dX11_fits_53 : decode cX11_fits 53 = .ok (.iload 6, 2) := by decide +kernel
theorem dX11_fits_55 : decode cX11_fits 55 = .ok (.bipush 99, 2) := by decide +kernel
theorem dX11_fits_57 : decode cX11_fits 57 = .ok (.if_icmp .gt 55, 3) := by decide +kernel
theorem dX11_fits_60 : decode cX11_fits 60 = .ok (.aload_n 0, 1) := by decide +kernel
theorem dX11_fits_61 : decode cX11_fits 61 = .ok (.getfield 17, 3) := by decide +kernel
theorem dX11_fits_64 : decode cX11_fits 64 = .ok (.iconst 0, 1) := by decide +kernel
theorem dX11_fits_65 : decode cX11_fits 65 = .ok (.iload 6, 2) := by decide +kernel
theorem dX11_fits_67 : decode cX11_fits 67 = .ok (.iastore, 1) := by decide +kernel
theorem dX11_fits_68 : decode cX11_fits 68 = .ok (.aload_n 0, 1) := by decide +kernel
theorem dX11_fits_69 : decode cX11_fits 69 = .ok (.invokevirtual 305, 3) := by decide +kernel
theorem dX11_fits_72 : decode cX11_fits 72 = .ok (.iconst 1, 1) := by decide +kernel
theorem dX11_fits_73 : decode cX11_fits 73 = .ok (.aload_n 0, 1) := by decide +kernel
theorem dX11_fits_74 : decode cX11_fits 74 = .ok (.getfield 64, 3) := by decide +kernel
theorem dX11_fits_77 : decode cX11_fits 77 = .ok (.ishl, 1) := by decide +kernel
theorem dX11_fits_78 : decode cX11_fits 78 = .ok (.iconst 1, 1) := by decide +kernel
theorem dX11_fits_79 : decode cX11_fits 79 = .ok (.isub, 1) := by decide +kernel
theorem dX11_fits_80 : decode cX11_fits 80 = .ok (.if_icmp .ne 26, 3) := by decide +kernel
theorem dX11_fits_83 : decode cX11_fits 83 = .ok (.iinc 3 1, 3) := by decide +kernel
theorem dX11_fits_86 : decode cX11_fits 86 = .ok (.iload 4, 2) := by decide +kernel
theorem dX11_fits_88 : decode cX11_fits 88 = .ok (.bipush (-4), 2) := by decide +kernel
theorem dX11_fits_90 : decode cX11_fits 90 = .ok (.if_icmp .ne 8, 3) := by decide +kernel
theorem dX11_fits_93 : decode cX11_fits 93 = .ok (.iload 6, 2) := by decide +kernel
theorem dX11_fits_95 : decode cX11_fits 95 = .ok (.goto 5, 3) := by decide +kernel
theorem dX11_fits_98 : decode cX11_fits 98 = .ok (.iload 4, 2) := by decide +kernel
theorem dX11_fits_100 : decode cX11_fits 100 = .ok (.istore 4, 2) := by decide +kernel
theorem dX11_fits_102 : decode cX11_fits 102 = .ok (.iload 6, 2) := by decide +kernel
theorem dX11_fits_104 : decode cX11_fits 104 = .ok (.istore 5, 2) := by decide +kernel
theorem dX11_fits_106 : decode cX11_fits 106 = .ok (.iinc 6 1, 3) := by decide +kernel
theorem dX11_fits_109 : decode cX11_fits 109 = .ok (.goto (-56), 3) := by decide +kernel
theorem dX11_fits_112 : decode cX11_fits 112 = .ok (.aload_n 0, 1) := by decide +kernel
theorem dX11_fits_113 : decode cX11_fits 113 = .ok (.getfield 17, 3) := by decide +kernel
theorem dX11_fits_116 : decode cX11_fits 116 = .ok (.iconst 0, 1) := by decide +kernel
theorem dX11_fits_117 : decode cX11_fits 117 = .ok (.iload_n 2, 1) := by decide +kernel
theorem dX11_fits_118 : decode cX11_fits 118 = .ok (.iastore, 1) := by decide +kernel
theorem dX11_fits_119 : decode cX11_fits 119 = .ok (.iload_n 1, 1) := by decide +kernel
theorem dX11_fits_120 : decode cX11_fits 120 = .ok (.ifCond .ne 7, 3) := by decide +kernel
theorem dX11_fits_123 : decode cX11_fits 123 = .ok (.iload_n 3, 1) := by decide +kernel
theorem dX11_fits_124 : decode cX11_fits 124 = .ok (.goto 15, 3) := by decide +kernel
theorem dX11_fits_127 : decode cX11_fits 127 = .ok (.iload_n 1, 1) := by decide +kernel
theorem dX11_fits_128 : decode cX11_fits 128 = .ok (.iconst 1, 1) := by decide +kernel
theorem dX11_fits_129 : decode cX11_fits 129 = .ok (.if_icmp .ne 8, 3) := by decide +kernel
theorem dX11_fits_132 : decode cX11_fits 132 = .ok (.iload 4, 2) := by decide +kernel
theorem dX11_fits_134 : decode cX11_fits 134 = .ok (.goto 5, 3) := by decide +kernel
theorem dX11_fits_137 : decode cX11_fits 137 = .ok (.iload 5, 2) := by decide +kernel
theorem dX11_fits_139 : decode cX11_fits 139 = .ok (.ireturn, 1) := by decide +kernel
theorem dX11_isSheet_0 : decode cX11_isSheet 0 = .ok (.iload_n 0, 1) := by decide +kernel
theorem dX11_isSheet_1 : decode cX11_isSheet 1 = .ok (.i2l, 1) := by decide +kernel
theorem dX11_isSheet_2 : decode cX11_isSheet 2 = .ok (.lconst 0, 1) := by decide +kernel
theorem dX11_isSheet_3 : decode cX11_isSheet 3 = .ok (.ldc2_w 167, 3) := by decide +kernel
theorem dX11_isSheet_6 : decode cX11_isSheet 6 = .ok (.invokestatic 72, 3) := by decide +kernel
theorem dX11_isSheet_9 : decode cX11_isSheet 9 = .ok (.ifCond .eq 19, 3) := by decide +kernel
theorem dX11_isSheet_12 : decode cX11_isSheet 12 = .ok (.iload_n 1, 1) := by decide +kernel
theorem dX11_isSheet_13 : decode cX11_isSheet 13 = .ok (.i2l, 1) := by decide +kernel
theorem dX11_isSheet_14 : decode cX11_isSheet 14 = .ok (.lconst 0, 1) := by decide +kernel
theorem dX11_isSheet_15 : decode cX11_isSheet 15 = .ok (.ldc2_w 257, 3) := by decide +kernel
theorem dX11_isSheet_18 : decode cX11_isSheet 18 = .ok (.invokestatic 72, 3) := by decide +kernel
theorem dX11_isSheet_21 : decode cX11_isSheet 21 = .ok (.ifCond .eq 7, 3) := by decide +kernel
theorem dX11_isSheet_24 : decode cX11_isSheet 24 = .ok (.iconst 1, 1) := by decide +kernel
theorem dX11_isSheet_25 : decode cX11_isSheet 25 = .ok (.goto 4, 3) := by decide +kernel
theorem dX11_isSheet_28 : decode cX11_isSheet 28 = .ok (.iconst 0, 1) := by decide +kernel
theorem dX11_isSheet_29 : decode cX11_isSheet 29 = .ok (.ireturn, 1) := by decide +kernel
theorem dX11_sheet_0 : decode cX11_sheet 0 = .ok (.iload_n 1, 1) := by decide +kernel
theorem dX11_sheet_1 : decode cX11_sheet 1 = .ok (.iload_n 2, 1) := by decide +kernel
theorem dX11_sheet_2 : decode cX11_sheet 2 = .ok (.invokestatic 308, 3) := by decide +kernel
theorem dX11_sheet_5 : decode cX11_sheet 5 = .ok (.ifCond .eq 9, 3) := by decide +kernel
theorem dX11_sheet_8 : decode cX11_sheet 8 = .ok (.iload_n 3, 1) := by decide +kernel
theorem dX11_sheet_9 : decode cX11_sheet 9 = .ok (.bipush 40, 2) := by decide +kernel
theorem dX11_sheet_11 : decode cX11_sheet 11 = .ok (.if_icmp .le 5, 3) := by decide +kernel
theorem dX11_sheet_14 : decode cX11_sheet 14 = .ok (.iconst (-1), 1) := by decide +kernel
theorem dX11_sheet_15 : decode cX11_sheet 15 = .ok (.ireturn, 1) := by decide +kernel
theorem dX11_sheet_16 : decode cX11_sheet 16 = .ok (.iload_n 3, 1) := by decide +kernel
theorem dX11_sheet_17 : decode cX11_sheet 17 = .ok (.ifCond .ge 6, 3) := by decide +kernel
theorem dX11_sheet_20 : decode cX11_sheet 20 = .ok (.bipush (-14), 2) := by decide +kernel
theorem dX11_sheet_22 : decode cX11_sheet 22 = .ok (.ireturn, 1) := by decide +kernel
theorem dX11_sheet_23 : decode cX11_sheet 23 = .ok (.aload_n 0, 1) := by decide +kernel
theorem dX11_sheet_24 : decode cX11_sheet 24 = .ok (.getfield 45, 3) := by decide +kernel
theorem dX11_sheet_27 : decode cX11_sheet 27 = .ok (.iload_n 1, 1) := by decide +kernel
theorem dX11_sheet_28 : decode cX11_sheet 28 = .ok (.iload_n 2, 1) := by decide +kernel
theorem dX11_sheet_29 : decode cX11_sheet 29 = .ok (.iastore, 1) := by decide +kernel
theorem dX11_sheet_30 : decode cX11_sheet 30 = .ok (.aload_n 0, 1) := by decide +kernel
theorem dX11_sheet_31 : decode cX11_sheet 31 = .ok (.getfield 48, 3) := by decide +kernel
theorem dX11_sheet_34 : decode cX11_sheet 34 = .ok (.iload_n 1, 1) := by decide +kernel
theorem dX11_sheet_35 : decode cX11_sheet 35 = .ok (.iload_n 3, 1) := by decide +kernel
theorem dX11_sheet_36 : decode cX11_sheet 36 = .ok (.iastore, 1) := by decide +kernel
theorem dX11_sheet_37 : decode cX11_sheet 37 = .ok (.iconst 0, 1) := by decide +kernel
theorem dX11_sheet_38 : decode cX11_sheet 38 = .ok (.istore 4, 2) := by decide +kernel
theorem dX11_sheet_40 : decode cX11_sheet 40 = .ok (.iload 4, 2) := by decide +kernel
theorem dX11_sheet_42 : decode cX11_sheet 42 = .ok (.bipush 40, 2) := by decide +kernel
theorem dX11_sheet_44 : decode cX11_sheet 44 = .ok (.if_icmp .ge 22, 3) := by decide +kernel
theorem dX11_sheet_47 : decode cX11_sheet 47 = .ok (.aload_n 0, 1) := by decide +kernel
theorem dX11_sheet_48 : decode cX11_sheet 48 = .ok (.getfield 51, 3) := by decide +kernel
theorem dX11_sheet_51 : decode cX11_sheet 51 = .ok (.bipush 40, 2) := by decide +kernel
theorem dX11_sheet_53 : decode cX11_sheet 53 = .ok (.iload_n 1, 1) := by decide +kernel
theorem dX11_sheet_54 : decode cX11_sheet 54 = .ok (.imul, 1) := by decide +kernel
theorem dX11_sheet_55 : decode cX11_sheet 55 = .ok (.iload 4, 2) := by decide +kernel
theorem dX11_sheet_57 : decode cX11_sheet 57 = .ok (.iadd, 1) := by decide +kernel
theorem dX11_sheet_58 : decode cX11_sheet 58 = .ok (.iconst 0, 1) := by decide +kernel
theorem dX11_sheet_59 : decode cX11_sheet 59 = .ok (.iastore, 1) := by decide +kernel
theorem dX11_sheet_60 : decode cX11_sheet 60 = .ok (.iinc 4 1, 3) := by decide +kernel
theorem dX11_sheet_63 : decode cX11_sheet 63 = .ok (.goto (-23), 3) := by decide +kernel
theorem dX11_sheet_66 : decode cX11_sheet 66 = .ok (.iconst 1, 1) := by decide +kernel
theorem dX11_sheet_67 : decode cX11_sheet 67 = .ok (.ireturn, 1) := by decide +kernel
theorem dX11_lay_0 : decode cX11_lay 0 = .ok (.iload_n 1, 1) := by decide +kernel
theorem dX11_lay_1 : decode cX11_lay 1 = .ok (.iconst 0, 1) := by decide +kernel
theorem dX11_lay_2 : decode cX11_lay 2 = .ok (.invokestatic 308, 3) := by decide +kernel
theorem dX11_lay_5 : decode cX11_lay 5 = .ok (.ifCond .ne 5, 3) := by decide +kernel
theorem dX11_lay_8 : decode cX11_lay 8 = .ok (.iconst (-1), 1) := by decide +kernel
theorem dX11_lay_9 : decode cX11_lay 9 = .ok (.ireturn, 1) := by decide +kernel
theorem dX11_lay_10 : decode cX11_lay 10 = .ok (.aload_n 0, 1) := by decide +kernel
theorem dX11_lay_11 : decode cX11_lay 11 = .ok (.getfield 45, 3) := by decide +kernel
theorem dX11_lay_14 : decode cX11_lay 14 = .ok (.iload_n 1, 1) := by decide +kernel
theorem dX11_lay_15 : decode cX11_lay 15 = .ok (.iaload, 1) := by decide +kernel
theorem dX11_lay_16 : decode cX11_lay 16 = .ok (.bipush (-4), 2) := by decide +kernel
theorem dX11_lay_18 : decode cX11_lay 18 = .ok (.if_icmp .ne 6, 3) := by decide +kernel
theorem dX11_lay_21 : decode cX11_lay 21 = .ok (.bipush (-11), 2) := by decide +kernel
theorem dX11_lay_23 : decode cX11_lay 23 = .ok (.ireturn, 1) := by decide +kernel
theorem dX11_lay_24 : decode cX11_lay 24 = .ok (.iload_n 2, 1) := by decide +kernel
theorem dX11_lay_25 : decode cX11_lay 25 = .ok (.i2l, 1) := by decide +kernel
theorem dX11_lay_26 : decode cX11_lay 26 = .ok (.lconst 0, 1) := by decide +kernel
theorem dX11_lay_27 : decode cX11_lay 27 = .ok (.aload_n 0, 1) := by decide +kernel
theorem dX11_lay_28 : decode cX11_lay 28 = .ok (.getfield 48, 3) := by decide +kernel
theorem dX11_lay_31 : decode cX11_lay 31 = .ok (.iload_n 1, 1) := by decide +kernel
theorem dX11_lay_32 : decode cX11_lay 32 = .ok (.iaload, 1) := by decide +kernel
theorem dX11_lay_33 : decode cX11_lay 33 = .ok (.iconst 1, 1) := by decide +kernel
theorem dX11_lay_34 : decode cX11_lay 34 = .ok (.isub, 1) := by decide +kernel
theorem dX11_lay_35 : decode cX11_lay 35 = .ok (.i2l, 1) := by decide +kernel
theorem dX11_lay_36 : decode cX11_lay 36 = .ok (.invokestatic 72, 3) := by decide +kernel
theorem dX11_lay_39 : decode cX11_lay 39 = .ok (.ifCond .ne 6, 3) := by decide +kernel
theorem dX11_lay_42 : decode cX11_lay 42 = .ok (.bipush (-12), 2) := by decide +kernel
theorem dX11_lay_44 : decode cX11_lay 44 = .ok (.ireturn, 1) := by decide +kernel
theorem dX11_lay_45 : decode cX11_lay 45 = .ok (.aload_n 0, 1) := by decide +kernel
theorem dX11_lay_46 : decode cX11_lay 46 = .ok (.getfield 51, 3) := by decide +kernel
theorem dX11_lay_49 : decode cX11_lay 49 = .ok (.bipush 40, 2) := by decide +kernel
theorem dX11_lay_51 : decode cX11_lay 51 = .ok (.iload_n 1, 1) := by decide +kernel
theorem dX11_lay_52 : decode cX11_lay 52 = .ok (.imul, 1) := by decide +kernel
theorem dX11_lay_53 : decode cX11_lay 53 = .ok (.iload_n 2, 1) := by decide +kernel
theorem dX11_lay_54 : decode cX11_lay 54 = .ok (.iadd, 1) := by decide +kernel
theorem dX11_lay_55 : decode cX11_lay 55 = .ok (.aload_n 0, 1) := by decide +kernel
theorem dX11_lay_56 : decode cX11_lay 56 = .ok (.getfield 45, 3) := by decide +kernel
theorem dX11_lay_59 : decode cX11_lay 59 = .ok (.iload_n 1, 1) := by decide +kernel
theorem dX11_lay_60 : decode cX11_lay 60 = .ok (.iaload, 1) := by decide +kernel
theorem dX11_lay_61 : decode cX11_lay 61 = .ok (.ifCond .ne 8, 3) := by decide +kernel
theorem dX11_lay_64 : decode cX11_lay 64 = .ok (.iload_n 3, 1) := by decide +kernel
theorem dX11_lay_65 : decode cX11_lay 65 = .ok (.i2b, 1) := by decide +kernel
theorem dX11_lay_66 : decode cX11_lay 66 = .ok (.goto 19, 3) := by decide +kernel
theorem dX11_lay_69 : decode cX11_lay 69 = .ok (.aload_n 0, 1) := by decide +kernel
theorem dX11_lay_70 : decode cX11_lay 70 = .ok (.getfield 45, 3) := by decide +kernel
theorem dX11_lay_73 : decode cX11_lay 73 = .ok (.iload_n 1, 1) := by decide +kernel
theorem dX11_lay_74 : decode cX11_lay 74 = .ok (.iaload, 1) := by decide +kernel
theorem dX11_lay_75 : decode cX11_lay 75 = .ok (.iconst 1, 1) := by decide +kernel
theorem dX11_lay_76 : decode cX11_lay 76 = .ok (.if_icmp .ne 8, 3) := by decide +kernel
theorem dX11_lay_79 : decode cX11_lay 79 = .ok (.iload_n 3, 1) := by decide +kernel
theorem dX11_lay_80 : decode cX11_lay 80 = .ok (.i2s, 1) := by decide +kernel
theorem dX11_lay_81 : decode cX11_lay 81 = .ok (.goto 4, 3) := by decide +kernel
theorem dX11_lay_84 : decode cX11_lay 84 = .ok (.iload_n 3, 1) := by decide +kernel
theorem dX11_lay_85 : decode cX11_lay 85 = .ok (.iastore, 1) := by decide +kernel
theorem dX11_lay_86 : decode cX11_lay 86 = .ok (.iconst 1, 1) := by decide +kernel
theorem dX11_lay_87 : decode cX11_lay 87 = .ok (.ireturn, 1) := by decide +kernel
theorem dX11_takesBack_0 : decode cX11_takesBack 0 = .ok (.aload_n 0, 1) := by decide +kernel
theorem dX11_takesBack_1 : decode cX11_takesBack 1 = .ok (.getfield 7, 3) := by decide +kernel
theorem dX11_takesBack_4 : decode cX11_takesBack 4 = .ok (.sipush 176, 3) := by decide +kernel
theorem dX11_takesBack_7 : decode cX11_takesBack 7 = .ok (.iload_n 1, 1) := by decide +kernel
theorem dX11_takesBack_8 : decode cX11_takesBack 8 = .ok (.iastore, 1) := by decide +kernel
theorem dX11_takesBack_9 : decode cX11_takesBack 9 = .ok (.aload_n 0, 1) := by decide +kernel
theorem dX11_takesBack_10 : decode cX11_takesBack 10 = .ok (.getfield 7, 3) := by decide +kernel
theorem dX11_takesBack_13 : decode cX11_takesBack 13 = .ok (.sipush 174, 3) := by decide +kernel
theorem dX11_takesBack_16 : decode cX11_takesBack 16 = .ok (.iload_n 2, 1) := by decide +kernel
theorem dX11_takesBack_17 : decode cX11_takesBack 17 = .ok (.iastore, 1) := by decide +kernel
theorem dX11_takesBack_18 : decode cX11_takesBack 18 = .ok (.return_, 1) := by decide +kernel
theorem dX11_read_0 : decode cX11_read 0 = .ok (.iload_n 1, 1) := by decide +kernel
theorem dX11_read_1 : decode cX11_read 1 = .ok (.iload_n 2, 1) := by decide +kernel
theorem dX11_read_2 : decode cX11_read 2 = .ok (.invokestatic 308, 3) := by decide +kernel
theorem dX11_read_5 : decode cX11_read 5 = .ok (.ifCond .eq 16, 3) := by decide +kernel
theorem dX11_read_8 : decode cX11_read 8 = .ok (.iload 4, 2) := by decide +kernel
theorem dX11_read_10 : decode cX11_read 10 = .ok (.i2l, 1) := by decide +kernel
theorem dX11_read_11 : decode cX11_read 11 = .ok (.lconst 0, 1) := by decide +kernel
theorem dX11_read_12 : decode cX11_read 12 = .ok (.ldc2_w 311, 3) := by decide +kernel
theorem dX11_read_15 : decode cX11_read 15 = .ok (.invokestatic 72, 3) := by decide +kernel
theorem dX11_read_18 : decode cX11_read 18 = .ok (.ifCond .ne 5, 3) := by decide +kernel
theorem dX11_read_21 : decode cX11_read 21 = .ok (.iconst (-1), 1) := by decide +kernel
theorem dX11_read_22 : decode cX11_read 22 = .ok (.ireturn, 1) := by decide +kernel
theorem dX11_read_23 : decode cX11_read 23 = .ok (.aload_n 0, 1) := by decide +kernel
theorem dX11_read_24 : decode cX11_read 24 = .ok (.getfield 7, 3) := by decide +kernel
theorem dX11_read_27 : decode cX11_read 27 = .ok (.sipush 176, 3) := by decide +kernel
theorem dX11_read_30 : decode cX11_read 30 = .ok (.iaload, 1) := by decide +kernel
theorem dX11_read_31 : decode cX11_read 31 = .ok (.istore 5, 2) := by decide +kernel
theorem dX11_read_33 : decode cX11_read 33 = .ok (.aload_n 0, 1) := by decide +kernel
theorem dX11_read_34 : decode cX11_read 34 = .ok (.getfield 7, 3) := by decide +kernel
theorem dX11_read_37 : decode cX11_read 37 = .ok (.sipush 174, 3) := by decide +kernel
theorem dX11_read_40 : decode cX11_read 40 = .ok (.iaload, 1) := by decide +kernel
theorem dX11_read_41 : decode cX11_read 41 = .ok (.istore 6, 2) := by decide +kernel
theorem dX11_read_43 : decode cX11_read 43 = .ok (.iconst 0, 1) := by decide +kernel
theorem dX11_read_44 : decode cX11_read 44 = .ok (.istore 7, 2) := by decide +kernel
theorem dX11_read_46 : decode cX11_read 46 = .ok (.iconst 0, 1) := by decide +kernel
theorem dX11_read_47 : decode cX11_read 47 = .ok (.istore 8, 2) := by decide +kernel
theorem dX11_read_49 : decode cX11_read 49 = .ok (.iconst 0, 1) := by decide +kernel
theorem dX11_read_50 : decode cX11_read 50 = .ok (.istore 9, 2) := by decide +kernel
theorem dX11_read_52 : decode cX11_read 52 = .ok (.iload 9, 2) := by decide +kernel
theorem dX11_read_54 : decode cX11_read 54 = .ok (.iload 4, 2) := by decide +kernel
theorem dX11_read_56 : decode cX11_read 56 = .ok (.if_icmp .ge 187, 3) := by decide +kernel
theorem dX11_read_59 : decode cX11_read 59 = .ok (.iload 7, 2) := by decide +kernel
theorem dX11_read_61 : decode cX11_read 61 = .ok (.ifCond .ne 182, 3) := by decide +kernel
theorem dX11_read_64 : decode cX11_read 64 = .ok (.iconst 0, 1) := by decide +kernel
theorem dX11_read_65 : decode cX11_read 65 = .ok (.istore 10, 2) := by decide +kernel
theorem dX11_read_67 : decode cX11_read 67 = .ok (.iload 10, 2) := by decide +kernel
theorem dX11_read_69 : decode cX11_read 69 = .ok (.iconst 3, 1) := by decide +kernel
theorem dX11_read_70 : decode cX11_read 70 = .ok (.if_icmp .ge 84, 3) := by decide +kernel
theorem dX11_read_73 : decode cX11_read 73 = .ok (.iload 7, 2) := by decide +kernel
theorem dX11_read_75 : decode cX11_read 75 = .ok (.ifCond .ne 79, 3) := by decide +kernel
theorem dX11_read_78 : decode cX11_read 78 = .ok (.iload_n 3, 1) := by decide +kernel
theorem dX11_read_79 : decode cX11_read 79 = .ok (.i2l, 1) := by decide +kernel
theorem dX11_read_80 : decode cX11_read 80 = .ok (.iconst 3, 1) := by decide +kernel
theorem dX11_read_81 : decode cX11_read 81 = .ok (.iload 9, 2) := by decide +kernel
theorem dX11_read_83 : decode cX11_read 83 = .ok (.imul, 1) := by decide +kernel
theorem dX11_read_84 : decode cX11_read 84 = .ok (.i2l, 1) := by decide +kernel
theorem dX11_read_85 : decode cX11_read 85 = .ok (.ladd, 1) := by decide +kernel
theorem dX11_read_86 : decode cX11_read 86 = .ok (.iload 10, 2) := by decide +kernel
theorem dX11_read_88 : decode cX11_read 88 = .ok (.i2l, 1) := by decide +kernel
theorem dX11_read_89 : decode cX11_read 89 = .ok (.ladd, 1) := by decide +kernel
theorem dX11_read_90 : decode cX11_read 90 = .ok (.lstore 11, 2) := by decide +kernel
theorem dX11_read_92 : decode cX11_read 92 = .ok (.aload_n 0, 1) := by decide +kernel
theorem dX11_read_93 : decode cX11_read 93 = .ok (.getfield 45, 3) := by decide +kernel
theorem dX11_read_96 : decode cX11_read 96 = .ok (.iload_n 1, 1) := by decide +kernel
theorem dX11_read_97 : decode cX11_read 97 = .ok (.iaload, 1) := by decide +kernel
theorem dX11_read_98 : decode cX11_read 98 = .ok (.bipush (-4), 2) := by decide +kernel
theorem dX11_read_100 : decode cX11_read 100 = .ok (.if_icmp .ne 7, 3) := by decide +kernel
theorem dX11_read_103 : decode cX11_read 103 = .ok (.iconst 1, 1) := by decide +kernel
theorem dX11_read_104 : decode cX11_read 104 = .ok (.goto 42, 3) := by decide +kernel
theorem dX11_read_107 : decode cX11_read 107 = .ok (.aload_n 0, 1) := by decide +kernel
theorem dX11_read_108 : decode cX11_read 108 = .ok (.getfield 45, 3) := by decide +kernel
theorem dX11_read_111 : decode cX11_read 111 = .ok (.iload_n 1, 1) := by decide +kernel
theorem dX11_read_112 : decode cX11_read 112 = .ok (.iaload, 1) := by decide +kernel
theorem dX11_read_113 : decode cX11_read 113 = .ok (.iload_n 2, 1) := by decide +kernel
theorem dX11_read_114 : decode cX11_read 114 = .ok (.if_icmp .eq 7, 3) := by decide +kernel
theorem dX11_read_117 : decode cX11_read 117 = .ok (.iconst 3, 1) := by decide +kernel
theorem dX11_read_118 : decode cX11_read 118 = .ok (.goto 28, 3) := by decide +kernel
theorem dX11_read_121 : decode cX11_read 121 = .ok (.lload 11, 2) := by decide +kernel
theorem dX11_read_123 : decode cX11_read 123 = .ok (.lconst 0, 1) := by decide +kernel
theorem dX11_read_124 : decode cX11_read 124 = .ok (.lcmp, 1) := by decide +kernel
theorem dX11_read_125 : decode cX11_read 125 = .ok (.ifCond .lt 16, 3) := by decide +kernel
theorem dX11_read_128 : decode cX11_read 128 = .ok (.lload 11, 2) := by decide +kernel
theorem dX11_read_130 : decode cX11_read 130 = .ok (.aload_n 0, 1) := by decide +kernel
theorem dX11_read_131 : decode cX11_read 131 = .ok (.getfield 48, 3) := by decide +kernel
theorem dX11_read_134 : decode cX11_read 134 = .ok (.iload_n 1, 1) := by decide +kernel
theorem dX11_read_135 : decode cX11_read 135 = .ok (.iaload, 1) := by decide +kernel
theorem dX11_read_136 : decode cX11_read 136 = .ok (.i2l, 1) := by decide +kernel
theorem dX11_read_137 : decode cX11_read 137 = .ok (.lcmp, 1) := by decide +kernel
theorem dX11_read_138 : decode cX11_read 138 = .ok (.ifCond .lt 7, 3) := by decide +kernel
theorem dX11_read_141 : decode cX11_read 141 = .ok (.iconst 2, 1) := by decide +kernel
theorem dX11_read_142 : decode cX11_read 142 = .ok (.goto 4, 3) := by decide +kernel
theorem dX11_read_145 : decode cX11_read 145 = .ok (.iconst 0, 1) := by decide +kernel
theorem dX11_read_146 : decode cX11_read 146 = .ok (.istore 7, 2) := by decide +kernel
theorem dX11_read_148 : decode cX11_read 148 = .ok (.iinc 10 1, 3) := by decide +kernel
theorem dX11_read_151 : decode cX11_read 151 = .ok (.goto (-84), 3) := by decide +kernel
theorem dX11_read_154 : decode cX11_read 154 = .ok (.iload 7, 2) := by decide +kernel
theorem dX11_read_156 : decode cX11_read 156 = .ok (.ifCond .ne 81, 3) := by decide +kernel
theorem dX11_read_159 : decode cX11_read 159 = .ok (.bipush 40, 2) := by decide +kernel
theorem dX11_read_161 : decode cX11_read 161 = .ok (.iload_n 1, 1) := by decide +kernel
theorem dX11_read_162 : decode cX11_read 162 = .ok (.imul, 1) := by decide +kernel
theorem dX11_read_163 : decode cX11_read 163 = .ok (.iload_n 3, 1) := by decide +kernel
theorem dX11_read_164 : decode cX11_read 164 = .ok (.iadd, 1) := by decide +kernel
theorem dX11_read_165 : decode cX11_read 165 = .ok (.iconst 3, 1) := by decide +kernel
theorem dX11_read_166 : decode cX11_read 166 = .ok (.iload 9, 2) := by decide +kernel
theorem dX11_read_168 : decode cX11_read 168 = .ok (.imul, 1) := by decide +kernel
theorem dX11_read_169 : decode cX11_read 169 = .ok (.iadd, 1) := by decide +kernel
theorem dX11_read_170 : decode cX11_read 170 = .ok (.istore 10, 2) := by decide +kernel
theorem dX11_read_172 : decode cX11_read 172 = .ok (.aload_n 0, 1) := by decide +kernel
theorem dX11_read_173 : decode cX11_read 173 = .ok (.aload_n 0, 1) := by decide +kernel
theorem dX11_read_174 : decode cX11_read 174 = .ok (.getfield 51, 3) := by decide +kernel
theorem dX11_read_177 : decode cX11_read 177 = .ok (.iload 10, 2) := by decide +kernel
theorem dX11_read_179 : decode cX11_read 179 = .ok (.iaload, 1) := by decide +kernel
theorem dX11_read_180 : decode cX11_read 180 = .ok (.aload_n 0, 1) := by decide +kernel
theorem dX11_read_181 : decode cX11_read 181 = .ok (.getfield 51, 3) := by decide +kernel
theorem dX11_read_184 : decode cX11_read 184 = .ok (.iload 10, 2) := by decide +kernel
theorem dX11_read_186 : decode cX11_read 186 = .ok (.iconst 1, 1) := by decide +kernel
theorem dX11_read_187 : decode cX11_read 187 = .ok (.iadd, 1) := by decide +kernel
theorem dX11_read_188 : decode cX11_read 188 = .ok (.iaload, 1) := by decide +kernel
theorem dX11_read_189 : decode cX11_read 189 = .ok (.aload_n 0, 1) := by decide +kernel
theorem dX11_read_190 : decode cX11_read 190 = .ok (.getfield 51, 3) := by decide +kernel
theorem dX11_read_193 : decode cX11_read 193 = .ok (.iload 10, 2) := by decide +kernel
theorem dX11_read_195 : decode cX11_read 195 = .ok (.iconst 2, 1) := by decide +kernel
theorem dX11_read_196 : decode cX11_read 196 = .ok (.iadd, 1) := by decide +kernel
theorem dX11_read_197 : decode cX11_read 197 = .ok (.iaload, 1) := by decide +kernel
theorem dX11_read_198 : decode cX11_read 198 = .ok (.invokevirtual 313, 3) := by decide +kernel
theorem dX11_read_201 : decode cX11_read 201 = .ok (.istore 11, 2) := by decide +kernel
theorem dX11_read_203 : decode cX11_read 203 = .ok (.iload 11, 2) := by decide +kernel
theorem dX11_read_205 : decode cX11_read 205 = .ok (.ifCond .ge 29, 3) := by decide +kernel
theorem dX11_read_208 : decode cX11_read 208 = .ok (.aload_n 0, 1) := by decide +kernel
theorem dX11_read_209 : decode cX11_read 209 = .ok (.iload 5, 2) := by decide +kernel
theorem dX11_read_211 : decode cX11_read 211 = .ok (.iload 6, 2) := by decide +kernel
theorem dX11_read_213 : decode cX11_read 213 = .ok (.invokevirtual 316, 3) := by decide +kernel
theorem dX11_read_216 : decode cX11_read 216 = .ok (.iload 11, 2) := by decide +kernel
theorem dX11_read_218 : decode cX11_read 218 = .ok (.bipush (-3), 2) := by decide +kernel
theorem dX11_read_220 : decode cX11_read 220 = .ok (.if_icmp .ne 8, 3) := by decide +kernel
theorem dX11_read_223 : decode cX11_read 223 = .ok (.bipush (-3), 2) := by decide +kernel
theorem dX11_read_225 : decode cX11_read 225 = .ok (.goto 8, 3) := by decide +kernel
theorem dX11_read_228 : decode cX11_read 228 = .ok (.bipush (-20), 2) := by decide +kernel
theorem dX11_read_230 : decode cX11_read 230 = .ok (.iload 9, 2) := by decide +kernel
theorem dX11_read_232 : decode cX11_read 232 = .ok (.isub, 1) := by decide +kernel
theorem dX11_read_233 : decode cX11_read 233 = .ok (.ireturn, 1) := by decide +kernel
theorem dX11_read_234 : decode cX11_read 234 = .ok (.iinc 8 1, 3) := by decide +kernel
theorem dX11_read_237 : decode cX11_read 237 = .ok (.iinc 9 1, 3) := by decide +kernel
theorem dX11_read_240 : decode cX11_read 240 = .ok (.goto (-188), 3) := by decide +kernel
theorem dX11_read_243 : decode cX11_read 243 = .ok (.aload_n 0, 1) := by decide +kernel
theorem dX11_read_244 : decode cX11_read 244 = .ok (.iload 7, 2) := by decide +kernel
theorem dX11_read_246 : decode cX11_read 246 = .ok (.putfield 319, 3) := by decide +kernel
theorem dX11_read_249 : decode cX11_read 249 = .ok (.iload 8, 2) := by decide +kernel
theorem dX11_read_251 : decode cX11_read 251 = .ok (.ireturn, 1) := by decide +kernel
theorem dX11_torn_0 : decode cX11_torn 0 = .ok (.aload_n 0, 1) := by decide +kernel
theorem dX11_torn_1 : decode cX11_torn 1 = .ok (.getfield 319, 3) := by decide +kernel
theorem dX11_torn_4 : decode cX11_torn 4 = .ok (.ireturn, 1) := by decide +kernel
theorem dX11_count_0 : decode cX11_count 0 = .ok (.iconst 0, 1) := by decide +kernel
theorem dX11_count_1 : decode cX11_count 1 = .ok (.istore_n 2, 1) := by decide +kernel
theorem dX11_count_2 : decode cX11_count 2 = .ok (.iconst 0, 1) := by decide +kernel
theorem dX11_count_3 : decode cX11_count 3 = .ok (.istore_n 3, 1) := by decide +kernel
theorem dX11_count_4 : decode cX11_count 4 = .ok (.iload_n 3, 1) := by decide +kernel
theorem dX11_count_5 : decode cX11_count 5 = .ok (.bipush 96, 2) := by decide +kernel
theorem dX11_count_7 : decode cX11_count 7 = .ok (.if_icmp .ge 31, 3) := by decide +kernel
theorem dX11_count_10 : decode cX11_count 10 = .ok (.iload_n 2, 1) := by decide +kernel
theorem dX11_count_11 : decode cX11_count 11 = .ok (.aload_n 0, 1) := by decide +kernel
theorem dX11_count_12 : decode cX11_count 12 = .ok (.getfield 7, 3) := by decide +kernel
theorem dX11_count_15 : decode cX11_count 15 = .ok (.iload_n 3, 1) := by decide +kernel
theorem dX11_count_16 : decode cX11_count 16 = .ok (.iaload, 1) := by decide +kernel
theorem dX11_count_17 : decode cX11_count 17 = .ok (.bipush 6, 2) := by decide +kernel
theorem dX11_count_19 : decode cX11_count 19 = .ok (.if_icmp .ne 7, 3) := by decide +kernel
theorem dX11_count_22 : decode cX11_count 22 = .ok (.iconst 1, 1) := by decide +kernel
theorem dX11_count_23 : decode cX11_count 23 = .ok (.goto 4, 3) := by decide +kernel
theorem dX11_count_26 : decode cX11_count 26 = .ok (.iconst 0, 1) := by decide +kernel
theorem dX11_count_27 : decode cX11_count 27 = .ok (.invokestatic 120, 3) := by decide +kernel
theorem dX11_count_30 : decode cX11_count 30 = .ok (.iadd, 1) := by decide +kernel
theorem dX11_count_31 : decode cX11_count 31 = .ok (.istore_n 2, 1) := by decide +kernel
theorem dX11_count_32 : decode cX11_count 32 = .ok (.iinc 3 1, 3) := by decide +kernel
theorem dX11_count_35 : decode cX11_count 35 = .ok (.goto (-31), 3) := by decide +kernel
theorem dX11_count_38 : decode cX11_count 38 = .ok (.iload_n 1, 1) := by decide +kernel
theorem dX11_count_39 : decode cX11_count 39 = .ok (.tableswitch 110 0 6 #[41, 50, 55, 60, 80, 82, 87], 41) := by decide +kernel
theorem dX11_count_80 : decode cX11_count 80 = .ok (.aload_n 0, 1) := by decide +kernel
theorem dX11_count_81 : decode cX11_count 81 = .ok (.getfield 7, 3) := by decide +kernel
theorem dX11_count_84 : decode cX11_count 84 = .ok (.sipush 176, 3) := by decide +kernel
theorem dX11_count_87 : decode cX11_count 87 = .ok (.iaload, 1) := by decide +kernel
theorem dX11_count_88 : decode cX11_count 88 = .ok (.ireturn, 1) := by decide +kernel
theorem dX11_count_89 : decode cX11_count 89 = .ok (.aload_n 0, 1) := by decide +kernel
theorem dX11_count_90 : decode cX11_count 90 = .ok (.invokevirtual 217, 3) := by decide +kernel
theorem dX11_count_93 : decode cX11_count 93 = .ok (.ireturn, 1) := by decide +kernel
theorem dX11_count_94 : decode cX11_count 94 = .ok (.aload_n 0, 1) := by decide +kernel
theorem dX11_count_95 : decode cX11_count 95 = .ok (.getfield 64, 3) := by decide +kernel
theorem dX11_count_98 : decode cX11_count 98 = .ok (.ireturn, 1) := by decide +kernel
theorem dX11_count_99 : decode cX11_count 99 = .ok (.aload_n 0, 1) := by decide +kernel
theorem dX11_count_100 : decode cX11_count 100 = .ok (.getfield 13, 3) := by decide +kernel
theorem dX11_count_103 : decode cX11_count 103 = .ok (.iconst 0, 1) := by decide +kernel
theorem dX11_count_104 : decode cX11_count 104 = .ok (.baload, 1) := by decide +kernel
theorem dX11_count_105 : decode cX11_count 105 = .ok (.invokestatic 120, 3) := by decide +kernel
theorem dX11_count_108 : decode cX11_count 108 = .ok (.aload_n 0, 1) := by decide +kernel
theorem dX11_count_109 : decode cX11_count 109 = .ok (.getfield 13, 3) := by decide +kernel
theorem dX11_count_112 : decode cX11_count 112 = .ok (.iconst 1, 1) := by decide +kernel
theorem dX11_count_113 : decode cX11_count 113 = .ok (.baload, 1) := by decide +kernel
theorem dX11_count_114 : decode cX11_count 114 = .ok (.invokestatic 120, 3) := by decide +kernel
theorem dX11_count_117 : decode cX11_count 117 = .ok (.iadd, 1) := by decide +kernel
theorem dX11_count_118 : decode cX11_count 118 = .ok (.ireturn, 1) := by decide +kernel
theorem dX11_count_119 : decode cX11_count 119 = .ok (.iload_n 2, 1) := by decide +kernel
theorem dX11_count_120 : decode cX11_count 120 = .ok (.ireturn, 1) := by decide +kernel
theorem dX11_count_121 : decode cX11_count 121 = .ok (.aload_n 0, 1) := by decide +kernel
theorem dX11_count_122 : decode cX11_count 122 = .ok (.getfield 67, 3) := by decide +kernel
theorem dX11_count_125 : decode cX11_count 125 = .ok (.ireturn, 1) := by decide +kernel
theorem dX11_count_126 : decode cX11_count 126 = .ok (.aload_n 0, 1) := by decide +kernel
theorem dX11_count_127 : decode cX11_count 127 = .ok (.getfield 45, 3) := by decide +kernel
theorem dX11_count_130 : decode cX11_count 130 = .ok (.iconst 0, 1) := by decide +kernel
theorem dX11_count_131 : decode cX11_count 131 = .ok (.iaload, 1) := by decide +kernel
theorem dX11_count_132 : decode cX11_count 132 = .ok (.bipush (-4), 2) := by decide +kernel
theorem dX11_count_134 : decode cX11_count 134 = .ok (.if_icmp .ne 8, 3) := by decide +kernel
theorem dX11_count_137 : decode cX11_count 137 = .ok (.bipush (-4), 2) := by decide +kernel
theorem dX11_count_139 : decode cX11_count 139 = .ok (.goto 9, 3) := by decide +kernel
theorem dX11_count_142 : decode cX11_count 142 = .ok (.aload_n 0, 1) := by decide +kernel
theorem dX11_count_143 : decode cX11_count 143 = .ok (.getfield 48, 3) := by decide +kernel
theorem dX11_count_146 : decode cX11_count 146 = .ok (.iconst 0, 1) := by decide +kernel
theorem dX11_count_147 : decode cX11_count 147 = .ok (.iaload, 1) := by decide +kernel
theorem dX11_count_148 : decode cX11_count 148 = .ok (.ireturn, 1) := by decide +kernel
theorem dX11_count_149 : decode cX11_count 149 = .ok (.iconst (-1), 1) := by decide +kernel
theorem dX11_count_150 : decode cX11_count 150 = .ok (.ireturn, 1) := by decide +kernel
