theorem dX10_init_0 : decode cX10_init 0 = .ok (.aload_n 0, 1) := by decide +kernel
theorem dX10_init_1 : decode cX10_init 1 = .ok (.invokespecial 1, 3) := by decide +kernel
theorem dX10_init_4 : decode cX10_init 4 = .ok (.aload_n 0, 1) := by decide +kernel
theorem dX10_init_5 : decode cX10_init 5 = .ok (.new 7, 3) := by decide +kernel
theorem dX10_init_8 : decode cX10_init 8 = .ok (.dup, 1) := by decide +kernel
theorem dX10_init_9 : decode cX10_init 9 = .ok (.invokespecial 9, 3) := by decide +kernel
theorem dX10_init_12 : decode cX10_init 12 = .ok (.putfield 10, 3) := by decide +kernel
theorem dX10_init_15 : decode cX10_init 15 = .ok (.aload_n 0, 1) := by decide +kernel
theorem dX10_init_16 : decode cX10_init 16 = .ok (.iconst 0, 1) := by decide +kernel
theorem dX10_init_17 : decode cX10_init 17 = .ok (.putfield 16, 3) := by decide +kernel
theorem dX10_init_20 : decode cX10_init 20 = .ok (.aload_n 0, 1) := by decide +kernel
theorem dX10_init_21 : decode cX10_init 21 = .ok (.iconst 0, 1) := by decide +kernel
theorem dX10_init_22 : decode cX10_init 22 = .ok (.putfield 20, 3) := by decide +kernel
theorem dX10_init_25 : decode cX10_init 25 = .ok (.aload_n 0, 1) := by decide +kernel
theorem dX10_init_26 : decode cX10_init 26 = .ok (.new 23, 3) := by decide +kernel
theorem dX10_init_29 : decode cX10_init 29 = .ok (.dup, 1) := by decide +kernel
theorem dX10_init_30 : decode cX10_init 30 = .ok (.invokespecial 25, 3) := by decide +kernel
theorem dX10_init_33 : decode cX10_init 33 = .ok (.putfield 26, 3) := by decide +kernel
theorem dX10_init_36 : decode cX10_init 36 = .ok (.aload_n 0, 1) := by decide +kernel
theorem dX10_init_37 : decode cX10_init 37 = .ok (.new 30, 3) := by decide +kernel
theorem dX10_init_40 : decode cX10_init 40 = .ok (.dup, 1) := by decide +kernel
theorem dX10_init_41 : decode cX10_init 41 = .ok (.invokespecial 32, 3) := by decide +kernel
theorem dX10_init_44 : decode cX10_init 44 = .ok (.putfield 33, 3) := by decide +kernel
theorem dX10_init_47 : decode cX10_init 47 = .ok (.aload_n 0, 1) := by decide +kernel
theorem dX10_init_48 : decode cX10_init 48 = .ok (.iconst 2, 1) := by decide +kernel
theorem dX10_init_49 : decode cX10_init 49 = .ok (.anewarray 37, 3) := by decide +kernel
theorem dX10_init_52 : decode cX10_init 52 = .ok (.putfield 39, 3) := by decide +kernel
theorem dX10_init_55 : decode cX10_init 55 = .ok (.aload_n 0, 1) := by decide +kernel
theorem dX10_init_56 : decode cX10_init 56 = .ok (.new 43, 3) := by decide +kernel
theorem dX10_init_59 : decode cX10_init 59 = .ok (.dup, 1) := by decide +kernel
theorem dX10_init_60 : decode cX10_init 60 = .ok (.invokespecial 45, 3) := by decide +kernel
theorem dX10_init_63 : decode cX10_init 63 = .ok (.putfield 46, 3) := by decide +kernel
theorem dX10_init_66 : decode cX10_init 66 = .ok (.aload_n 0, 1) := by decide +kernel
theorem dX10_init_67 : decode cX10_init 67 = .ok (.new 50, 3) := by decide +kernel
theorem dX10_init_70 : decode cX10_init 70 = .ok (.dup, 1) := by decide +kernel
theorem dX10_init_71 : decode cX10_init 71 = .ok (.invokespecial 52, 3) := by decide +kernel
theorem dX10_init_74 : decode cX10_init 74 = .ok (.putfield 53, 3) := by decide +kernel
theorem dX10_init_77 : decode cX10_init 77 = .ok (.aload_n 0, 1) := by decide +kernel
theorem dX10_init_78 : decode cX10_init 78 = .ok (.new 57, 3) := by decide +kernel
theorem dX10_init_81 : decode cX10_init 81 = .ok (.dup, 1) := by decide +kernel
theorem dX10_init_82 : decode cX10_init 82 = .ok (.invokespecial 59, 3) := by decide +kernel
theorem dX10_init_85 : decode cX10_init 85 = .ok (.putfield 60, 3) := by decide +kernel
theorem dX10_init_88 : decode cX10_init 88 = .ok (.aload_n 0, 1) := by decide +kernel
theorem dX10_init_89 : decode cX10_init 89 = .ok (.new 64, 3) := by decide +kernel
theorem dX10_init_92 : decode cX10_init 92 = .ok (.dup, 1) := by decide +kernel
theorem dX10_init_93 : decode cX10_init 93 = .ok (.invokespecial 66, 3) := by decide +kernel
theorem dX10_init_96 : decode cX10_init 96 = .ok (.putfield 67, 3) := by decide +kernel
theorem dX10_init_99 : decode cX10_init 99 = .ok (.aload_n 0, 1) := by decide +kernel
theorem dX10_init_100 : decode cX10_init 100 = .ok (.iconst 4, 1) := by decide +kernel
theorem dX10_init_101 : decode cX10_init 101 = .ok (.anewarray 71, 3) := by decide +kernel
theorem dX10_init_104 : decode cX10_init 104 = .ok (.putfield 73, 3) := by decide +kernel
theorem dX10_init_107 : decode cX10_init 107 = .ok (.aload_n 0, 1) := by decide +kernel
theorem dX10_init_108 : decode cX10_init 108 = .ok (.iconst 0, 1) := by decide +kernel
theorem dX10_init_109 : decode cX10_init 109 = .ok (.putfield 77, 3) := by decide +kernel
theorem dX10_init_112 : decode cX10_init 112 = .ok (.iconst 0, 1) := by decide +kernel
theorem dX10_init_113 : decode cX10_init 113 = .ok (.istore_n 1, 1) := by decide +kernel
theorem dX10_init_114 : decode cX10_init 114 = .ok (.iload_n 1, 1) := by decide +kernel
theorem dX10_init_115 : decode cX10_init 115 = .ok (.iconst 2, 1) := by decide +kernel
theorem dX10_init_116 : decode cX10_init 116 = .ok (.if_icmp .ge 22, 3) := by decide +kernel
theorem dX10_init_119 : decode cX10_init 119 = .ok (.aload_n 0, 1) := by decide +kernel
theorem dX10_init_120 : decode cX10_init 120 = .ok (.getfield 39, 3) := by decide +kernel
theorem dX10_init_123 : decode cX10_init 123 = .ok (.iload_n 1, 1) := by decide +kernel
theorem dX10_init_124 : decode cX10_init 124 = .ok (.new 37, 3) := by decide +kernel
theorem dX10_init_127 : decode cX10_init 127 = .ok (.dup, 1) := by decide +kernel
theorem dX10_init_128 : decode cX10_init 128 = .ok (.invokespecial 80, 3) := by decide +kernel
theorem dX10_init_131 : decode cX10_init 131 = .ok (.aastore, 1) := by decide +kernel
theorem dX10_init_132 : decode cX10_init 132 = .ok (.iinc 1 1, 3) := by decide +kernel
theorem dX10_init_135 : decode cX10_init 135 = .ok (.goto (-21), 3) := by decide +kernel
theorem dX10_init_138 : decode cX10_init 138 = .ok (.iconst 0, 1) := by decide +kernel
theorem dX10_init_139 : decode cX10_init 139 = .ok (.istore_n 1, 1) := by decide +kernel
theorem dX10_init_140 : decode cX10_init 140 = .ok (.iload_n 1, 1) := by decide +kernel
theorem dX10_init_141 : decode cX10_init 141 = .ok (.iconst 4, 1) := by decide +kernel
theorem dX10_init_142 : decode cX10_init 142 = .ok (.if_icmp .ge 22, 3) := by decide +kernel
theorem dX10_init_145 : decode cX10_init 145 = .ok (.aload_n 0, 1) := by decide +kernel
theorem dX10_init_146 : decode cX10_init 146 = .ok (.getfield 73, 3) := by decide +kernel
theorem dX10_init_149 : decode cX10_init 149 = .ok (.iload_n 1, 1) := by decide +kernel
theorem dX10_init_150 : decode cX10_init 150 = .ok (.new 71, 3) := by decide +kernel
theorem dX10_init_153 : decode cX10_init 153 = .ok (.dup, 1) := by decide +kernel
theorem dX10_init_154 : decode cX10_init 154 = .ok (.invokespecial 81, 3) := by decide +kernel
theorem dX10_init_157 : decode cX10_init 157 = .ok (.aastore, 1) := by decide +kernel
theorem dX10_init_158 : decode cX10_init 158 = .ok (.iinc 1 1, 3) := by decide +kernel
theorem dX10_init_161 : decode cX10_init 161 = .ok (.goto (-21), 3) := by decide +kernel
theorem dX10_init_164 : decode cX10_init 164 = .ok (.return_, 1) := by decide +kernel
theorem dX10_feed_0 : decode cX10_feed 0 = .ok (.aload_n 0, 1) := by decide +kernel
theorem dX10_feed_1 : decode cX10_feed 1 = .ok (.getfield 16, 3) := by decide +kernel
theorem dX10_feed_4 : decode cX10_feed 4 = .ok (.sipush 312, 3) := by decide +kernel
theorem dX10_feed_7 : decode cX10_feed 7 = .ok (.if_icmp .le 6, 3) := by decide +kernel
theorem dX10_feed_10 : decode cX10_feed 10 = .ok (.bipush (-3), 2) := by decide +kernel
theorem dX10_feed_12 : decode cX10_feed 12 = .ok (.ireturn, 1) := by decide +kernel
theorem dX10_feed_13 : decode cX10_feed 13 = .ok (.iconst 0, 1) := by decide +kernel
theorem dX10_feed_14 : decode cX10_feed 14 = .ok (.istore_n 3, 1) := by decide +kernel
theorem dX10_feed_15 : decode cX10_feed 15 = .ok (.iload_n 3, 1) := by decide +kernel
theorem dX10_feed_16 : decode cX10_feed 16 = .ok (.bipush 8, 2) := by decide +kernel
theorem dX10_feed_18 : decode cX10_feed 18 = .ok (.if_icmp .ge 34, 3) := by decide +kernel
theorem dX10_feed_21 : decode cX10_feed 21 = .ok (.aload_n 0, 1) := by decide +kernel
theorem dX10_feed_22 : decode cX10_feed 22 = .ok (.getfield 10, 3) := by decide +kernel
theorem dX10_feed_25 : decode cX10_feed 25 = .ok (.getfield 82, 3) := by decide +kernel
theorem dX10_feed_28 : decode cX10_feed 28 = .ok (.aload_n 0, 1) := by decide +kernel
theorem dX10_feed_29 : decode cX10_feed 29 = .ok (.getfield 16, 3) := by decide +kernel
theorem dX10_feed_32 : decode cX10_feed 32 = .ok (.iload_n 3, 1) := by decide +kernel
theorem dX10_feed_33 : decode cX10_feed 33 = .ok (.iadd, 1) := by decide +kernel
theorem dX10_feed_34 : decode cX10_feed 34 = .ok (.lload_n 1, 1) := by decide +kernel
theorem dX10_feed_35 : decode cX10_feed 35 = .ok (.bipush 8, 2) := by decide +kernel
theorem dX10_feed_37 : decode cX10_feed 37 = .ok (.bipush 7, 2) := by decide +kernel
theorem dX10_feed_39 : decode cX10_feed 39 = .ok (.iload_n 3, 1) := by decide +kernel
theorem dX10_feed_40 : decode cX10_feed 40 = .ok (.isub, 1) := by decide +kernel
theorem dX10_feed_41 : decode cX10_feed 41 = .ok (.imul, 1) := by decide +kernel
theorem dX10_feed_42 : decode cX10_feed 42 = .ok (.lushr, 1) := by decide +kernel
theorem dX10_feed_43 : decode cX10_feed 43 = .ok (.l2i, 1) := by decide +kernel
theorem dX10_feed_44 : decode cX10_feed 44 = .ok (.i2b, 1) := by decide +kernel
theorem dX10_feed_45 : decode cX10_feed 45 = .ok (.bastore, 1) := by decide +kernel
theorem dX10_feed_46 : decode cX10_feed 46 = .ok (.iinc 3 1, 3) := by decide +kernel
theorem dX10_feed_49 : decode cX10_feed 49 = .ok (.goto (-34), 3) := by decide +kernel
theorem dX10_feed_52 : decode cX10_feed 52 = .ok (.aload_n 0, 1) := by decide +kernel
theorem dX10_feed_53 : decode cX10_feed 53 = .ok (.dup, 1) := by decide +kernel
theorem dX10_feed_54 : decode cX10_feed 54 = .ok (.getfield 16, 3) := by decide +kernel
theorem dX10_feed_57 : decode cX10_feed 57 = .ok (.bipush 8, 2) := by decide +kernel
theorem dX10_feed_59 : decode cX10_feed 59 = .ok (.iadd, 1) := by decide +kernel
theorem dX10_feed_60 : decode cX10_feed 60 = .ok (.putfield 16, 3) := by decide +kernel
theorem dX10_feed_63 : decode cX10_feed 63 = .ok (.aload_n 0, 1) := by decide +kernel
theorem dX10_feed_64 : decode cX10_feed 64 = .ok (.getfield 16, 3) := by decide +kernel
theorem dX10_feed_67 : decode cX10_feed 67 = .ok (.ireturn, 1) := by decide +kernel
theorem dX10_end_0 : decode cX10_end 0 = .ok (.iload_n 1, 1) := by decide +kernel
theorem dX10_end_1 : decode cX10_end 1 = .ok (.iconst 0, 1) := by decide +kernel
theorem dX10_end_2 : decode cX10_end 2 = .ok (.aload_n 0, 1) := by decide +kernel
theorem dX10_end_3 : decode cX10_end 3 = .ok (.getfield 16, 3) := by decide +kernel
theorem dX10_end_6 : decode cX10_end 6 = .ok (.invokestatic 86, 3) := by decide +kernel
theorem dX10_end_9 : decode cX10_end 9 = .ok (.ifCond .ne 5, 3) := by decide +kernel
theorem dX10_end_12 : decode cX10_end 12 = .ok (.iconst (-1), 1) := by decide +kernel
theorem dX10_end_13 : decode cX10_end 13 = .ok (.ireturn, 1) := by decide +kernel
theorem dX10_end_14 : decode cX10_end 14 = .ok (.aload_n 0, 1) := by decide +kernel
theorem dX10_end_15 : decode cX10_end 15 = .ok (.getfield 16, 3) := by decide +kernel
theorem dX10_end_18 : decode cX10_end 18 = .ok (.istore_n 2, 1) := by decide +kernel
theorem dX10_end_19 : decode cX10_end 19 = .ok (.aload_n 0, 1) := by decide +kernel
theorem dX10_end_20 : decode cX10_end 20 = .ok (.iload_n 1, 1) := by decide +kernel
theorem dX10_end_21 : decode cX10_end 21 = .ok (.putfield 16, 3) := by decide +kernel
theorem dX10_end_24 : decode cX10_end 24 = .ok (.iload_n 2, 1) := by decide +kernel
theorem dX10_end_25 : decode cX10_end 25 = .ok (.ireturn, 1) := by decide +kernel
theorem dX10_text_0 : decode cX10_text 0 = .ok (.aload_n 0, 1) := by decide +kernel
theorem dX10_text_1 : decode cX10_text 1 = .ok (.getfield 10, 3) := by decide +kernel
theorem dX10_text_4 : decode cX10_text 4 = .ok (.aload_n 0, 1) := by decide +kernel
theorem dX10_text_5 : decode cX10_text 5 = .ok (.getfield 16, 3) := by decide +kernel
theorem dX10_text_8 : decode cX10_text 8 = .ok (.invokevirtual 90, 3) := by decide +kernel
theorem dX10_text_11 : decode cX10_text 11 = .ok (.aload_n 0, 1) := by decide +kernel
theorem dX10_text_12 : decode cX10_text 12 = .ok (.iconst 0, 1) := by decide +kernel
theorem dX10_text_13 : decode cX10_text 13 = .ok (.putfield 16, 3) := by decide +kernel
theorem dX10_text_16 : decode cX10_text 16 = .ok (.aload_n 0, 1) := by decide +kernel
theorem dX10_text_17 : decode cX10_text 17 = .ok (.aload_n 0, 1) := by decide +kernel
theorem dX10_text_18 : decode cX10_text 18 = .ok (.getfield 10, 3) := by decide +kernel
theorem dX10_text_21 : decode cX10_text 21 = .ok (.getfield 94, 3) := by decide +kernel
theorem dX10_text_24 : decode cX10_text 24 = .ok (.putfield 20, 3) := by decide +kernel
theorem dX10_text_27 : decode cX10_text 27 = .ok (.aload_n 0, 1) := by decide +kernel
theorem dX10_text_28 : decode cX10_text 28 = .ok (.getfield 20, 3) := by decide +kernel
theorem dX10_text_31 : decode cX10_text 31 = .ok (.ifCond .eq 14, 3) := by decide +kernel
theorem dX10_text_34 : decode cX10_text 34 = .ok (.bipush (-10), 2) := by decide +kernel
theorem dX10_text_36 : decode cX10_text 36 = .ok (.aload_n 0, 1) := by decide +kernel
theorem dX10_text_37 : decode cX10_text 37 = .ok (.getfield 10, 3) := by decide +kernel
theorem dX10_text_40 : decode cX10_text 40 = .ok (.getfield 97, 3) := by decide +kernel
theorem dX10_text_43 : decode cX10_text 43 = .ok (.isub, 1) := by decide +kernel
theorem dX10_text_44 : decode cX10_text 44 = .ok (.ireturn, 1) := by decide +kernel
theorem dX10_text_45 : decode cX10_text 45 = .ok (.aload_n 0, 1) := by decide +kernel
theorem dX10_text_46 : decode cX10_text 46 = .ok (.getfield 26, 3) := by decide +kernel
theorem dX10_text_49 : decode cX10_text 49 = .ok (.aload_n 0, 1) := by decide +kernel
theorem dX10_text_50 : decode cX10_text 50 = .ok (.getfield 10, 3) := by decide +kernel
theorem dX10_text_53 : decode cX10_text 53 = .ok (.getfield 100, 3) := by decide +kernel
theorem dX10_text_56 : decode cX10_text 56 = .ok (.invokevirtual 101, 3) := by decide +kernel
theorem dX10_text_59 : decode cX10_text 59 = .ok (.aload_n 0, 1) := by decide +kernel
theorem dX10_text_60 : decode cX10_text 60 = .ok (.getfield 33, 3) := by decide +kernel
theorem dX10_text_63 : decode cX10_text 63 = .ok (.aload_n 0, 1) := by decide +kernel
theorem dX10_text_64 : decode cX10_text 64 = .ok (.getfield 10, 3) := by decide +kernel
theorem dX10_text_67 : decode cX10_text 67 = .ok (.getfield 105, 3) := by decide +kernel
theorem dX10_text_70 : decode cX10_text 70 = .ok (.invokevirtual 109, 3) := by decide +kernel
theorem dX10_text_73 : decode cX10_text 73 = .ok (.aload_n 0, 1) := by decide +kernel
theorem dX10_text_74 : decode cX10_text 74 = .ok (.getfield 67, 3) := by decide +kernel
theorem dX10_text_77 : decode cX10_text 77 = .ok (.iconst 0, 1) := by decide +kernel
theorem dX10_text_78 : decode cX10_text 78 = .ok (.putfield 113, 3) := by decide +kernel
theorem dX10_text_81 : decode cX10_text 81 = .ok (.iconst 0, 1) := by decide +kernel
theorem dX10_text_82 : decode cX10_text 82 = .ok (.istore_n 1, 1) := by decide +kernel
theorem dX10_text_83 : decode cX10_text 83 = .ok (.iload_n 1, 1) := by decide +kernel
theorem dX10_text_84 : decode cX10_text 84 = .ok (.iconst 2, 1) := by decide +kernel
theorem dX10_text_85 : decode cX10_text 85 = .ok (.if_icmp .ge 19, 3) := by decide +kernel
theorem dX10_text_88 : decode cX10_text 88 = .ok (.aload_n 0, 1) := by decide +kernel
theorem dX10_text_89 : decode cX10_text 89 = .ok (.getfield 39, 3) := by decide +kernel
theorem dX10_text_92 : decode cX10_text 92 = .ok (.iload_n 1, 1) := by decide +kernel
theorem dX10_text_93 : decode cX10_text 93 = .ok (.aaload, 1) := by decide +kernel
theorem dX10_text_94 : decode cX10_text 94 = .ok (.iconst 0, 1) := by decide +kernel
theorem dX10_text_95 : decode cX10_text 95 = .ok (.putfield 116, 3) := by decide +kernel
theorem dX10_text_98 : decode cX10_text 98 = .ok (.iinc 1 1, 3) := by decide +kernel
theorem dX10_text_101 : decode cX10_text 101 = .ok (.goto (-18), 3) := by decide +kernel
theorem dX10_text_104 : decode cX10_text 104 = .ok (.aload_n 0, 1) := by decide +kernel
theorem dX10_text_105 : decode cX10_text 105 = .ok (.getfield 10, 3) := by decide +kernel
theorem dX10_text_108 : decode cX10_text 108 = .ok (.getfield 120, 3) := by decide +kernel
theorem dX10_text_111 : decode cX10_text 111 = .ok (.ireturn, 1) := by decide +kernel
theorem dX10_fault_0 : decode cX10_fault 0 = .ok (.aload_n 0, 1) := by decide +kernel
theorem dX10_fault_1 : decode cX10_fault 1 = .ok (.getfield 20, 3) := by decide +kernel
theorem dX10_fault_4 : decode cX10_fault 4 = .ok (.ireturn, 1) := by decide +kernel
theorem dX10_rule_0 : decode cX10_rule 0 = .ok (.iload_n 1, 1) := by decide +kernel
theorem dX10_rule_1 : decode cX10_rule 1 = .ok (.iconst 0, 1) := by decide +kernel
theorem dX10_rule_2 : decode cX10_rule 2 = .ok (.bipush 8, 2) := by decide +kernel
theorem dX10_rule_4 : decode cX10_rule 4 = .ok (.invokestatic 86, 3) := by decide +kernel
theorem dX10_rule_7 : decode cX10_rule 7 = .ok (.ifCond .eq 14, 3) := by decide +kernel
theorem dX10_rule_10 : decode cX10_rule 10 = .ok (.aload_n 0, 1) := by decide +kernel
theorem dX10_rule_11 : decode cX10_rule 11 = .ok (.getfield 26, 3) := by decide +kernel
theorem dX10_rule_14 : decode cX10_rule 14 = .ok (.iload_n 1, 1) := by decide +kernel
theorem dX10_rule_15 : decode cX10_rule 15 = .ok (.invokevirtual 123, 3) := by decide +kernel
theorem dX10_rule_18 : decode cX10_rule 18 = .ok (.goto 4, 3) := by decide +kernel
theorem dX10_rule_21 : decode cX10_rule 21 = .ok (.iconst (-1), 1) := by decide +kernel
theorem dX10_rule_22 : decode cX10_rule 22 = .ok (.ireturn, 1) := by decide +kernel
theorem dX10_cell_0 : decode cX10_cell 0 = .ok (.iload_n 1, 1) := by decide +kernel
theorem dX10_cell_1 : decode cX10_cell 1 = .ok (.invokestatic 127, 3) := by decide +kernel
theorem dX10_cell_4 : decode cX10_cell 4 = .ok (.ifCond .eq 14, 3) := by decide +kernel
theorem dX10_cell_7 : decode cX10_cell 7 = .ok (.aload_n 0, 1) := by decide +kernel
theorem dX10_cell_8 : decode cX10_cell 8 = .ok (.getfield 33, 3) := by decide +kernel
theorem dX10_cell_11 : decode cX10_cell 11 = .ok (.iload_n 1, 1) := by decide +kernel
theorem dX10_cell_12 : decode cX10_cell 12 = .ok (.invokevirtual 131, 3) := by decide +kernel
theorem dX10_cell_15 : decode cX10_cell 15 = .ok (.goto 4, 3) := by decide +kernel
theorem dX10_cell_18 : decode cX10_cell 18 = .ok (.iconst (-1), 1) := by decide +kernel
theorem dX10_cell_19 : decode cX10_cell 19 = .ok (.ireturn, 1) := by decide +kernel
theorem dX10_put_0 : decode cX10_put 0 = .ok (.iload_n 1, 1) := by decide +kernel
theorem dX10_put_1 : decode cX10_put 1 = .ok (.invokestatic 127, 3) := by decide +kernel
theorem dX10_put_4 : decode cX10_put 4 = .ok (.ifCond .eq 13, 3) := by decide +kernel
theorem dX10_put_7 : decode cX10_put 7 = .ok (.iload_n 2, 1) := by decide +kernel
theorem dX10_put_8 : decode cX10_put 8 = .ok (.iconst 0, 1) := by decide +kernel
theorem dX10_put_9 : decode cX10_put 9 = .ok (.bipush 7, 2) := by decide +kernel
theorem dX10_put_11 : decode cX10_put 11 = .ok (.invokestatic 86, 3) := by decide +kernel
theorem dX10_put_14 : decode cX10_put 14 = .ok (.ifCond .ne 5, 3) := by decide +kernel
theorem dX10_put_17 : decode cX10_put 17 = .ok (.iconst (-1), 1) := by decide +kernel
theorem dX10_put_18 : decode cX10_put 18 = .ok (.ireturn, 1) := by decide +kernel
theorem dX10_put_19 : decode cX10_put 19 = .ok (.iload_n 2, 1) := by decide +kernel
theorem dX10_put_20 : decode cX10_put 20 = .ok (.iconst 5, 1) := by decide +kernel
theorem dX10_put_21 : decode cX10_put 21 = .ok (.if_icmp .eq 9, 3) := by decide +kernel
theorem dX10_put_24 : decode cX10_put 24 = .ok (.iload_n 2, 1) := by decide +kernel
theorem dX10_put_25 : decode cX10_put 25 = .ok (.bipush 6, 2) := by decide +kernel
theorem dX10_put_27 : decode cX10_put 27 = .ok (.if_icmp .ne 19, 3) := by decide +kernel
theorem dX10_put_30 : decode cX10_put 30 = .ok (.aload_n 0, 1) := by decide +kernel
theorem dX10_put_31 : decode cX10_put 31 = .ok (.getfield 33, 3) := by decide +kernel
theorem dX10_put_34 : decode cX10_put 34 = .ok (.iload_n 1, 1) := by decide +kernel
theorem dX10_put_35 : decode cX10_put 35 = .ok (.invokevirtual 134, 3) := by decide +kernel
theorem dX10_put_38 : decode cX10_put 38 = .ok (.bipush (-4), 2) := by decide +kernel
theorem dX10_put_40 : decode cX10_put 40 = .ok (.if_icmp .eq 6, 3) := by decide +kernel
theorem dX10_put_43 : decode cX10_put 43 = .ok (.bipush (-2), 2) := by decide +kernel
theorem dX10_put_45 : decode cX10_put 45 = .ok (.ireturn, 1) := by decide +kernel
theorem dX10_put_46 : decode cX10_put 46 = .ok (.aload_n 0, 1) := by decide +kernel
theorem dX10_put_47 : decode cX10_put 47 = .ok (.getfield 33, 3) := by decide +kernel
theorem dX10_put_50 : decode cX10_put 50 = .ok (.getfield 137, 3) := by decide +kernel
theorem dX10_put_53 : decode cX10_put 53 = .ok (.iload_n 1, 1) := by decide +kernel
theorem dX10_put_54 : decode cX10_put 54 = .ok (.iaload, 1) := by decide +kernel
theorem dX10_put_55 : decode cX10_put 55 = .ok (.istore_n 3, 1) := by decide +kernel
theorem dX10_put_56 : decode cX10_put 56 = .ok (.aload_n 0, 1) := by decide +kernel
theorem dX10_put_57 : decode cX10_put 57 = .ok (.getfield 33, 3) := by decide +kernel
theorem dX10_put_60 : decode cX10_put 60 = .ok (.getfield 137, 3) := by decide +kernel
theorem dX10_put_63 : decode cX10_put 63 = .ok (.iload_n 1, 1) := by decide +kernel
theorem dX10_put_64 : decode cX10_put 64 = .ok (.iload_n 2, 1) := by decide +kernel
theorem dX10_put_65 : decode cX10_put 65 = .ok (.iastore, 1) := by decide +kernel
theorem dX10_put_66 : decode cX10_put 66 = .ok (.iload_n 3, 1) := by decide +kernel
theorem dX10_put_67 : decode cX10_put 67 = .ok (.ireturn, 1) := by decide +kernel
theorem dX10_heat_0 : decode cX10_heat 0 = .ok (.iload_n 1, 1) := by decide +kernel
theorem dX10_heat_1 : decode cX10_heat 1 = .ok (.invokestatic 138, 3) := by decide +kernel
theorem dX10_heat_4 : decode cX10_heat 4 = .ok (.ifCond .ne 5, 3) := by decide +kernel
theorem dX10_heat_7 : decode cX10_heat 7 = .ok (.iconst (-1), 1) := by decide +kernel
theorem dX10_heat_8 : decode cX10_heat 8 = .ok (.ireturn, 1) := by decide +kernel
theorem dX10_heat_9 : decode cX10_heat 9 = .ok (.aload_n 0, 1) := by decide +kernel
theorem dX10_heat_10 : decode cX10_heat 10 = .ok (.getfield 33, 3) := by decide +kernel
theorem dX10_heat_13 : decode cX10_heat 13 = .ok (.iload_n 1, 1) := by decide +kernel
theorem dX10_heat_14 : decode cX10_heat 14 = .ok (.putfield 141, 3) := by decide +kernel
theorem dX10_heat_17 : decode cX10_heat 17 = .ok (.aload_n 0, 1) := by decide +kernel
theorem dX10_heat_18 : decode cX10_heat 18 = .ok (.getfield 33, 3) := by decide +kernel
theorem dX10_heat_21 : decode cX10_heat 21 = .ok (.aload_n 0, 1) := by decide +kernel
theorem dX10_heat_22 : decode cX10_heat 22 = .ok (.getfield 26, 3) := by decide +kernel
theorem dX10_heat_25 : decode cX10_heat 25 = .ok (.iload_n 1, 1) := by decide +kernel
theorem dX10_heat_26 : decode cX10_heat 26 = .ok (.aload_n 0, 1) := by decide +kernel
theorem dX10_heat_27 : decode cX10_heat 27 = .ok (.getfield 33, 3) := by decide +kernel
theorem dX10_heat_30 : decode cX10_heat 30 = .ok (.getfield 144, 3) := by decide +kernel
theorem dX10_heat_33 : decode cX10_heat 33 = .ok (.ifCond .ne 7, 3) := by decide +kernel
theorem dX10_heat_36 : decode cX10_heat 36 = .ok (.iconst 1, 1) := by decide +kernel
theorem dX10_heat_37 : decode cX10_heat 37 = .ok (.goto 4, 3) := by decide +kernel
theorem dX10_heat_40 : decode cX10_heat 40 = .ok (.iconst 0, 1) := by decide +kernel
theorem dX10_heat_41 : decode cX10_heat 41 = .ok (.invokevirtual 147, 3) := by decide +kernel
theorem dX10_heat_44 : decode cX10_heat 44 = .ok (.putfield 144, 3) := by decide +kernel
theorem dX10_heat_47 : decode cX10_heat 47 = .ok (.aload_n 0, 1) := by decide +kernel
theorem dX10_heat_48 : decode cX10_heat 48 = .ok (.getfield 33, 3) := by decide +kernel
theorem dX10_heat_51 : decode cX10_heat 51 = .ok (.getfield 144, 3) := by decide +kernel
theorem dX10_heat_54 : decode cX10_heat 54 = .ok (.ifCond .eq 7, 3) := by decide +kernel
theorem dX10_heat_57 : decode cX10_heat 57 = .ok (.iconst 1, 1) := by decide +kernel
theorem dX10_heat_58 : decode cX10_heat 58 = .ok (.goto 4, 3) := by decide +kernel
theorem dX10_heat_61 : decode cX10_heat 61 = .ok (.iconst 0, 1) := by decide +kernel
theorem dX10_heat_62 : decode cX10_heat 62 = .ok (.ireturn, 1) := by decide +kernel
theorem dX10_drop_0 : decode cX10_drop 0 = .ok (.aload_n 0, 1) := by decide +kernel
theorem dX10_drop_1 : decode cX10_drop 1 = .ok (.iload_n 1, 1) := by decide +kernel
theorem dX10_drop_2 : decode cX10_drop 2 = .ok (.iload_n 2, 1) := by decide +kernel
theorem dX10_drop_3 : decode cX10_drop 3 = .ok (.iload_n 3, 1) := by decide +kernel
theorem dX10_drop_4 : decode cX10_drop 4 = .ok (.invokevirtual 151, 3) := by decide +kernel
theorem dX10_drop_7 : decode cX10_drop 7 = .ok (.ireturn, 1) := by decide +kernel
theorem dX10_go_0 : decode cX10_go 0 = .ok (.iload_n 1, 1) := by decide +kernel
theorem dX10_go_1 : decode cX10_go 1 = .ok (.iconst 1, 1) := by decide +kernel
theorem dX10_go_2 : decode cX10_go 2 = .ok (.sipush 200, 3) := by decide +kernel
theorem dX10_go_5 : decode cX10_go 5 = .ok (.invokestatic 86, 3) := by decide +kernel
theorem dX10_go_8 : decode cX10_go 8 = .ok (.ifCond .ne 5, 3) := by decide +kernel
theorem dX10_go_11 : decode cX10_go 11 = .ok (.iconst (-1), 1) := by decide +kernel
theorem dX10_go_12 : decode cX10_go 12 = .ok (.ireturn, 1) := by decide +kernel
theorem dX10_go_13 : decode cX10_go 13 = .ok (.aload_n 0, 1) := by decide +kernel
theorem dX10_go_14 : decode cX10_go 14 = .ok (.getfield 26, 3) := by decide +kernel
theorem dX10_go_17 : decode cX10_go 17 = .ok (.bipush 8, 2) := by decide +kernel
theorem dX10_go_19 : decode cX10_go 19 = .ok (.invokevirtual 123, 3) := by decide +kernel
theorem dX10_go_22 : decode cX10_go 22 = .ok (.istore_n 2, 1) := by decide +kernel
theorem dX10_go_23 : decode cX10_go 23 = .ok (.iconst 0, 1) := by decide +kernel
theorem dX10_go_24 : decode cX10_go 24 = .ok (.istore_n 3, 1) := by decide +kernel
theorem dX10_go_25 : decode cX10_go 25 = .ok (.iload_n 3, 1) := by decide +kernel
theorem dX10_go_26 : decode cX10_go 26 = .ok (.iload_n 1, 1) := by decide +kernel
theorem dX10_go_27 : decode cX10_go 27 = .ok (.if_icmp .ge 21, 3) := by decide +kernel
theorem dX10_go_30 : decode cX10_go 30 = .ok (.aload_n 0, 1) := by decide +kernel
theorem dX10_go_31 : decode cX10_go 31 = .ok (.getfield 33, 3) := by decide +kernel
theorem dX10_go_34 : decode cX10_go 34 = .ok (.aload_n 0, 1) := by decide +kernel
theorem dX10_go_35 : decode cX10_go 35 = .ok (.getfield 26, 3) := by decide +kernel
theorem dX10_go_38 : decode cX10_go 38 = .ok (.iload_n 2, 1) := by decide +kernel
theorem dX10_go_39 : decode cX10_go 39 = .ok (.invokevirtual 155, 3) := by decide +kernel
theorem dX10_go_42 : decode cX10_go 42 = .ok (.iinc 3 1, 3) := by decide +kernel
theorem dX10_go_45 : decode cX10_go 45 = .ok (.goto (-20), 3) := by decide +kernel
theorem dX10_go_48 : decode cX10_go 48 = .ok (.aload_n 0, 1) := by decide +kernel
theorem dX10_go_49 : decode cX10_go 49 = .ok (.getfield 33, 3) := by decide +kernel
theorem dX10_go_52 : decode cX10_go 52 = .ok (.invokevirtual 159, 3) := by decide +kernel
theorem dX10_go_55 : decode cX10_go 55 = .ok (.ireturn, 1) := by decide +kernel
theorem dX10_seed_0 : decode cX10_seed 0 = .ok (.aload_n 0, 1) := by decide +kernel
theorem dX10_seed_1 : decode cX10_seed 1 = .ok (.getfield 33, 3) := by decide +kernel
theorem dX10_seed_4 : decode cX10_seed 4 = .ok (.getfield 163, 3) := by decide +kernel
theorem dX10_seed_7 : decode cX10_seed 7 = .ok (.istore_n 2, 1) := by decide +kernel
theorem dX10_seed_8 : decode cX10_seed 8 = .ok (.aload_n 0, 1) := by decide +kernel
theorem dX10_seed_9 : decode cX10_seed 9 = .ok (.getfield 33, 3) := by decide +kernel
theorem dX10_seed_12 : decode cX10_seed 12 = .ok (.iload_n 1, 1) := by decide +kernel
theorem dX10_seed_13 : decode cX10_seed 13 = .ok (.putfield 163, 3) := by decide +kernel
theorem dX10_seed_16 : decode cX10_seed 16 = .ok (.iload_n 2, 1) := by decide +kernel
theorem dX10_seed_17 : decode cX10_seed 17 = .ok (.ireturn, 1) := by decide +kernel
theorem dX10_of_0 : decode cX10_of 0 = .ok (.aload_n 0, 1) := by decide +kernel
theorem dX10_of_1 : decode cX10_of 1 = .ok (.getfield 33, 3) := by decide +kernel
theorem dX10_of_4 : decode cX10_of 4 = .ok (.iload_n 1, 1) := by decide +kernel
theorem dX10_of_5 : decode cX10_of 5 = .ok (.invokevirtual 166, 3) := by decide +kernel
theorem dX10_of_8 : decode cX10_of 8 = .ok (.ifCond .ne 5, 3) := by decide +kernel
theorem dX10_of_11 : decode cX10_of 11 = .ok (.iconst (-1), 1) := by decide +kernel
theorem dX10_of_12 : decode cX10_of 12 = .ok (.ireturn, 1) := by decide +kernel
theorem dX10_of_13 : decode cX10_of 13 = .ok (.aload_n 0, 1) := by decide +kernel
theorem dX10_of_14 : decode cX10_of 14 = .ok (.getfield 33, 3) := by decide +kernel
theorem dX10_of_17 : decode cX10_of 17 = .ok (.getfield 169, 3) := by decide +kernel
theorem dX10_of_20 : decode cX10_of 20 = .ok (.iload_n 1, 1) := by decide +kernel
theorem dX10_of_21 : decode cX10_of 21 = .ok (.aaload, 1) := by decide +kernel
theorem dX10_of_22 : decode cX10_of 22 = .ok (.astore_n 3, 1) := by decide +kernel
theorem dX10_of_23 : decode cX10_of 23 = .ok (.iload_n 2, 1) := by decide +kernel
theorem dX10_of_24 : decode cX10_of 24 = .ok (.tableswitch 70 0 5 #[40, 45, 50, 55, 60, 65], 40) := by decide +kernel
theorem dX10_of_64 : decode cX10_of 64 = .ok (.aload_n 3, 1) := by decide +kernel
theorem dX10_of_65 : decode cX10_of 65 = .ok (.getfield 173, 3) := by decide +kernel
theorem dX10_of_68 : decode cX10_of 68 = .ok (.ireturn, 1) := by decide +kernel
theorem dX10_of_69 : decode cX10_of 69 = .ok (.aload_n 3, 1) := by decide +kernel
theorem dX10_of_70 : decode cX10_of 70 = .ok (.getfield 178, 3) := by decide +kernel
theorem dX10_of_73 : decode cX10_of 73 = .ok (.ireturn, 1) := by decide +kernel
theorem dX10_of_74 : decode cX10_of 74 = .ok (.aload_n 3, 1) := by decide +kernel
theorem dX10_of_75 : decode cX10_of 75 = .ok (.getfield 181, 3) := by decide +kernel
theorem dX10_of_78 : decode cX10_of 78 = .ok (.ireturn, 1) := by decide +kernel
theorem dX10_of_79 : decode cX10_of 79 = .ok (.aload_n 3, 1) := by decide +kernel
theorem dX10_of_80 : decode cX10_of 80 = .ok (.getfield 184, 3) := by decide +kernel
theorem dX10_of_83 : decode cX10_of 83 = .ok (.ireturn, 1) := by decide +kernel
theorem dX10_of_84 : decode cX10_of 84 = .ok (.aload_n 3, 1) := by decide +kernel
theorem dX10_of_85 : decode cX10_of 85 = .ok (.getfield 187, 3) := by decide +kernel
theorem dX10_of_88 : decode cX10_of 88 = .ok (.ireturn, 1) := by decide +kernel
theorem dX10_of_89 : decode cX10_of 89 = .ok (.aload_n 3, 1) := by decide +kernel
theorem dX10_of_90 : decode cX10_of 90 = .ok (.getfield 190, 3) := by decide +kernel
theorem dX10_of_93 : decode cX10_of 93 = .ok (.ireturn, 1) := by decide +kernel
theorem dX10_of_94 : decode cX10_of 94 = .ok (.iconst (-1), 1) := by decide +kernel
theorem dX10_of_95 : decode cX10_of 95 = .ok (.ireturn, 1) := by decide +kernel
theorem dX10_at_0 : decode cX10_at 0 = .ok (.iload_n 1, 1) := by decide +kernel
theorem dX10_at_1 : decode cX10_at 1 = .ok (.invokestatic 127, 3) := by decide +kernel
theorem dX10_at_4 : decode cX10_at 4 = .ok (.ifCond .eq 14, 3) := by decide +kernel
theorem dX10_at_7 : decode cX10_at 7 = .ok (.aload_n 0, 1) := by decide +kernel
theorem dX10_at_8 : decode cX10_at 8 = .ok (.getfield 33, 3) := by decide +kernel
theorem dX10_at_11 : decode cX10_at 11 = .ok (.iload_n 1, 1) := by decide +kernel
theorem dX10_at_12 : decode cX10_at 12 = .ok (.invokevirtual 134, 3) := by decide +kernel
theorem dX10_at_15 : decode cX10_at 15 = .ok (.goto 4, 3) := by decide +kernel
theorem dX10_at_18 : decode cX10_at 18 = .ok (.iconst (-1), 1) := by decide +kernel
theorem dX10_at_19 : decode cX10_at 19 = .ok (.ireturn, 1) := by decide +kernel
theorem dX10_now_0 : decode cX10_now 0 = .ok (.iload_n 1, 1) := by decide +kernel
theorem dX10_now_1 : decode cX10_now 1 = .ok (.tableswitch 119 0 7 #[47, 55, 63, 79, 87, 95, 103, 111], 47) := by decide +kernel
theorem dX10_now_48 : decode cX10_now 48 = .ok (.aload_n 0, 1) := by decide +kernel
theorem dX10_now_49 : decode cX10_now 49 = .ok (.getfield 33, 3) := by decide +kernel
theorem dX10_now_52 : decode cX10_now 52 = .ok (.getfield 193, 3) := by decide +kernel
theorem dX10_now_55 : decode cX10_now 55 = .ok (.ireturn, 1) := by decide +kernel
theorem dX10_now_56 : decode cX10_now 56 = .ok (.aload_n 0, 1) := by decide +kernel
theorem dX10_now_57 : decode cX10_now 57 = .ok (.getfield 33, 3) := by decide +kernel
theorem dX10_now_60 : decode cX10_now 60 = .ok (.getfield 141, 3) := by decide +kernel
theorem dX10_now_63 : decode cX10_now 63 = .ok (.ireturn, 1) := by decide +kernel
theorem dX10_now_64 : decode cX10_now 64 = .ok (.aload_n 0, 1) := by decide +kernel
theorem dX10_now_65 : decode cX10_now 65 = .ok (.getfield 33, 3) := by decide +kernel
theorem dX10_now_68 : decode cX10_now 68 = .ok (.getfield 144, 3) := by decide +kernel
theorem dX10_now_71 : decode cX10_now 71 = .ok (.ifCond .eq 7, 3) := by decide +kernel
theorem dX10_now_74 : decode cX10_now 74 = .ok (.iconst 1, 1) := by decide +kernel
theorem dX10_now_75 : decode cX10_now 75 = .ok (.goto 4, 3) := by decide +kernel
theorem dX10_now_78 : decode cX10_now 78 = .ok (.iconst 0, 1) := by decide +kernel
theorem dX10_now_79 : decode cX10_now 79 = .ok (.ireturn, 1) := by decide +kernel
theorem dX10_now_80 : decode cX10_now 80 = .ok (.aload_n 0, 1) := by decide +kernel
theorem dX10_now_81 : decode cX10_now 81 = .ok (.getfield 33, 3) := by decide +kernel
theorem dX10_now_84 : decode cX10_now 84 = .ok (.invokevirtual 196, 3) := by decide +kernel
theorem dX10_now_87 : decode cX10_now 87 = .ok (.ireturn, 1) := by decide +kernel
theorem dX10_now_88 : decode cX10_now 88 = .ok (.aload_n 0, 1) := by decide +kernel
theorem dX10_now_89 : decode cX10_now 89 = .ok (.getfield 33, 3) := by decide +kernel
theorem dX10_now_92 : decode cX10_now 92 = .ok (.getfield 199, 3) := by decide +kernel
theorem dX10_now_95 : decode cX10_now 95 = .ok (.ireturn, 1) := by decide +kernel
theorem dX10_now_96 : decode cX10_now 96 = .ok (.aload_n 0, 1) := by decide +kernel
theorem dX10_now_97 : decode cX10_now 97 = .ok (.getfield 33, 3) := by decide +kernel
theorem dX10_now_100 : decode cX10_now 100 = .ok (.getfield 202, 3) := by decide +kernel
theorem dX10_now_103 : decode cX10_now 103 = .ok (.ireturn, 1) := by decide +kernel
theorem dX10_now_104 : decode cX10_now 104 = .ok (.aload_n 0, 1) := by decide +kernel
theorem dX10_now_105 : decode cX10_now 105 = .ok (.getfield 33, 3) := by decide +kernel
theorem dX10_now_108 : decode cX10_now 108 = .ok (.getfield 205, 3) := by decide +kernel
theorem dX10_now_111 : decode cX10_now 111 = .ok (.ireturn, 1) := by decide +kernel
theorem dX10_now_112 : decode cX10_now 112 = .ok (.aload_n 0, 1) := by decide +kernel
theorem dX10_now_113 : decode cX10_now 113 = .ok (.getfield 33, 3) := by decide +kernel
theorem dX10_now_116 : decode cX10_now 116 = .ok (.getfield 208, 3) := by decide +kernel
theorem dX10_now_119 : decode cX10_now 119 = .ok (.ireturn, 1) := by decide +kernel
theorem dX10_now_120 : decode cX10_now 120 = .ok (.iconst (-1), 1) := by decide +kernel
theorem dX10_now_121 : decode cX10_now 121 = .ok (.ireturn, 1) := by decide +kernel
theorem dX10_points_0 : decode cX10_points 0 = .ok (.aload_n 0, 1) := by decide +kernel
theorem dX10_points_1 : decode cX10_points 1 = .ok (.getfield 33, 3) := by decide +kernel
theorem dX10_points_4 : decode cX10_points 4 = .ok (.iload_n 1, 1) := by decide +kernel
theorem dX10_points_5 : decode cX10_points 5 = .ok (.invokevirtual 166, 3) := by decide +kernel
theorem dX10_points_8 : decode cX10_points 8 = .ok (.ifCond .ne 5, 3) := by decide +kernel
theorem dX10_points_11 : decode cX10_points 11 = .ok (.iconst (-1), 1) := by decide +kernel
theorem dX10_points_12 : decode cX10_points 12 = .ok (.ireturn, 1) := by decide +kernel
theorem dX10_points_13 : decode cX10_points 13 = .ok (.aload_n 0, 1) := by decide +kernel
theorem dX10_points_14 : decode cX10_points 14 = .ok (.getfield 33, 3) := by decide +kernel
theorem dX10_points_17 : decode cX10_points 17 = .ok (.getfield 169, 3) := by decide +kernel
theorem dX10_points_20 : decode cX10_points 20 = .ok (.iload_n 1, 1) := by decide +kernel
theorem dX10_points_21 : decode cX10_points 21 = .ok (.aaload, 1) := by decide +kernel
theorem dX10_points_22 : decode cX10_points 22 = .ok (.astore_n 2, 1) := by decide +kernel
theorem dX10_points_23 : decode cX10_points 23 = .ok (.aload_n 2, 1) := by decide +kernel
theorem dX10_points_24 : decode cX10_points 24 = .ok (.getfield 184, 3) := by decide +kernel
theorem dX10_points_27 : decode cX10_points 27 = .ok (.ifCond .eq 6, 3) := by decide +kernel
theorem dX10_points_30 : decode cX10_points 30 = .ok (.bipush (-4), 2) := by decide +kernel
theorem dX10_points_32 : decode cX10_points 32 = .ok (.ireturn, 1) := by decide +kernel
theorem dX10_points_33 : decode cX10_points 33 = .ok (.aload_n 0, 1) := by decide +kernel
theorem dX10_points_34 : decode cX10_points 34 = .ok (.getfield 33, 3) := by decide +kernel
theorem dX10_points_37 : decode cX10_points 37 = .ok (.aload_n 2, 1) := by decide +kernel
theorem dX10_points_38 : decode cX10_points 38 = .ok (.invokevirtual 211, 3) := by decide +kernel
theorem dX10_points_41 : decode cX10_points 41 = .ok (.ifCond .ne 17, 3) := by decide +kernel
theorem dX10_points_44 : decode cX10_points 44 = .ok (.aload_n 0, 1) := by decide +kernel
theorem dX10_points_45 : decode cX10_points 45 = .ok (.getfield 26, 3) := by decide +kernel
theorem dX10_points_48 : decode cX10_points 48 = .ok (.aload_n 2, 1) := by decide +kernel
theorem dX10_points_49 : decode cX10_points 49 = .ok (.getfield 178, 3) := by decide +kernel
theorem dX10_points_52 : decode cX10_points 52 = .ok (.invokevirtual 215, 3) := by decide +kernel
theorem dX10_points_55 : decode cX10_points 55 = .ok (.ifCond .eq 5, 3) := by decide +kernel
theorem dX10_points_58 : decode cX10_points 58 = .ok (.iconst 0, 1) := by decide +kernel
theorem dX10_points_59 : decode cX10_points 59 = .ok (.ireturn, 1) := by decide +kernel
theorem dX10_points_60 : decode cX10_points 60 = .ok (.iconst 3, 1) := by decide +kernel
theorem dX10_points_61 : decode cX10_points 61 = .ok (.iconst 2, 1) := by decide +kernel
theorem dX10_points_62 : decode cX10_points 62 = .ok (.aload_n 2, 1) := by decide +kernel
theorem dX10_points_63 : decode cX10_points 63 = .ok (.getfield 178, 3) := by decide +kernel
theorem dX10_points_66 : decode cX10_points 66 = .ok (.bipush 10, 2) := by decide +kernel
theorem dX10_points_68 : decode cX10_points 68 = .ok (.idiv, 1) := by decide +kernel
theorem dX10_points_69 : decode cX10_points 69 = .ok (.imul, 1) := by decide +kernel
theorem dX10_points_70 : decode cX10_points 70 = .ok (.iadd, 1) := by decide +kernel
theorem dX10_points_71 : decode cX10_points 71 = .ok (.ireturn, 1) := by decide +kernel
theorem dX10_keep_0 : decode cX10_keep 0 = .ok (.iload_n 1, 1) := by decide +kernel
theorem dX10_keep_1 : decode cX10_keep 1 = .ok (.iconst 0, 1) := by decide +kernel
theorem dX10_keep_2 : decode cX10_keep 2 = .ok (.iconst 1, 1) := by decide +kernel
theorem dX10_keep_3 : decode cX10_keep 3 = .ok (.invokestatic 86, 3) := by decide +kernel
theorem dX10_keep_6 : decode cX10_keep 6 = .ok (.ifCond .ne 5, 3) := by decide +kernel
theorem dX10_keep_9 : decode cX10_keep 9 = .ok (.iconst (-1), 1) := by decide +kernel
theorem dX10_keep_10 : decode cX10_keep 10 = .ok (.ireturn, 1) := by decide +kernel
theorem dX10_keep_11 : decode cX10_keep 11 = .ok (.aload_n 0, 1) := by decide +kernel
theorem dX10_keep_12 : decode cX10_keep 12 = .ok (.getfield 39, 3) := by decide +kernel
theorem dX10_keep_15 : decode cX10_keep 15 = .ok (.iload_n 1, 1) := by decide +kernel
theorem dX10_keep_16 : decode cX10_keep 16 = .ok (.aaload, 1) := by decide +kernel
theorem dX10_keep_17 : decode cX10_keep 17 = .ok (.astore_n 2, 1) := by decide +kernel
theorem dX10_keep_18 : decode cX10_keep 18 = .ok (.aload_n 2, 1) := by decide +kernel
theorem dX10_keep_19 : decode cX10_keep 19 = .ok (.getfield 116, 3) := by decide +kernel
theorem dX10_keep_22 : decode cX10_keep 22 = .ok (.ifCond .eq 7, 3) := by decide +kernel
theorem dX10_keep_25 : decode cX10_keep 25 = .ok (.iconst 1, 1) := by decide +kernel
theorem dX10_keep_26 : decode cX10_keep 26 = .ok (.goto 4, 3) := by decide +kernel
theorem dX10_keep_29 : decode cX10_keep 29 = .ok (.iconst 0, 1) := by decide +kernel
theorem dX10_keep_30 : decode cX10_keep 30 = .ok (.istore_n 3, 1) := by decide +kernel
theorem dX10_keep_31 : decode cX10_keep 31 = .ok (.aload_n 2, 1) := by decide +kernel
theorem dX10_keep_32 : decode cX10_keep 32 = .ok (.getfield 218, 3) := by decide +kernel
theorem dX10_keep_35 : decode cX10_keep 35 = .ok (.aload_n 0, 1) := by decide +kernel
theorem dX10_keep_36 : decode cX10_keep 36 = .ok (.getfield 33, 3) := by decide +kernel
theorem dX10_keep_39 : decode cX10_keep 39 = .ok (.invokevirtual 219, 3) := by decide +kernel
theorem dX10_keep_42 : decode cX10_keep 42 = .ok (.aload_n 2, 1) := by decide +kernel
theorem dX10_keep_43 : decode cX10_keep 43 = .ok (.iconst 1, 1) := by decide +kernel
theorem dX10_keep_44 : decode cX10_keep 44 = .ok (.putfield 116, 3) := by decide +kernel
theorem dX10_keep_47 : decode cX10_keep 47 = .ok (.iload_n 3, 1) := by decide +kernel
theorem dX10_keep_48 : decode cX10_keep 48 = .ok (.ireturn, 1) := by decide +kernel
theorem dX10_back_0 : decode cX10_back 0 = .ok (.iload_n 1, 1) := by decide +kernel
theorem dX10_back_1 : decode cX10_back 1 = .ok (.iconst 0, 1) := by decide +kernel
theorem dX10_back_2 : decode cX10_back 2 = .ok (.iconst 1, 1) := by decide +kernel
theorem dX10_back_3 : decode cX10_back 3 = .ok (.invokestatic 86, 3) := by decide +kernel
theorem dX10_back_6 : decode cX10_back 6 = .ok (.ifCond .ne 5, 3) := by decide +kernel
theorem dX10_back_9 : decode cX10_back 9 = .ok (.iconst (-1), 1) := by decide +kernel
theorem dX10_back_10 : decode cX10_back 10 = .ok (.ireturn, 1) := by decide +kernel
theorem dX10_back_11 : decode cX10_back 11 = .ok (.aload_n 0, 1) := by decide +kernel
theorem dX10_back_12 : decode cX10_back 12 = .ok (.getfield 39, 3) := by decide +kernel
theorem dX10_back_15 : decode cX10_back 15 = .ok (.iload_n 1, 1) := by decide +kernel
theorem dX10_back_16 : decode cX10_back 16 = .ok (.aaload, 1) := by decide +kernel
theorem dX10_back_17 : decode cX10_back 17 = .ok (.astore_n 2, 1) := by decide +kernel
theorem dX10_back_18 : decode cX10_back 18 = .ok (.aload_n 2, 1) := by decide +kernel
theorem dX10_back_19 : decode cX10_back 19 = .ok (.getfield 116, 3) := by decide +kernel
theorem dX10_back_22 : decode cX10_back 22 = .ok (.ifCond .ne 6, 3) := by decide +kernel
theorem dX10_back_25 : decode cX10_back 25 = .ok (.bipush (-2), 2) := by decide +kernel
theorem dX10_back_27 : decode cX10_back 27 = .ok (.ireturn, 1) := by decide +kernel
theorem dX10_back_28 : decode cX10_back 28 = .ok (.aload_n 0, 1) := by decide +kernel
theorem dX10_back_29 : decode cX10_back 29 = .ok (.getfield 33, 3) := by decide +kernel
theorem dX10_back_32 : decode cX10_back 32 = .ok (.aload_n 2, 1) := by decide +kernel
theorem dX10_back_33 : decode cX10_back 33 = .ok (.getfield 218, 3) := by decide +kernel
theorem dX10_back_36 : decode cX10_back 36 = .ok (.invokevirtual 219, 3) := by decide +kernel
theorem dX10_back_39 : decode cX10_back 39 = .ok (.aload_n 0, 1) := by decide +kernel
theorem dX10_back_40 : decode cX10_back 40 = .ok (.getfield 33, 3) := by decide +kernel
theorem dX10_back_43 : decode cX10_back 43 = .ok (.getfield 193, 3) := by decide +kernel
theorem dX10_back_46 : decode cX10_back 46 = .ok (.ireturn, 1) := by decide +kernel
theorem dX10_alone_0 : decode cX10_alone 0 = .ok (.iload_n 1, 1) := by decide +kernel
theorem dX10_alone_1 : decode cX10_alone 1 = .ok (.iload_n 2, 1) := by decide +kernel
theorem dX10_alone_2 : decode cX10_alone 2 = .ok (.iload_n 3, 1) := by decide +kernel
theorem dX10_alone_3 : decode cX10_alone 3 = .ok (.invokestatic 222, 3) := by decide +kernel
theorem dX10_alone_6 : decode cX10_alone 6 = .ok (.ifCond .eq 25, 3) := by decide +kernel
theorem dX10_alone_9 : decode cX10_alone 9 = .ok (.iload 4, 2) := by decide +kernel
theorem dX10_alone_11 : decode cX10_alone 11 = .ok (.iconst 0, 1) := by decide +kernel
theorem dX10_alone_12 : decode cX10_alone 12 = .ok (.sipush 400, 3) := by decide +kernel
theorem dX10_alone_15 : decode cX10_alone 15 = .ok (.invokestatic 86, 3) := by decide +kernel
theorem dX10_alone_18 : decode cX10_alone 18 = .ok (.ifCond .eq 13, 3) := by decide +kernel
theorem dX10_alone_21 : decode cX10_alone 21 = .ok (.iload 5, 2) := by decide +kernel
theorem dX10_alone_23 : decode cX10_alone 23 = .ok (.iconst 0, 1) := by decide +kernel
theorem dX10_alone_24 : decode cX10_alone 24 = .ok (.iconst 3, 1) := by decide +kernel
theorem dX10_alone_25 : decode cX10_alone 25 = .ok (.invokestatic 86, 3) := by decide +kernel
theorem dX10_alone_28 : decode cX10_alone 28 = .ok (.ifCond .ne 5, 3) := by decide +kernel
theorem dX10_alone_31 : decode cX10_alone 31 = .ok (.iconst (-1), 1) := by decide +kernel
theorem dX10_alone_32 : decode cX10_alone 32 = .ok (.ireturn, 1) := by decide +kernel
theorem dX10_alone_33 : decode cX10_alone 33 = .ok (.aload_n 0, 1) := by decide +kernel
theorem dX10_alone_34 : decode cX10_alone 34 = .ok (.getfield 33, 3) := by decide +kernel
theorem dX10_alone_37 : decode cX10_alone 37 = .ok (.iload_n 1, 1) := by decide +kernel
theorem dX10_alone_38 : decode cX10_alone 38 = .ok (.invokevirtual 225, 3) := by decide +kernel
theorem dX10_alone_41 : decode cX10_alone 41 = .ok (.ifCond .ne 6, 3) := by decide +kernel
theorem dX10_alone_44 : decode cX10_alone 44 = .ok (.bipush (-2), 2) := by decide +kernel
theorem dX10_alone_46 : decode cX10_alone 46 = .ok (.ireturn, 1) := by decide +kernel
theorem dX10_alone_47 : decode cX10_alone 47 = .ok (.aload_n 0, 1) := by decide +kernel
theorem dX10_alone_48 : decode cX10_alone 48 = .ok (.getfield 46, 3) := by decide +kernel
theorem dX10_alone_51 : decode cX10_alone 51 = .ok (.aload_n 0, 1) := by decide +kernel
theorem dX10_alone_52 : decode cX10_alone 52 = .ok (.getfield 33, 3) := by decide +kernel
theorem dX10_alone_55 : decode cX10_alone 55 = .ok (.iload_n 1, 1) := by decide +kernel
theorem dX10_alone_56 : decode cX10_alone 56 = .ok (.iload_n 2, 1) := by decide +kernel
theorem dX10_alone_57 : decode cX10_alone 57 = .ok (.iload_n 3, 1) := by decide +kernel
theorem dX10_alone_58 : decode cX10_alone 58 = .ok (.invokevirtual 228, 3) := by decide +kernel
theorem dX10_alone_61 : decode cX10_alone 61 = .ok (.aload_n 0, 1) := by decide +kernel
theorem dX10_alone_62 : decode cX10_alone 62 = .ok (.getfield 46, 3) := by decide +kernel
theorem dX10_alone_65 : decode cX10_alone 65 = .ok (.aload_n 0, 1) := by decide +kernel
theorem dX10_alone_66 : decode cX10_alone 66 = .ok (.getfield 26, 3) := by decide +kernel
theorem dX10_alone_69 : decode cX10_alone 69 = .ok (.iload 4, 2) := by decide +kernel
theorem dX10_alone_71 : decode cX10_alone 71 = .ok (.invokevirtual 232, 3) := by decide +kernel
theorem dX10_alone_74 : decode cX10_alone 74 = .ok (.astore 6, 2) := by decide +kernel
theorem dX10_alone_76 : decode cX10_alone 76 = .ok (.iload 5, 2) := by decide +kernel
theorem dX10_alone_78 : decode cX10_alone 78 = .ok (.tableswitch 44 0 2 #[26, 32, 38], 26) := by decide +kernel
theorem dX10_alone_104 : decode cX10_alone 104 = .ok (.aload 6, 2) := by decide +kernel
theorem dX10_alone_106 : decode cX10_alone 106 = .ok (.getfield 173, 3) := by decide +kernel
theorem dX10_alone_109 : decode cX10_alone 109 = .ok (.ireturn, 1) := by decide +kernel
theorem dX10_alone_110 : decode cX10_alone 110 = .ok (.aload 6, 2) := by decide +kernel
theorem dX10_alone_112 : decode cX10_alone 112 = .ok (.getfield 178, 3) := by decide +kernel
theorem dX10_alone_115 : decode cX10_alone 115 = .ok (.ireturn, 1) := by decide +kernel
theorem dX10_alone_116 : decode cX10_alone 116 = .ok (.aload 6, 2) := by decide +kernel
theorem dX10_alone_118 : decode cX10_alone 118 = .ok (.getfield 184, 3) := by decide +kernel
theorem dX10_alone_121 : decode cX10_alone 121 = .ok (.ireturn, 1) := by decide +kernel
theorem dX10_alone_122 : decode cX10_alone 122 = .ok (.aload 6, 2) := by decide +kernel
theorem dX10_alone_124 : decode cX10_alone 124 = .ok (.getfield 187, 3) := by decide +kernel
theorem dX10_alone_127 : decode cX10_alone 127 = .ok (.ireturn, 1) := by decide +kernel
theorem dX10_reach_0 : decode cX10_reach 0 = .ok (.iload_n 1, 1) := by decide +kernel
theorem dX10_reach_1 : decode cX10_reach 1 = .ok (.iload_n 2, 1) := by decide +kernel
theorem dX10_reach_2 : decode cX10_reach 2 = .ok (.iload_n 3, 1) := by decide +kernel
theorem dX10_reach_3 : decode cX10_reach 3 = .ok (.invokestatic 222, 3) := by decide +kernel
theorem dX10_reach_6 : decode cX10_reach 6 = .ok (.ifCond .eq 11, 3) := by decide +kernel
theorem dX10_reach_9 : decode cX10_reach 9 = .ok (.iload 4, 2) := by decide +kernel
theorem dX10_reach_11 : decode cX10_reach 11 = .ok (.invokestatic 127, 3) := by decide +kernel
theorem dX10_reach_14 : decode cX10_reach 14 = .ok (.ifCond .ne 5, 3) := by decide +kernel
theorem dX10_reach_17 : decode cX10_reach 17 = .ok (.iconst (-1), 1) := by decide +kernel
theorem dX10_reach_18 : decode cX10_reach 18 = .ok (.ireturn, 1) := by decide +kernel
theorem dX10_reach_19 : decode cX10_reach 19 = .ok (.aload_n 0, 1) := by decide +kernel
theorem dX10_reach_20 : decode cX10_reach 20 = .ok (.getfield 33, 3) := by decide +kernel
theorem dX10_reach_23 : decode cX10_reach 23 = .ok (.iload_n 1, 1) := by decide +kernel
theorem dX10_reach_24 : decode cX10_reach 24 = .ok (.invokevirtual 225, 3) := by decide +kernel
theorem dX10_reach_27 : decode cX10_reach 27 = .ok (.ifCond .ne 6, 3) := by decide +kernel
theorem dX10_reach_30 : decode cX10_reach 30 = .ok (.bipush (-2), 2) := by decide +kernel
theorem dX10_reach_32 : decode cX10_reach 32 = .ok (.ireturn, 1) := by decide +kernel
theorem dX10_reach_33 : decode cX10_reach 33 = .ok (.aload_n 0, 1) := by decide +kernel
theorem dX10_reach_34 : decode cX10_reach 34 = .ok (.getfield 46, 3) := by decide +kernel
theorem dX10_reach_37 : decode cX10_reach 37 = .ok (.aload_n 0, 1) := by decide +kernel
theorem dX10_reach_38 : decode cX10_reach 38 = .ok (.getfield 33, 3) := by decide +kernel
theorem dX10_reach_41 : decode cX10_reach 41 = .ok (.iload_n 1, 1) := by decide +kernel
theorem dX10_reach_42 : decode cX10_reach 42 = .ok (.iload_n 2, 1) := by decide +kernel
theorem dX10_reach_43 : decode cX10_reach 43 = .ok (.iload_n 3, 1) := by decide +kernel
theorem dX10_reach_44 : decode cX10_reach 44 = .ok (.invokevirtual 228, 3) := by decide +kernel
theorem dX10_reach_47 : decode cX10_reach 47 = .ok (.aload_n 0, 1) := by decide +kernel
theorem dX10_reach_48 : decode cX10_reach 48 = .ok (.getfield 46, 3) := by decide +kernel
theorem dX10_reach_51 : decode cX10_reach 51 = .ok (.aload_n 0, 1) := by decide +kernel
theorem dX10_reach_52 : decode cX10_reach 52 = .ok (.getfield 26, 3) := by decide +kernel
theorem dX10_reach_55 : decode cX10_reach 55 = .ok (.iload 4, 2) := by decide +kernel
theorem dX10_reach_57 : decode cX10_reach 57 = .ok (.sipush 400, 3) := by decide +kernel
theorem dX10_reach_60 : decode cX10_reach 60 = .ok (.invokevirtual 236, 3) := by decide +kernel
theorem dX10_reach_63 : decode cX10_reach 63 = .ok (.ireturn, 1) := by decide +kernel
theorem dX10_ring_0 : decode cX10_ring 0 = .ok (.iload_n 1, 1) := by decide +kernel
theorem dX10_ring_1 : decode cX10_ring 1 = .ok (.iload_n 2, 1) := by decide +kernel
theorem dX10_ring_2 : decode cX10_ring 2 = .ok (.iload_n 3, 1) := by decide +kernel
theorem dX10_ring_3 : decode cX10_ring 3 = .ok (.invokestatic 222, 3) := by decide +kernel
theorem dX10_ring_6 : decode cX10_ring 6 = .ok (.ifCond .eq 13, 3) := by decide +kernel
theorem dX10_ring_9 : decode cX10_ring 9 = .ok (.iload 4, 2) := by decide +kernel
theorem dX10_ring_11 : decode cX10_ring 11 = .ok (.iconst 0, 1) := by decide +kernel
theorem dX10_ring_12 : decode cX10_ring 12 = .ok (.iconst 2, 1) := by decide +kernel
theorem dX10_ring_13 : decode cX10_ring 13 = .ok (.invokestatic 86, 3) := by decide +kernel
theorem dX10_ring_16 : decode cX10_ring 16 = .ok (.ifCond .ne 5, 3) := by decide +kernel
theorem dX10_ring_19 : decode cX10_ring 19 = .ok (.iconst (-1), 1) := by decide +kernel
theorem dX10_ring_20 : decode cX10_ring 20 = .ok (.ireturn, 1) := by decide +kernel
theorem dX10_ring_21 : decode cX10_ring 21 = .ok (.aload_n 0, 1) := by decide +kernel
theorem dX10_ring_22 : decode cX10_ring 22 = .ok (.getfield 33, 3) := by decide +kernel
theorem dX10_ring_25 : decode cX10_ring 25 = .ok (.iload_n 1, 1) := by decide +kernel
theorem dX10_ring_26 : decode cX10_ring 26 = .ok (.invokevirtual 225, 3) := by decide +kernel
theorem dX10_ring_29 : decode cX10_ring 29 = .ok (.ifCond .ne 6, 3) := by decide +kernel
theorem dX10_ring_32 : decode cX10_ring 32 = .ok (.bipush (-2), 2) := by decide +kernel
theorem dX10_ring_34 : decode cX10_ring 34 = .ok (.ireturn, 1) := by decide +kernel
theorem dX10_ring_35 : decode cX10_ring 35 = .ok (.aload_n 0, 1) := by decide +kernel
theorem dX10_ring_36 : decode cX10_ring 36 = .ok (.getfield 53, 3) := by decide +kernel
theorem dX10_ring_39 : decode cX10_ring 39 = .ok (.aload_n 0, 1) := by decide +kernel
theorem dX10_ring_40 : decode cX10_ring 40 = .ok (.getfield 33, 3) := by decide +kernel
theorem dX10_ring_43 : decode cX10_ring 43 = .ok (.aload_n 0, 1) := by decide +kernel
theorem dX10_ring_44 : decode cX10_ring 44 = .ok (.getfield 26, 3) := by decide +kernel
theorem dX10_ring_47 : decode cX10_ring 47 = .ok (.iload_n 1, 1) := by decide +kernel
theorem dX10_ring_48 : decode cX10_ring 48 = .ok (.iload_n 2, 1) := by decide +kernel
theorem dX10_ring_49 : decode cX10_ring 49 = .ok (.iload_n 3, 1) := by decide +kernel
theorem dX10_ring_50 : decode cX10_ring 50 = .ok (.invokevirtual 240, 3) := by decide +kernel
theorem dX10_ring_53 : decode cX10_ring 53 = .ok (.bipush (-4), 2) := by decide +kernel
theorem dX10_ring_55 : decode cX10_ring 55 = .ok (.if_icmp .eq 6, 3) := by decide +kernel
theorem dX10_ring_58 : decode cX10_ring 58 = .ok (.bipush (-4), 2) := by decide +kernel
theorem dX10_ring_60 : decode cX10_ring 60 = .ok (.ireturn, 1) := by decide +kernel
theorem dX10_ring_61 : decode cX10_ring 61 = .ok (.iload 4, 2) := by decide +kernel
theorem dX10_ring_63 : decode cX10_ring 63 = .ok (.lookupswitch 41 #[(0, 25), (1, 33)], 25) := by decide +kernel
theorem dX10_ring_88 : decode cX10_ring 88 = .ok (.aload_n 0, 1) := by decide +kernel
theorem dX10_ring_89 : decode cX10_ring 89 = .ok (.getfield 53, 3) := by decide +kernel
theorem dX10_ring_92 : decode cX10_ring 92 = .ok (.getfield 244, 3) := by decide +kernel
theorem dX10_ring_95 : decode cX10_ring 95 = .ok (.ireturn, 1) := by decide +kernel
theorem dX10_ring_96 : decode cX10_ring 96 = .ok (.aload_n 0, 1) := by decide +kernel
theorem dX10_ring_97 : decode cX10_ring 97 = .ok (.getfield 53, 3) := by decide +kernel
theorem dX10_ring_100 : decode cX10_ring 100 = .ok (.getfield 247, 3) := by decide +kernel
theorem dX10_ring_103 : decode cX10_ring 103 = .ok (.ireturn, 1) := by decide +kernel
theorem dX10_ring_104 : decode cX10_ring 104 = .ok (.aload_n 0, 1) := by decide +kernel
theorem dX10_ring_105 : decode cX10_ring 105 = .ok (.getfield 53, 3) := by decide +kernel
theorem dX10_ring_108 : decode cX10_ring 108 = .ok (.invokevirtual 250, 3) := by decide +kernel
theorem dX10_ring_111 : decode cX10_ring 111 = .ok (.ireturn, 1) := by decide +kernel
theorem dX10_falls_0 : decode cX10_falls 0 = .ok (.iload_n 1, 1) := by decide +kernel
theorem dX10_falls_1 : decode cX10_falls 1 = .ok (.invokestatic 127, 3) := by decide +kernel
theorem dX10_falls_4 : decode cX10_falls 4 = .ok (.ifCond .eq 17, 3) := by decide +kernel
theorem dX10_falls_7 : decode cX10_falls 7 = .ok (.iload_n 2, 1) := by decide +kernel
theorem dX10_falls_8 : decode cX10_falls 8 = .ok (.invokestatic 253, 3) := by decide +kernel
theorem dX10_falls_11 : decode cX10_falls 11 = .ok (.ifCond .eq 10, 3) := by decide +kernel
theorem dX10_falls_14 : decode cX10_falls 14 = .ok (.iload_n 3, 1) := by decide +kernel
theorem dX10_falls_15 : decode cX10_falls 15 = .ok (.invokestatic 127, 3) := by decide +kernel
theorem dX10_falls_18 : decode cX10_falls 18 = .ok (.ifCond .ne 7, 3) := by decide +kernel
theorem dX10_falls_21 : decode cX10_falls 21 = .ok (.ldc2_w 256, 3) := by decide +kernel
theorem dX10_falls_24 : decode cX10_falls 24 = .ok (.lreturn, 1) := by decide +kernel
theorem dX10_falls_25 : decode cX10_falls 25 = .ok (.aload_n 0, 1) := by decide +kernel
theorem dX10_falls_26 : decode cX10_falls 26 = .ok (.getfield 33, 3) := by decide +kernel
theorem dX10_falls_29 : decode cX10_falls 29 = .ok (.iload_n 1, 1) := by decide +kernel
theorem dX10_falls_30 : decode cX10_falls 30 = .ok (.invokevirtual 225, 3) := by decide +kernel
theorem dX10_falls_33 : decode cX10_falls 33 = .ok (.ifCond .eq 16, 3) := by decide +kernel
theorem dX10_falls_36 : decode cX10_falls 36 = .ok (.aload_n 0, 1) := by decide +kernel
theorem dX10_falls_37 : decode cX10_falls 37 = .ok (.getfield 33, 3) := by decide +kernel
theorem dX10_falls_40 : decode cX10_falls 40 = .ok (.iload_n 3, 1) := by decide +kernel
theorem dX10_falls_41 : decode cX10_falls 41 = .ok (.invokevirtual 131, 3) := by decide +kernel
theorem dX10_falls_44 : decode cX10_falls 44 = .ok (.bipush 6, 2) := by decide +kernel
theorem dX10_falls_46 : decode cX10_falls 46 = .ok (.if_icmp .eq 7, 3) := by decide +kernel
theorem dX10_falls_49 : decode cX10_falls 49 = .ok (.ldc2_w 258, 3) := by decide +kernel
theorem dX10_falls_52 : decode cX10_falls 52 = .ok (.lreturn, 1) := by decide +kernel
theorem dX10_falls_53 : decode cX10_falls 53 = .ok (.aload_n 0, 1) := by decide +kernel
theorem dX10_falls_54 : decode cX10_falls 54 = .ok (.getfield 26, 3) := by decide +kernel
theorem dX10_falls_57 : decode cX10_falls 57 = .ok (.iconst 2, 1) := by decide +kernel
theorem dX10_falls_58 : decode cX10_falls 58 = .ok (.invokevirtual 123, 3) := by decide +kernel
theorem dX10_falls_61 : decode cX10_falls 61 = .ok (.istore 4, 2) := by decide +kernel
theorem dX10_falls_63 : decode cX10_falls 63 = .ok (.aload_n 0, 1) := by decide +kernel
theorem dX10_falls_64 : decode cX10_falls 64 = .ok (.getfield 26, 3) := by decide +kernel
theorem dX10_falls_67 : decode cX10_falls 67 = .ok (.iconst 3, 1) := by decide +kernel
theorem dX10_falls_68 : decode cX10_falls 68 = .ok (.invokevirtual 123, 3) := by decide +kernel
theorem dX10_falls_71 : decode cX10_falls 71 = .ok (.istore 5, 2) := by decide +kernel
theorem dX10_falls_73 : decode cX10_falls 73 = .ok (.aload_n 0, 1) := by decide +kernel
theorem dX10_falls_74 : decode cX10_falls 74 = .ok (.getfield 53, 3) := by decide +kernel
theorem dX10_falls_77 : decode cX10_falls 77 = .ok (.aload_n 0, 1) := by decide +kernel
theorem dX10_falls_78 : decode cX10_falls 78 = .ok (.getfield 33, 3) := by decide +kernel
theorem dX10_falls_81 : decode cX10_falls 81 = .ok (.aload_n 0, 1) := by decide +kernel
theorem dX10_falls_82 : decode cX10_falls 82 = .ok (.getfield 26, 3) := by decide +kernel
theorem dX10_falls_85 : decode cX10_falls 85 = .ok (.iload_n 1, 1) := by decide +kernel
theorem dX10_falls_86 : decode cX10_falls 86 = .ok (.iload 4, 2) := by decide +kernel
theorem dX10_falls_88 : decode cX10_falls 88 = .ok (.iload_n 2, 1) := by decide +kernel
theorem dX10_falls_89 : decode cX10_falls 89 = .ok (.invokevirtual 240, 3) := by decide +kernel
theorem dX10_falls_92 : decode cX10_falls 92 = .ok (.iload_n 3, 1) := by decide +kernel
theorem dX10_falls_93 : decode cX10_falls 93 = .ok (.if_icmp .ne 7, 3) := by decide +kernel
theorem dX10_falls_96 : decode cX10_falls 96 = .ok (.iconst 1, 1) := by decide +kernel
theorem dX10_falls_97 : decode cX10_falls 97 = .ok (.goto 4, 3) := by decide +kernel
theorem dX10_falls_100 : decode cX10_falls 100 = .ok (.iconst 0, 1) := by decide +kernel
theorem dX10_falls_101 : decode cX10_falls 101 = .ok (.istore 6, 2) := by decide +kernel
theorem dX10_falls_103 : decode cX10_falls 103 = .ok (.aload_n 0, 1) := by decide +kernel
theorem dX10_falls_104 : decode cX10_falls 104 = .ok (.getfield 53, 3) := by decide +kernel
theorem dX10_falls_107 : decode cX10_falls 107 = .ok (.aload_n 0, 1) := by decide +kernel
theorem dX10_falls_108 : decode cX10_falls 108 = .ok (.getfield 33, 3) := by decide +kernel
theorem dX10_falls_111 : decode cX10_falls 111 = .ok (.aload_n 0, 1) := by decide +kernel
theorem dX10_falls_112 : decode cX10_falls 112 = .ok (.getfield 26, 3) := by decide +kernel
theorem dX10_falls_115 : decode cX10_falls 115 = .ok (.iload_n 1, 1) := by decide +kernel
theorem dX10_falls_116 : decode cX10_falls 116 = .ok (.iload 5, 2) := by decide +kernel
theorem dX10_falls_118 : decode cX10_falls 118 = .ok (.iconst 1, 1) := by decide +kernel
theorem dX10_falls_119 : decode cX10_falls 119 = .ok (.iadd, 1) := by decide +kernel
theorem dX10_falls_120 : decode cX10_falls 120 = .ok (.iload_n 2, 1) := by decide +kernel
theorem dX10_falls_121 : decode cX10_falls 121 = .ok (.invokevirtual 240, 3) := by decide +kernel
theorem dX10_falls_124 : decode cX10_falls 124 = .ok (.iload_n 3, 1) := by decide +kernel
theorem dX10_falls_125 : decode cX10_falls 125 = .ok (.if_icmp .ne 7, 3) := by decide +kernel
theorem dX10_falls_128 : decode cX10_falls 128 = .ok (.iconst 1, 1) := by decide +kernel
theorem dX10_falls_129 : decode cX10_falls 129 = .ok (.goto 4, 3) := by decide +kernel
theorem dX10_falls_132 : decode cX10_falls 132 = .ok (.iconst 0, 1) := by decide +kernel
theorem dX10_falls_133 : decode cX10_falls 133 = .ok (.istore 7, 2) := by decide +kernel
theorem dX10_falls_135 : decode cX10_falls 135 = .ok (.lconst 0, 1) := by decide +kernel
theorem dX10_falls_136 : decode cX10_falls 136 = .ok (.lstore 8, 2) := by decide +kernel
theorem dX10_falls_138 : decode cX10_falls 138 = .ok (.iconst 1, 1) := by decide +kernel
theorem dX10_falls_139 : decode cX10_falls 139 = .ok (.istore 10, 2) := by decide +kernel
theorem dX10_falls_141 : decode cX10_falls 141 = .ok (.iload 10, 2) := by decide +kernel
theorem dX10_falls_143 : decode cX10_falls 143 = .ok (.bipush 60, 2) := by decide +kernel
theorem dX10_falls_145 : decode cX10_falls 145 = .ok (.if_icmp .gt 43, 3) := by decide +kernel
theorem dX10_falls_148 : decode cX10_falls 148 = .ok (.aload_n 0, 1) := by decide +kernel
theorem dX10_falls_149 : decode cX10_falls 149 = .ok (.getfield 26, 3) := by decide +kernel
theorem dX10_falls_152 : decode cX10_falls 152 = .ok (.iload 10, 2) := by decide +kernel
theorem dX10_falls_154 : decode cX10_falls 154 = .ok (.invokevirtual 260, 3) := by decide +kernel
theorem dX10_falls_157 : decode cX10_falls 157 = .ok (.ifCond .eq 11, 3) := by decide +kernel
theorem dX10_falls_160 : decode cX10_falls 160 = .ok (.iload 6, 2) := by decide +kernel
theorem dX10_falls_162 : decode cX10_falls 162 = .ok (.ifCond .eq 20, 3) := by decide +kernel
theorem dX10_falls_165 : decode cX10_falls 165 = .ok (.goto 8, 3) := by decide +kernel
theorem dX10_falls_168 : decode cX10_falls 168 = .ok (.iload 7, 2) := by decide +kernel
theorem dX10_falls_170 : decode cX10_falls 170 = .ok (.ifCond .eq 12, 3) := by decide +kernel
theorem dX10_falls_173 : decode cX10_falls 173 = .ok (.lload 8, 2) := by decide +kernel
theorem dX10_falls_175 : decode cX10_falls 175 = .ok (.lconst 1, 1) := by decide +kernel
theorem dX10_falls_176 : decode cX10_falls 176 = .ok (.iload 10, 2) := by decide +kernel
theorem dX10_falls_178 : decode cX10_falls 178 = .ok (.lshl, 1) := by decide +kernel
theorem dX10_falls_179 : decode cX10_falls 179 = .ok (.lor, 1) := by decide +kernel
theorem dX10_falls_180 : decode cX10_falls 180 = .ok (.lstore 8, 2) := by decide +kernel
theorem dX10_falls_182 : decode cX10_falls 182 = .ok (.iinc 10 1, 3) := by decide +kernel
theorem dX10_falls_185 : decode cX10_falls 185 = .ok (.goto (-44), 3) := by decide +kernel
theorem dX10_falls_188 : decode cX10_falls 188 = .ok (.lload 8, 2) := by decide +kernel
theorem dX10_falls_190 : decode cX10_falls 190 = .ok (.lreturn, 1) := by decide +kernel
theorem dX10_mend_0 : decode cX10_mend 0 = .ok (.iload_n 1, 1) := by decide +kernel
theorem dX10_mend_1 : decode cX10_mend 1 = .ok (.iload_n 2, 1) := by decide +kernel
theorem dX10_mend_2 : decode cX10_mend 2 = .ok (.iload_n 3, 1) := by decide +kernel
theorem dX10_mend_3 : decode cX10_mend 3 = .ok (.invokestatic 222, 3) := by decide +kernel
theorem dX10_mend_6 : decode cX10_mend 6 = .ok (.ifCond .eq 21, 3) := by decide +kernel
theorem dX10_mend_9 : decode cX10_mend 9 = .ok (.iload 4, 2) := by decide +kernel
theorem dX10_mend_11 : decode cX10_mend 11 = .ok (.invokestatic 127, 3) := by decide +kernel
theorem dX10_mend_14 : decode cX10_mend 14 = .ok (.ifCond .eq 13, 3) := by decide +kernel
theorem dX10_mend_17 : decode cX10_mend 17 = .ok (.iload 5, 2) := by decide +kernel
theorem dX10_mend_19 : decode cX10_mend 19 = .ok (.iconst 0, 1) := by decide +kernel
theorem dX10_mend_20 : decode cX10_mend 20 = .ok (.iconst 2, 1) := by decide +kernel
theorem dX10_mend_21 : decode cX10_mend 21 = .ok (.invokestatic 86, 3) := by decide +kernel
theorem dX10_mend_24 : decode cX10_mend 24 = .ok (.ifCond .ne 5, 3) := by decide +kernel
theorem dX10_mend_27 : decode cX10_mend 27 = .ok (.iconst (-1), 1) := by decide +kernel
theorem dX10_mend_28 : decode cX10_mend 28 = .ok (.ireturn, 1) := by decide +kernel
theorem dX10_mend_29 : decode cX10_mend 29 = .ok (.aload_n 0, 1) := by decide +kernel
theorem dX10_mend_30 : decode cX10_mend 30 = .ok (.getfield 33, 3) := by decide +kernel
theorem dX10_mend_33 : decode cX10_mend 33 = .ok (.iload_n 1, 1) := by decide +kernel
theorem dX10_mend_34 : decode cX10_mend 34 = .ok (.invokevirtual 225, 3) := by decide +kernel
theorem dX10_mend_37 : decode cX10_mend 37 = .ok (.ifCond .ne 6, 3) := by decide +kernel
theorem dX10_mend_40 : decode cX10_mend 40 = .ok (.bipush (-2), 2) := by decide +kernel
theorem dX10_mend_42 : decode cX10_mend 42 = .ok (.ireturn, 1) := by decide +kernel
theorem dX10_mend_43 : decode cX10_mend 43 = .ok (.aload_n 0, 1) := by decide +kernel
theorem dX10_mend_44 : decode cX10_mend 44 = .ok (.getfield 46, 3) := by decide +kernel
theorem dX10_mend_47 : decode cX10_mend 47 = .ok (.aload_n 0, 1) := by decide +kernel
theorem dX10_mend_48 : decode cX10_mend 48 = .ok (.getfield 33, 3) := by decide +kernel
theorem dX10_mend_51 : decode cX10_mend 51 = .ok (.iload_n 1, 1) := by decide +kernel
theorem dX10_mend_52 : decode cX10_mend 52 = .ok (.iload_n 2, 1) := by decide +kernel
theorem dX10_mend_53 : decode cX10_mend 53 = .ok (.iload_n 3, 1) := by decide +kernel
theorem dX10_mend_54 : decode cX10_mend 54 = .ok (.invokevirtual 228, 3) := by decide +kernel
theorem dX10_mend_57 : decode cX10_mend 57 = .ok (.aload_n 0, 1) := by decide +kernel
theorem dX10_mend_58 : decode cX10_mend 58 = .ok (.getfield 46, 3) := by decide +kernel
theorem dX10_mend_61 : decode cX10_mend 61 = .ok (.aload_n 0, 1) := by decide +kernel
theorem dX10_mend_62 : decode cX10_mend 62 = .ok (.getfield 26, 3) := by decide +kernel
theorem dX10_mend_65 : decode cX10_mend 65 = .ok (.iload 4, 2) := by decide +kernel
theorem dX10_mend_67 : decode cX10_mend 67 = .ok (.invokevirtual 263, 3) := by decide +kernel
theorem dX10_mend_70 : decode cX10_mend 70 = .ok (.ifCond .ne 6, 3) := by decide +kernel
theorem dX10_mend_73 : decode cX10_mend 73 = .ok (.bipush (-4), 2) := by decide +kernel
theorem dX10_mend_75 : decode cX10_mend 75 = .ok (.ireturn, 1) := by decide +kernel
theorem dX10_mend_76 : decode cX10_mend 76 = .ok (.iload 5, 2) := by decide +kernel
theorem dX10_mend_78 : decode cX10_mend 78 = .ok (.lookupswitch 42 #[(0, 26), (1, 34)], 26) := by decide +kernel
theorem dX10_mend_104 : decode cX10_mend 104 = .ok (.aload_n 0, 1) := by decide +kernel
theorem dX10_mend_105 : decode cX10_mend 105 = .ok (.getfield 46, 3) := by decide +kernel
theorem dX10_mend_108 : decode cX10_mend 108 = .ok (.getfield 267, 3) := by decide +kernel
theorem dX10_mend_111 : decode cX10_mend 111 = .ok (.ireturn, 1) := by decide +kernel
theorem dX10_mend_112 : decode cX10_mend 112 = .ok (.aload_n 0, 1) := by decide +kernel
theorem dX10_mend_113 : decode cX10_mend 113 = .ok (.getfield 46, 3) := by decide +kernel
theorem dX10_mend_116 : decode cX10_mend 116 = .ok (.getfield 270, 3) := by decide +kernel
theorem dX10_mend_119 : decode cX10_mend 119 = .ok (.ireturn, 1) := by decide +kernel
theorem dX10_mend_120 : decode cX10_mend 120 = .ok (.aload_n 0, 1) := by decide +kernel
theorem dX10_mend_121 : decode cX10_mend 121 = .ok (.getfield 46, 3) := by decide +kernel
theorem dX10_mend_124 : decode cX10_mend 124 = .ok (.getfield 273, 3) := by decide +kernel
theorem dX10_mend_127 : decode cX10_mend 127 = .ok (.ireturn, 1) := by decide +kernel
theorem dX10_life_0 : decode cX10_life 0 = .ok (.iload_n 1, 1) := by decide +kernel
theorem dX10_life_1 : decode cX10_life 1 = .ok (.invokestatic 276, 3) := by decide +kernel
theorem dX10_life_4 : decode cX10_life 4 = .ok (.ifCond .eq 23, 3) := by decide +kernel
theorem dX10_life_7 : decode cX10_life 7 = .ok (.iload_n 2, 1) := by decide +kernel
theorem dX10_life_8 : decode cX10_life 8 = .ok (.invokestatic 138, 3) := by decide +kernel
theorem dX10_life_11 : decode cX10_life 11 = .ok (.ifCond .eq 16, 3) := by decide +kernel
theorem dX10_life_14 : decode cX10_life 14 = .ok (.aload_n 0, 1) := by decide +kernel
theorem dX10_life_15 : decode cX10_life 15 = .ok (.getfield 26, 3) := by decide +kernel
theorem dX10_life_18 : decode cX10_life 18 = .ok (.iload_n 1, 1) := by decide +kernel
theorem dX10_life_19 : decode cX10_life 19 = .ok (.iload_n 2, 1) := by decide +kernel
theorem dX10_life_20 : decode cX10_life 20 = .ok (.iload_n 3, 1) := by decide +kernel
theorem dX10_life_21 : decode cX10_life 21 = .ok (.invokevirtual 279, 3) := by decide +kernel
theorem dX10_life_24 : decode cX10_life 24 = .ok (.goto 4, 3) := by decide +kernel
theorem dX10_life_27 : decode cX10_life 27 = .ok (.iconst (-1), 1) := by decide +kernel
theorem dX10_life_28 : decode cX10_life 28 = .ok (.ireturn, 1) := by decide +kernel
theorem dX10_hump_0 : decode cX10_hump 0 = .ok (.iload_n 1, 1) := by decide +kernel
theorem dX10_hump_1 : decode cX10_hump 1 = .ok (.invokestatic 276, 3) := by decide +kernel
theorem dX10_hump_4 : decode cX10_hump 4 = .ok (.ifCond .ne 5, 3) := by decide +kernel
theorem dX10_hump_7 : decode cX10_hump 7 = .ok (.iconst (-1), 1) := by decide +kernel
theorem dX10_hump_8 : decode cX10_hump 8 = .ok (.ireturn, 1) := by decide +kernel
theorem dX10_hump_9 : decode cX10_hump 9 = .ok (.iload_n 3, 1) := by decide +kernel
theorem dX10_hump_10 : decode cX10_hump 10 = .ok (.tableswitch 79 0 3 #[30, 40, 59, 69], 30) := by decide +kernel
theorem dX10_hump_40 : decode cX10_hump 40 = .ok (.aload_n 0, 1) := by decide +kernel
theorem dX10_hump_41 : decode cX10_hump 41 = .ok (.getfield 26, 3) := by decide +kernel
theorem dX10_hump_44 : decode cX10_hump 44 = .ok (.iload_n 1, 1) := by decide +kernel
theorem dX10_hump_45 : decode cX10_hump 45 = .ok (.iload_n 2, 1) := by decide +kernel
theorem dX10_hump_46 : decode cX10_hump 46 = .ok (.invokevirtual 283, 3) := by decide +kernel
theorem dX10_hump_49 : decode cX10_hump 49 = .ok (.ireturn, 1) := by decide +kernel
theorem dX10_hump_50 : decode cX10_hump 50 = .ok (.aload_n 0, 1) := by decide +kernel
theorem dX10_hump_51 : decode cX10_hump 51 = .ok (.getfield 26, 3) := by decide +kernel
theorem dX10_hump_54 : decode cX10_hump 54 = .ok (.iload_n 1, 1) := by decide +kernel
theorem dX10_hump_55 : decode cX10_hump 55 = .ok (.aload_n 0, 1) := by decide +kernel
theorem dX10_hump_56 : decode cX10_hump 56 = .ok (.getfield 26, 3) := by decide +kernel
theorem dX10_hump_59 : decode cX10_hump 59 = .ok (.iload_n 1, 1) := by decide +kernel
theorem dX10_hump_60 : decode cX10_hump 60 = .ok (.iload_n 2, 1) := by decide +kernel
theorem dX10_hump_61 : decode cX10_hump 61 = .ok (.invokevirtual 283, 3) := by decide +kernel
theorem dX10_hump_64 : decode cX10_hump 64 = .ok (.iload_n 2, 1) := by decide +kernel
theorem dX10_hump_65 : decode cX10_hump 65 = .ok (.invokevirtual 279, 3) := by decide +kernel
theorem dX10_hump_68 : decode cX10_hump 68 = .ok (.ireturn, 1) := by decide +kernel
theorem dX10_hump_69 : decode cX10_hump 69 = .ok (.aload_n 0, 1) := by decide +kernel
theorem dX10_hump_70 : decode cX10_hump 70 = .ok (.getfield 26, 3) := by decide +kernel
theorem dX10_hump_73 : decode cX10_hump 73 = .ok (.iload_n 1, 1) := by decide +kernel
theorem dX10_hump_74 : decode cX10_hump 74 = .ok (.iload_n 2, 1) := by decide +kernel
theorem dX10_hump_75 : decode cX10_hump 75 = .ok (.invokevirtual 287, 3) := by decide +kernel
theorem dX10_hump_78 : decode cX10_hump 78 = .ok (.ireturn, 1) := by decide +kernel
theorem dX10_hump_79 : decode cX10_hump 79 = .ok (.aload_n 0, 1) := by decide +kernel
theorem dX10_hump_80 : decode cX10_hump 80 = .ok (.getfield 26, 3) := by decide +kernel
theorem dX10_hump_83 : decode cX10_hump 83 = .ok (.iload_n 1, 1) := by decide +kernel
theorem dX10_hump_84 : decode cX10_hump 84 = .ok (.iload_n 2, 1) := by decide +kernel
theorem dX10_hump_85 : decode cX10_hump 85 = .ok (.invokevirtual 290, 3) := by decide +kernel
theorem dX10_hump_88 : decode cX10_hump 88 = .ok (.ireturn, 1) := by decide +kernel
theorem dX10_hump_89 : decode cX10_hump 89 = .ok (.iconst (-1), 1) := by decide +kernel
theorem dX10_hump_90 : decode cX10_hump 90 = .ok (.ireturn, 1) := by decide +kernel
theorem dX10_hot_0 : decode cX10_hot 0 = .ok (.iload_n 1, 1) := by decide +kernel
theorem dX10_hot_1 : decode cX10_hot 1 = .ok (.invokestatic 276, 3) := by decide +kernel
theorem dX10_hot_4 : decode cX10_hot 4 = .ok (.ifCond .eq 24, 3) := by decide +kernel
theorem dX10_hot_7 : decode cX10_hot 7 = .ok (.iload_n 2, 1) := by decide +kernel
theorem dX10_hot_8 : decode cX10_hot 8 = .ok (.iconst 0, 1) := by decide +kernel
theorem dX10_hot_9 : decode cX10_hot 9 = .ok (.sipush 999, 3) := by decide +kernel
theorem dX10_hot_12 : decode cX10_hot 12 = .ok (.invokestatic 86, 3) := by decide +kernel
theorem dX10_hot_15 : decode cX10_hot 15 = .ok (.ifCond .eq 13, 3) := by decide +kernel
theorem dX10_hot_18 : decode cX10_hot 18 = .ok (.iload 4, 2) := by decide +kernel
theorem dX10_hot_20 : decode cX10_hot 20 = .ok (.iconst 0, 1) := by decide +kernel
theorem dX10_hot_21 : decode cX10_hot 21 = .ok (.iconst 2, 1) := by decide +kernel
theorem dX10_hot_22 : decode cX10_hot 22 = .ok (.invokestatic 86, 3) := by decide +kernel
theorem dX10_hot_25 : decode cX10_hot 25 = .ok (.ifCond .ne 5, 3) := by decide +kernel
theorem dX10_hot_28 : decode cX10_hot 28 = .ok (.iconst (-1), 1) := by decide +kernel
theorem dX10_hot_29 : decode cX10_hot 29 = .ok (.ireturn, 1) := by decide +kernel
theorem dX10_hot_30 : decode cX10_hot 30 = .ok (.iconst 0, 1) := by decide +kernel
theorem dX10_hot_31 : decode cX10_hot 31 = .ok (.istore 5, 2) := by decide +kernel
theorem dX10_hot_33 : decode cX10_hot 33 = .ok (.bipush (-4), 2) := by decide +kernel
theorem dX10_hot_35 : decode cX10_hot 35 = .ok (.istore 6, 2) := by decide +kernel
theorem dX10_hot_37 : decode cX10_hot 37 = .ok (.bipush (-4), 2) := by decide +kernel
theorem dX10_hot_39 : decode cX10_hot 39 = .ok (.istore 7, 2) := by decide +kernel
theorem dX10_hot_41 : decode cX10_hot 41 = .ok (.iconst 0, 1) := by decide +kernel
theorem dX10_hot_42 : decode cX10_hot 42 = .ok (.istore 8, 2) := by decide +kernel
theorem dX10_hot_44 : decode cX10_hot 44 = .ok (.iload 8, 2) := by decide +kernel
theorem dX10_hot_46 : decode cX10_hot 46 = .ok (.bipush 99, 2) := by decide +kernel
theorem dX10_hot_48 : decode cX10_hot 48 = .ok (.if_icmp .gt 47, 3) := by decide +kernel
theorem dX10_hot_51 : decode cX10_hot 51 = .ok (.aload_n 0, 1) := by decide +kernel
theorem dX10_hot_52 : decode cX10_hot 52 = .ok (.getfield 26, 3) := by decide +kernel
theorem dX10_hot_55 : decode cX10_hot 55 = .ok (.iload_n 1, 1) := by decide +kernel
theorem dX10_hot_56 : decode cX10_hot 56 = .ok (.iload 8, 2) := by decide +kernel
theorem dX10_hot_58 : decode cX10_hot 58 = .ok (.iload_n 3, 1) := by decide +kernel
theorem dX10_hot_59 : decode cX10_hot 59 = .ok (.invokevirtual 279, 3) := by decide +kernel
theorem dX10_hot_62 : decode cX10_hot 62 = .ok (.iload_n 2, 1) := by decide +kernel
theorem dX10_hot_63 : decode cX10_hot 63 = .ok (.if_icmp .ne 26, 3) := by decide +kernel
theorem dX10_hot_66 : decode cX10_hot 66 = .ok (.iinc 5 1, 3) := by decide +kernel
theorem dX10_hot_69 : decode cX10_hot 69 = .ok (.iload 6, 2) := by decide +kernel
theorem dX10_hot_71 : decode cX10_hot 71 = .ok (.bipush (-4), 2) := by decide +kernel
theorem dX10_hot_73 : decode cX10_hot 73 = .ok (.if_icmp .ne 8, 3) := by decide +kernel
theorem dX10_hot_76 : decode cX10_hot 76 = .ok (.iload 8, 2) := by decide +kernel
theorem dX10_hot_78 : decode cX10_hot 78 = .ok (.goto 5, 3) := by decide +kernel
theorem dX10_hot_81 : decode cX10_hot 81 = .ok (.iload 6, 2) := by decide +kernel
theorem dX10_hot_83 : decode cX10_hot 83 = .ok (.istore 6, 2) := by decide +kernel
theorem dX10_hot_85 : decode cX10_hot 85 = .ok (.iload 8, 2) := by decide +kernel
theorem dX10_hot_87 : decode cX10_hot 87 = .ok (.istore 7, 2) := by decide +kernel
theorem dX10_hot_89 : decode cX10_hot 89 = .ok (.iinc 8 1, 3) := by decide +kernel
theorem dX10_hot_92 : decode cX10_hot 92 = .ok (.goto (-48), 3) := by decide +kernel
theorem dX10_hot_95 : decode cX10_hot 95 = .ok (.iload 4, 2) := by decide +kernel
theorem dX10_hot_97 : decode cX10_hot 97 = .ok (.ifCond .ne 8, 3) := by decide +kernel
theorem dX10_hot_100 : decode cX10_hot 100 = .ok (.iload 5, 2) := by decide +kernel
theorem dX10_hot_102 : decode cX10_hot 102 = .ok (.goto 16, 3) := by decide +kernel
theorem dX10_hot_105 : decode cX10_hot 105 = .ok (.iload 4, 2) := by decide +kernel
theorem dX10_hot_107 : decode cX10_hot 107 = .ok (.iconst 1, 1) := by decide +kernel
theorem dX10_hot_108 : decode cX10_hot 108 = .ok (.if_icmp .ne 8, 3) := by decide +kernel
theorem dX10_hot_111 : decode cX10_hot 111 = .ok (.iload 6, 2) := by decide +kernel
theorem dX10_hot_113 : decode cX10_hot 113 = .ok (.goto 5, 3) := by decide +kernel
theorem dX10_hot_116 : decode cX10_hot 116 = .ok (.iload 7, 2) := by decide +kernel
theorem dX10_hot_118 : decode cX10_hot 118 = .ok (.ireturn, 1) := by decide +kernel
theorem dX10_odds_0 : decode cX10_odds 0 = .ok (.iload_n 1, 1) := by decide +kernel
theorem dX10_odds_1 : decode cX10_odds 1 = .ok (.invokestatic 127, 3) := by decide +kernel
theorem dX10_odds_4 : decode cX10_odds 4 = .ok (.ifCond .eq 30, 3) := by decide +kernel
theorem dX10_odds_7 : decode cX10_odds 7 = .ok (.iload_n 2, 1) := by decide +kernel
theorem dX10_odds_8 : decode cX10_odds 8 = .ok (.invokestatic 127, 3) := by decide +kernel
theorem dX10_odds_11 : decode cX10_odds 11 = .ok (.ifCond .eq 23, 3) := by decide +kernel
theorem dX10_odds_14 : decode cX10_odds 14 = .ok (.iload_n 3, 1) := by decide +kernel
theorem dX10_odds_15 : decode cX10_odds 15 = .ok (.iconst 0, 1) := by decide +kernel
theorem dX10_odds_16 : decode cX10_odds 16 = .ok (.bipush 10, 2) := by decide +kernel
theorem dX10_odds_18 : decode cX10_odds 18 = .ok (.invokestatic 86, 3) := by decide +kernel
theorem dX10_odds_21 : decode cX10_odds 21 = .ok (.ifCond .eq 13, 3) := by decide +kernel
theorem dX10_odds_24 : decode cX10_odds 24 = .ok (.iload 4, 2) := by decide +kernel
theorem dX10_odds_26 : decode cX10_odds 26 = .ok (.iconst 0, 1) := by decide +kernel
theorem dX10_odds_27 : decode cX10_odds 27 = .ok (.iconst 1, 1) := by decide +kernel
theorem dX10_odds_28 : decode cX10_odds 28 = .ok (.invokestatic 86, 3) := by decide +kernel
theorem dX10_odds_31 : decode cX10_odds 31 = .ok (.ifCond .ne 7, 3) := by decide +kernel
theorem dX10_odds_34 : decode cX10_odds 34 = .ok (.ldc2_w 256, 3) := by decide +kernel
theorem dX10_odds_37 : decode cX10_odds 37 = .ok (.lreturn, 1) := by decide +kernel
theorem dX10_odds_38 : decode cX10_odds 38 = .ok (.aload_n 0, 1) := by decide +kernel
theorem dX10_odds_39 : decode cX10_odds 39 = .ok (.getfield 33, 3) := by decide +kernel
theorem dX10_odds_42 : decode cX10_odds 42 = .ok (.iload_n 1, 1) := by decide +kernel
theorem dX10_odds_43 : decode cX10_odds 43 = .ok (.invokevirtual 131, 3) := by decide +kernel
theorem dX10_odds_46 : decode cX10_odds 46 = .ok (.iconst 5, 1) := by decide +kernel
theorem dX10_odds_47 : decode cX10_odds 47 = .ok (.if_icmp .ne 7, 3) := by decide +kernel
theorem dX10_odds_50 : decode cX10_odds 50 = .ok (.ldc2_w 258, 3) := by decide +kernel
theorem dX10_odds_53 : decode cX10_odds 53 = .ok (.lreturn, 1) := by decide +kernel
theorem dX10_odds_54 : decode cX10_odds 54 = .ok (.aload_n 0, 1) := by decide +kernel
theorem dX10_odds_55 : decode cX10_odds 55 = .ok (.getfield 60, 3) := by decide +kernel
theorem dX10_odds_58 : decode cX10_odds 58 = .ok (.aload_n 0, 1) := by decide +kernel
theorem dX10_odds_59 : decode cX10_odds 59 = .ok (.getfield 33, 3) := by decide +kernel
theorem dX10_odds_62 : decode cX10_odds 62 = .ok (.iload_n 1, 1) := by decide +kernel
theorem dX10_odds_63 : decode cX10_odds 63 = .ok (.iload_n 2, 1) := by decide +kernel
theorem dX10_odds_64 : decode cX10_odds 64 = .ok (.iload_n 3, 1) := by decide +kernel
theorem dX10_odds_65 : decode cX10_odds 65 = .ok (.invokevirtual 293, 3) := by decide +kernel
theorem dX10_odds_68 : decode cX10_odds 68 = .ok (.lstore 5, 2) := by decide +kernel
theorem dX10_odds_70 : decode cX10_odds 70 = .ok (.lconst 1, 1) := by decide +kernel
theorem dX10_odds_71 : decode cX10_odds 71 = .ok (.iconst 2, 1) := by decide +kernel
theorem dX10_odds_72 : decode cX10_odds 72 = .ok (.iload_n 3, 1) := by decide +kernel
theorem dX10_odds_73 : decode cX10_odds 73 = .ok (.imul, 1) := by decide +kernel
theorem dX10_odds_74 : decode cX10_odds 74 = .ok (.lshl, 1) := by decide +kernel
theorem dX10_odds_75 : decode cX10_odds 75 = .ok (.lstore 7, 2) := by decide +kernel
theorem dX10_odds_77 : decode cX10_odds 77 = .ok (.iconst 0, 1) := by decide +kernel
theorem dX10_odds_78 : decode cX10_odds 78 = .ok (.istore 9, 2) := by decide +kernel
theorem dX10_odds_80 : decode cX10_odds 80 = .ok (.iload 9, 2) := by decide +kernel
theorem dX10_odds_82 : decode cX10_odds 82 = .ok (.iconst 2, 1) := by decide +kernel
theorem dX10_odds_83 : decode cX10_odds 83 = .ok (.iload_n 3, 1) := by decide +kernel
theorem dX10_odds_84 : decode cX10_odds 84 = .ok (.imul, 1) := by decide +kernel
theorem dX10_odds_85 : decode cX10_odds 85 = .ok (.if_icmp .ge 30, 3) := by decide +kernel
theorem dX10_odds_88 : decode cX10_odds 88 = .ok (.lload 5, 2) := by decide +kernel
theorem dX10_odds_90 : decode cX10_odds 90 = .ok (.lconst 1, 1) := by decide +kernel
theorem dX10_odds_91 : decode cX10_odds 91 = .ok (.land, 1) := by decide +kernel
theorem dX10_odds_92 : decode cX10_odds 92 = .ok (.lconst 0, 1) := by decide +kernel
theorem dX10_odds_93 : decode cX10_odds 93 = .ok (.lcmp, 1) := by decide +kernel
theorem dX10_odds_94 : decode cX10_odds 94 = .ok (.ifCond .ne 21, 3) := by decide +kernel
theorem dX10_odds_97 : decode cX10_odds 97 = .ok (.lload 5, 2) := by decide +kernel
theorem dX10_odds_99 : decode cX10_odds 99 = .ok (.iconst 1, 1) := by decide +kernel
theorem dX10_odds_100 : decode cX10_odds 100 = .ok (.lshr, 1) := by decide +kernel
theorem dX10_odds_101 : decode cX10_odds 101 = .ok (.lstore 5, 2) := by decide +kernel
theorem dX10_odds_103 : decode cX10_odds 103 = .ok (.lload 7, 2) := by decide +kernel
theorem dX10_odds_105 : decode cX10_odds 105 = .ok (.iconst 1, 1) := by decide +kernel
theorem dX10_odds_106 : decode cX10_odds 106 = .ok (.lshr, 1) := by decide +kernel
theorem dX10_odds_107 : decode cX10_odds 107 = .ok (.lstore 7, 2) := by decide +kernel
theorem dX10_odds_109 : decode cX10_odds 109 = .ok (.iinc 9 1, 3) := by decide +kernel
theorem dX10_odds_112 : decode cX10_odds 112 = .ok (.goto (-32), 3) := by decide +kernel
theorem dX10_odds_115 : decode cX10_odds 115 = .ok (.iload 4, 2) := by decide +kernel
theorem dX10_odds_117 : decode cX10_odds 117 = .ok (.ifCond .ne 8, 3) := by decide +kernel
theorem dX10_odds_120 : decode cX10_odds 120 = .ok (.lload 5, 2) := by decide +kernel
theorem dX10_odds_122 : decode cX10_odds 122 = .ok (.goto 5, 3) := by decide +kernel
theorem dX10_odds_125 : decode cX10_odds 125 = .ok (.lload 7, 2) := by decide +kernel
theorem dX10_odds_127 : decode cX10_odds 127 = .ok (.lreturn, 1) := by decide +kernel
theorem dX10_cools_0 : decode cX10_cools 0 = .ok (.iload_n 1, 1) := by decide +kernel
theorem dX10_cools_1 : decode cX10_cools 1 = .ok (.invokestatic 138, 3) := by decide +kernel
theorem dX10_cools_4 : decode cX10_cools 4 = .ok (.ifCond .eq 19, 3) := by decide +kernel
theorem dX10_cools_7 : decode cX10_cools 7 = .ok (.iload_n 2, 1) := by decide +kernel
theorem dX10_cools_8 : decode cX10_cools 8 = .ok (.invokestatic 138, 3) := by decide +kernel
theorem dX10_cools_11 : decode cX10_cools 11 = .ok (.ifCond .eq 12, 3) := by decide +kernel
theorem dX10_cools_14 : decode cX10_cools 14 = .ok (.iload_n 3, 1) := by decide +kernel
theorem dX10_cools_15 : decode cX10_cools 15 = .ok (.iconst 0, 1) := by decide +kernel
theorem dX10_cools_16 : decode cX10_cools 16 = .ok (.iconst 1, 1) := by decide +kernel
theorem dX10_cools_17 : decode cX10_cools 17 = .ok (.invokestatic 86, 3) := by decide +kernel
theorem dX10_cools_20 : decode cX10_cools 20 = .ok (.ifCond .ne 5, 3) := by decide +kernel
theorem dX10_cools_23 : decode cX10_cools 23 = .ok (.iconst (-1), 1) := by decide +kernel
theorem dX10_cools_24 : decode cX10_cools 24 = .ok (.ireturn, 1) := by decide +kernel
theorem dX10_cools_25 : decode cX10_cools 25 = .ok (.iload_n 1, 1) := by decide +kernel
theorem dX10_cools_26 : decode cX10_cools 26 = .ok (.istore 4, 2) := by decide +kernel
theorem dX10_cools_28 : decode cX10_cools 28 = .ok (.iconst 0, 1) := by decide +kernel
theorem dX10_cools_29 : decode cX10_cools 29 = .ok (.istore 5, 2) := by decide +kernel
theorem dX10_cools_31 : decode cX10_cools 31 = .ok (.iconst 0, 1) := by decide +kernel
theorem dX10_cools_32 : decode cX10_cools 32 = .ok (.istore 6, 2) := by decide +kernel
theorem dX10_cools_34 : decode cX10_cools 34 = .ok (.iconst 0, 1) := by decide +kernel
theorem dX10_cools_35 : decode cX10_cools 35 = .ok (.istore 7, 2) := by decide +kernel
theorem dX10_cools_37 : decode cX10_cools 37 = .ok (.iload 7, 2) := by decide +kernel
theorem dX10_cools_39 : decode cX10_cools 39 = .ok (.bipush 99, 2) := by decide +kernel
theorem dX10_cools_41 : decode cX10_cools 41 = .ok (.if_icmp .gt 58, 3) := by decide +kernel
theorem dX10_cools_44 : decode cX10_cools 44 = .ok (.iload 4, 2) := by decide +kernel
theorem dX10_cools_46 : decode cX10_cools 46 = .ok (.iload_n 2, 1) := by decide +kernel
theorem dX10_cools_47 : decode cX10_cools 47 = .ok (.if_icmp .le 52, 3) := by decide +kernel
theorem dX10_cools_50 : decode cX10_cools 50 = .ok (.aload_n 0, 1) := by decide +kernel
theorem dX10_cools_51 : decode cX10_cools 51 = .ok (.getfield 26, 3) := by decide +kernel
theorem dX10_cools_54 : decode cX10_cools 54 = .ok (.iload 4, 2) := by decide +kernel
theorem dX10_cools_56 : decode cX10_cools 56 = .ok (.iconst 0, 1) := by decide +kernel
theorem dX10_cools_57 : decode cX10_cools 57 = .ok (.invokevirtual 147, 3) := by decide +kernel
theorem dX10_cools_60 : decode cX10_cools 60 = .ok (.ifCond .eq 12, 3) := by decide +kernel
theorem dX10_cools_63 : decode cX10_cools 63 = .ok (.iinc 6 1, 3) := by decide +kernel
theorem dX10_cools_66 : decode cX10_cools 66 = .ok (.iinc 4 (-1), 3) := by decide +kernel
theorem dX10_cools_69 : decode cX10_cools 69 = .ok (.goto 21, 3) := by decide +kernel
theorem dX10_cools_72 : decode cX10_cools 72 = .ok (.iconst 0, 1) := by decide +kernel
theorem dX10_cools_73 : decode cX10_cools 73 = .ok (.iload 4, 2) := by decide +kernel
theorem dX10_cools_75 : decode cX10_cools 75 = .ok (.aload_n 0, 1) := by decide +kernel
theorem dX10_cools_76 : decode cX10_cools 76 = .ok (.getfield 26, 3) := by decide +kernel
theorem dX10_cools_79 : decode cX10_cools 79 = .ok (.iload 4, 2) := by decide +kernel
theorem dX10_cools_81 : decode cX10_cools 81 = .ok (.invokevirtual 297, 3) := by decide +kernel
theorem dX10_cools_84 : decode cX10_cools 84 = .ok (.isub, 1) := by decide +kernel
theorem dX10_cools_85 : decode cX10_cools 85 = .ok (.invokestatic 300, 3) := by decide +kernel
theorem dX10_cools_88 : decode cX10_cools 88 = .ok (.istore 4, 2) := by decide +kernel
theorem dX10_cools_90 : decode cX10_cools 90 = .ok (.iinc 5 1, 3) := by decide +kernel
theorem dX10_cools_93 : decode cX10_cools 93 = .ok (.iinc 7 1, 3) := by decide +kernel
theorem dX10_cools_96 : decode cX10_cools 96 = .ok (.goto (-59), 3) := by decide +kernel
theorem dX10_cools_99 : decode cX10_cools 99 = .ok (.iload_n 3, 1) := by decide +kernel
theorem dX10_cools_100 : decode cX10_cools 100 = .ok (.ifCond .ne 8, 3) := by decide +kernel
theorem dX10_cools_103 : decode cX10_cools 103 = .ok (.iload 5, 2) := by decide +kernel
theorem dX10_cools_105 : decode cX10_cools 105 = .ok (.goto 5, 3) := by decide +kernel
theorem dX10_cools_108 : decode cX10_cools 108 = .ok (.iload 6, 2) := by decide +kernel
theorem dX10_cools_110 : decode cX10_cools 110 = .ok (.ireturn, 1) := by decide +kernel
theorem dX10_saw_0 : decode cX10_saw 0 = .ok (.iload_n 1, 1) := by decide +kernel
theorem dX10_saw_1 : decode cX10_saw 1 = .ok (.invokestatic 276, 3) := by decide +kernel
theorem dX10_saw_4 : decode cX10_saw 4 = .ok (.ifCond .eq 22, 3) := by decide +kernel
theorem dX10_saw_7 : decode cX10_saw 7 = .ok (.iload_n 2, 1) := by decide +kernel
theorem dX10_saw_8 : decode cX10_saw 8 = .ok (.invokestatic 138, 3) := by decide +kernel
theorem dX10_saw_11 : decode cX10_saw 11 = .ok (.ifCond .eq 15, 3) := by decide +kernel
theorem dX10_saw_14 : decode cX10_saw 14 = .ok (.iload 4, 2) := by decide +kernel
theorem dX10_saw_16 : decode cX10_saw 16 = .ok (.iconst 0, 1) := by decide +kernel
theorem dX10_saw_17 : decode cX10_saw 17 = .ok (.sipush 999, 3) := by decide +kernel
theorem dX10_saw_20 : decode cX10_saw 20 = .ok (.invokestatic 86, 3) := by decide +kernel
theorem dX10_saw_23 : decode cX10_saw 23 = .ok (.ifCond .ne 5, 3) := by decide +kernel
theorem dX10_saw_26 : decode cX10_saw 26 = .ok (.iconst (-1), 1) := by decide +kernel
theorem dX10_saw_27 : decode cX10_saw 27 = .ok (.ireturn, 1) := by decide +kernel
theorem dX10_saw_28 : decode cX10_saw 28 = .ok (.aload_n 0, 1) := by decide +kernel
theorem dX10_saw_29 : decode cX10_saw 29 = .ok (.getfield 67, 3) := by decide +kernel
theorem dX10_saw_32 : decode cX10_saw 32 = .ok (.iload_n 1, 1) := by decide +kernel
theorem dX10_saw_33 : decode cX10_saw 33 = .ok (.iload_n 2, 1) := by decide +kernel
theorem dX10_saw_34 : decode cX10_saw 34 = .ok (.iload_n 3, 1) := by decide +kernel
theorem dX10_saw_35 : decode cX10_saw 35 = .ok (.iload 4, 2) := by decide +kernel
theorem dX10_saw_37 : decode cX10_saw 37 = .ok (.invokevirtual 306, 3) := by decide +kernel
theorem dX10_saw_40 : decode cX10_saw 40 = .ok (.ifCond .eq 13, 3) := by decide +kernel
theorem dX10_saw_43 : decode cX10_saw 43 = .ok (.aload_n 0, 1) := by decide +kernel
theorem dX10_saw_44 : decode cX10_saw 44 = .ok (.getfield 67, 3) := by decide +kernel
theorem dX10_saw_47 : decode cX10_saw 47 = .ok (.getfield 113, 3) := by decide +kernel
theorem dX10_saw_50 : decode cX10_saw 50 = .ok (.goto 5, 3) := by decide +kernel
theorem dX10_saw_53 : decode cX10_saw 53 = .ok (.bipush (-3), 2) := by decide +kernel
theorem dX10_saw_55 : decode cX10_saw 55 = .ok (.ireturn, 1) := by decide +kernel
theorem dX10_forget_0 : decode cX10_forget 0 = .ok (.aload_n 0, 1) := by decide +kernel
theorem dX10_forget_1 : decode cX10_forget 1 = .ok (.getfield 67, 3) := by decide +kernel
theorem dX10_forget_4 : decode cX10_forget 4 = .ok (.getfield 113, 3) := by decide +kernel
theorem dX10_forget_7 : decode cX10_forget 7 = .ok (.istore_n 1, 1) := by decide +kernel
theorem dX10_forget_8 : decode cX10_forget 8 = .ok (.aload_n 0, 1) := by decide +kernel
theorem dX10_forget_9 : decode cX10_forget 9 = .ok (.getfield 67, 3) := by decide +kernel
theorem dX10_forget_12 : decode cX10_forget 12 = .ok (.iconst 0, 1) := by decide +kernel
theorem dX10_forget_13 : decode cX10_forget 13 = .ok (.putfield 113, 3) := by decide +kernel
theorem dX10_forget_16 : decode cX10_forget 16 = .ok (.iload_n 1, 1) := by decide +kernel
theorem dX10_forget_17 : decode cX10_forget 17 = .ok (.ireturn, 1) := by decide +kernel
theorem dX10_fits_0 : decode cX10_fits 0 = .ok (.iload_n 1, 1) := by decide +kernel
theorem dX10_fits_1 : decode cX10_fits 1 = .ok (.iconst 0, 1) := by decide +kernel
theorem dX10_fits_2 : decode cX10_fits 2 = .ok (.iconst 2, 1) := by decide +kernel
theorem dX10_fits_3 : decode cX10_fits 3 = .ok (.invokestatic 86, 3) := by decide +kernel
theorem dX10_fits_6 : decode cX10_fits 6 = .ok (.ifCond .ne 5, 3) := by decide +kernel
theorem dX10_fits_9 : decode cX10_fits 9 = .ok (.iconst (-1), 1) := by decide +kernel
theorem dX10_fits_10 : decode cX10_fits 10 = .ok (.ireturn, 1) := by decide +kernel
theorem dX10_fits_11 : decode cX10_fits 11 = .ok (.iconst 0, 1) := by decide +kernel
theorem dX10_fits_12 : decode cX10_fits 12 = .ok (.istore_n 2, 1) := by decide +kernel
theorem dX10_fits_13 : decode cX10_fits 13 = .ok (.bipush (-4), 2) := by decide +kernel
theorem dX10_fits_15 : decode cX10_fits 15 = .ok (.istore_n 3, 1) := by decide +kernel
theorem dX10_fits_16 : decode cX10_fits 16 = .ok (.bipush (-4), 2) := by decide +kernel
theorem dX10_fits_18 : decode cX10_fits 18 = .ok (.istore 4, 2) := by decide +kernel
theorem dX10_fits_20 : decode cX10_fits 20 = .ok (.getstatic 310, 3) := by decide +kernel
theorem dX10_fits_23 : decode cX10_fits 23 = .ok (.iconst 0, 1) := by decide +kernel
theorem dX10_fits_24 : decode cX10_fits 24 = .ok (.iaload, 1) := by decide +kernel
theorem dX10_fits_25 : decode cX10_fits 25 = .ok (.aload_n 0, 1) := by decide +kernel
theorem dX10_fits_26 : decode cX10_fits 26 = .ok (.getfield 26, 3) := by decide +kernel
theorem dX10_fits_29 : decode cX10_fits 29 = .ok (.iconst 1, 1) := by decide +kernel
theorem dX10_fits_30 : decode cX10_fits 30 = .ok (.invokevirtual 123, 3) := by decide +kernel
theorem dX10_fits_33 : decode cX10_fits 33 = .ok (.invokestatic 300, 3) := by decide +kernel
theorem dX10_fits_36 : decode cX10_fits 36 = .ok (.istore 5, 2) := by decide +kernel
theorem dX10_fits_38 : decode cX10_fits 38 = .ok (.iload 5, 2) := by decide +kernel
theorem dX10_fits_40 : decode cX10_fits 40 = .ok (.getstatic 313, 3) := by decide +kernel
theorem dX10_fits_43 : decode cX10_fits 43 = .ok (.iconst 0, 1) := by decide +kernel
theorem dX10_fits_44 : decode cX10_fits 44 = .ok (.iaload, 1) := by decide +kernel
theorem dX10_fits_45 : decode cX10_fits 45 = .ok (.if_icmp .gt 45, 3) := by decide +kernel
theorem dX10_fits_48 : decode cX10_fits 48 = .ok (.aload_n 0, 1) := by decide +kernel
theorem dX10_fits_49 : decode cX10_fits 49 = .ok (.getfield 67, 3) := by decide +kernel
theorem dX10_fits_52 : decode cX10_fits 52 = .ok (.aload_n 0, 1) := by decide +kernel
theorem dX10_fits_53 : decode cX10_fits 53 = .ok (.getfield 26, 3) := by decide +kernel
theorem dX10_fits_56 : decode cX10_fits 56 = .ok (.iload 5, 2) := by decide +kernel
theorem dX10_fits_58 : decode cX10_fits 58 = .ok (.invokevirtual 316, 3) := by decide +kernel
theorem dX10_fits_61 : decode cX10_fits 61 = .ok (.ifCond .eq 23, 3) := by decide +kernel
theorem dX10_fits_64 : decode cX10_fits 64 = .ok (.iinc 2 1, 3) := by decide +kernel
theorem dX10_fits_67 : decode cX10_fits 67 = .ok (.iload_n 3, 1) := by decide +kernel
theorem dX10_fits_68 : decode cX10_fits 68 = .ok (.bipush (-4), 2) := by decide +kernel
theorem dX10_fits_70 : decode cX10_fits 70 = .ok (.if_icmp .ne 8, 3) := by decide +kernel
theorem dX10_fits_73 : decode cX10_fits 73 = .ok (.iload 5, 2) := by decide +kernel
theorem dX10_fits_75 : decode cX10_fits 75 = .ok (.goto 4, 3) := by decide +kernel
theorem dX10_fits_78 : decode cX10_fits 78 = .ok (.iload_n 3, 1) := by decide +kernel
theorem dX10_fits_79 : decode cX10_fits 79 = .ok (.istore_n 3, 1) := by decide +kernel
theorem dX10_fits_80 : decode cX10_fits 80 = .ok (.iload 5, 2) := by decide +kernel
theorem dX10_fits_82 : decode cX10_fits 82 = .ok (.istore 4, 2) := by decide +kernel
theorem dX10_fits_84 : decode cX10_fits 84 = .ok (.iinc 5 1, 3) := by decide +kernel
theorem dX10_fits_87 : decode cX10_fits 87 = .ok (.goto (-49), 3) := by decide +kernel
theorem dX10_fits_90 : decode cX10_fits 90 = .ok (.iload_n 1, 1) := by decide +kernel
theorem dX10_fits_91 : decode cX10_fits 91 = .ok (.ifCond .ne 7, 3) := by decide +kernel
theorem dX10_fits_94 : decode cX10_fits 94 = .ok (.iload_n 2, 1) := by decide +kernel
theorem dX10_fits_95 : decode cX10_fits 95 = .ok (.goto 14, 3) := by decide +kernel
theorem dX10_fits_98 : decode cX10_fits 98 = .ok (.iload_n 1, 1) := by decide +kernel
theorem dX10_fits_99 : decode cX10_fits 99 = .ok (.iconst 1, 1) := by decide +kernel
theorem dX10_fits_100 : decode cX10_fits 100 = .ok (.if_icmp .ne 7, 3) := by decide +kernel
theorem dX10_fits_103 : decode cX10_fits 103 = .ok (.iload_n 3, 1) := by decide +kernel
theorem dX10_fits_104 : decode cX10_fits 104 = .ok (.goto 5, 3) := by decide +kernel
theorem dX10_fits_107 : decode cX10_fits 107 = .ok (.iload 4, 2) := by decide +kernel
theorem dX10_fits_109 : decode cX10_fits 109 = .ok (.ireturn, 1) := by decide +kernel
theorem dX10_right_0 : decode cX10_right 0 = .ok (.iconst 0, 1) := by decide +kernel
theorem dX10_right_1 : decode cX10_right 1 = .ok (.istore_n 1, 1) := by decide +kernel
theorem dX10_right_2 : decode cX10_right 2 = .ok (.iconst 0, 1) := by decide +kernel
theorem dX10_right_3 : decode cX10_right 3 = .ok (.istore_n 2, 1) := by decide +kernel
theorem dX10_right_4 : decode cX10_right 4 = .ok (.iload_n 2, 1) := by decide +kernel
theorem dX10_right_5 : decode cX10_right 5 = .ok (.aload_n 0, 1) := by decide +kernel
theorem dX10_right_6 : decode cX10_right 6 = .ok (.getfield 67, 3) := by decide +kernel
theorem dX10_right_9 : decode cX10_right 9 = .ok (.getfield 113, 3) := by decide +kernel
theorem dX10_right_12 : decode cX10_right 12 = .ok (.if_icmp .ge 38, 3) := by decide +kernel
theorem dX10_right_15 : decode cX10_right 15 = .ok (.aload_n 0, 1) := by decide +kernel
theorem dX10_right_16 : decode cX10_right 16 = .ok (.getfield 67, 3) := by decide +kernel
theorem dX10_right_19 : decode cX10_right 19 = .ok (.iload_n 2, 1) := by decide +kernel
theorem dX10_right_20 : decode cX10_right 20 = .ok (.aload_n 0, 1) := by decide +kernel
theorem dX10_right_21 : decode cX10_right 21 = .ok (.getfield 26, 3) := by decide +kernel
theorem dX10_right_24 : decode cX10_right 24 = .ok (.aload_n 0, 1) := by decide +kernel
theorem dX10_right_25 : decode cX10_right 25 = .ok (.getfield 26, 3) := by decide +kernel
theorem dX10_right_28 : decode cX10_right 28 = .ok (.iconst 0, 1) := by decide +kernel
theorem dX10_right_29 : decode cX10_right 29 = .ok (.invokevirtual 123, 3) := by decide +kernel
theorem dX10_right_32 : decode cX10_right 32 = .ok (.invokevirtual 319, 3) := by decide +kernel
theorem dX10_right_35 : decode cX10_right 35 = .ok (.ifCond .eq 9, 3) := by decide +kernel
theorem dX10_right_38 : decode cX10_right 38 = .ok (.iload_n 1, 1) := by decide +kernel
theorem dX10_right_39 : decode cX10_right 39 = .ok (.iconst 1, 1) := by decide +kernel
theorem dX10_right_40 : decode cX10_right 40 = .ok (.iload_n 2, 1) := by decide +kernel
theorem dX10_right_41 : decode cX10_right 41 = .ok (.ishl, 1) := by decide +kernel
theorem dX10_right_42 : decode cX10_right 42 = .ok (.ior, 1) := by decide +kernel
theorem dX10_right_43 : decode cX10_right 43 = .ok (.istore_n 1, 1) := by decide +kernel
theorem dX10_right_44 : decode cX10_right 44 = .ok (.iinc 2 1, 3) := by decide +kernel
theorem dX10_right_47 : decode cX10_right 47 = .ok (.goto (-43), 3) := by decide +kernel
theorem dX10_right_50 : decode cX10_right 50 = .ok (.iload_n 1, 1) := by decide +kernel
theorem dX10_right_51 : decode cX10_right 51 = .ok (.ireturn, 1) := by decide +kernel
theorem dX10_sheet_0 : decode cX10_sheet 0 = .ok (.iload_n 1, 1) := by decide +kernel
theorem dX10_sheet_1 : decode cX10_sheet 1 = .ok (.invokestatic 323, 3) := by decide +kernel
theorem dX10_sheet_4 : decode cX10_sheet 4 = .ok (.ifCond .eq 16, 3) := by decide +kernel
theorem dX10_sheet_7 : decode cX10_sheet 7 = .ok (.iload_n 2, 1) := by decide +kernel
theorem dX10_sheet_8 : decode cX10_sheet 8 = .ok (.invokestatic 326, 3) := by decide +kernel
theorem dX10_sheet_11 : decode cX10_sheet 11 = .ok (.ifCond .eq 9, 3) := by decide +kernel
theorem dX10_sheet_14 : decode cX10_sheet 14 = .ok (.iload_n 3, 1) := by decide +kernel
theorem dX10_sheet_15 : decode cX10_sheet 15 = .ok (.bipush 40, 2) := by decide +kernel
theorem dX10_sheet_17 : decode cX10_sheet 17 = .ok (.if_icmp .le 5, 3) := by decide +kernel
theorem dX10_sheet_20 : decode cX10_sheet 20 = .ok (.iconst (-1), 1) := by decide +kernel
theorem dX10_sheet_21 : decode cX10_sheet 21 = .ok (.ireturn, 1) := by decide +kernel
theorem dX10_sheet_22 : decode cX10_sheet 22 = .ok (.iload_n 3, 1) := by decide +kernel
theorem dX10_sheet_23 : decode cX10_sheet 23 = .ok (.ifCond .ge 6, 3) := by decide +kernel
theorem dX10_sheet_26 : decode cX10_sheet 26 = .ok (.bipush (-14), 2) := by decide +kernel
theorem dX10_sheet_28 : decode cX10_sheet 28 = .ok (.ireturn, 1) := by decide +kernel
theorem dX10_sheet_29 : decode cX10_sheet 29 = .ok (.aload_n 0, 1) := by decide +kernel
theorem dX10_sheet_30 : decode cX10_sheet 30 = .ok (.getfield 73, 3) := by decide +kernel
theorem dX10_sheet_33 : decode cX10_sheet 33 = .ok (.iload_n 1, 1) := by decide +kernel
theorem dX10_sheet_34 : decode cX10_sheet 34 = .ok (.aaload, 1) := by decide +kernel
theorem dX10_sheet_35 : decode cX10_sheet 35 = .ok (.iload_n 2, 1) := by decide +kernel
theorem dX10_sheet_36 : decode cX10_sheet 36 = .ok (.iload_n 3, 1) := by decide +kernel
theorem dX10_sheet_37 : decode cX10_sheet 37 = .ok (.invokevirtual 329, 3) := by decide +kernel
theorem dX10_sheet_40 : decode cX10_sheet 40 = .ok (.iconst 1, 1) := by decide +kernel
theorem dX10_sheet_41 : decode cX10_sheet 41 = .ok (.ireturn, 1) := by decide +kernel
theorem dX10_lay_0 : decode cX10_lay 0 = .ok (.iload_n 1, 1) := by decide +kernel
theorem dX10_lay_1 : decode cX10_lay 1 = .ok (.invokestatic 323, 3) := by decide +kernel
theorem dX10_lay_4 : decode cX10_lay 4 = .ok (.ifCond .ne 5, 3) := by decide +kernel
theorem dX10_lay_7 : decode cX10_lay 7 = .ok (.iconst (-1), 1) := by decide +kernel
theorem dX10_lay_8 : decode cX10_lay 8 = .ok (.ireturn, 1) := by decide +kernel
theorem dX10_lay_9 : decode cX10_lay 9 = .ok (.aload_n 0, 1) := by decide +kernel
theorem dX10_lay_10 : decode cX10_lay 10 = .ok (.getfield 73, 3) := by decide +kernel
theorem dX10_lay_13 : decode cX10_lay 13 = .ok (.iload_n 1, 1) := by decide +kernel
theorem dX10_lay_14 : decode cX10_lay 14 = .ok (.aaload, 1) := by decide +kernel
theorem dX10_lay_15 : decode cX10_lay 15 = .ok (.iload_n 2, 1) := by decide +kernel
theorem dX10_lay_16 : decode cX10_lay 16 = .ok (.invokevirtual 333, 3) := by decide +kernel
theorem dX10_lay_19 : decode cX10_lay 19 = .ok (.istore 4, 2) := by decide +kernel
theorem dX10_lay_21 : decode cX10_lay 21 = .ok (.iload 4, 2) := by decide +kernel
theorem dX10_lay_23 : decode cX10_lay 23 = .ok (.ifCond .eq 9, 3) := by decide +kernel
theorem dX10_lay_26 : decode cX10_lay 26 = .ok (.bipush (-10), 2) := by decide +kernel
theorem dX10_lay_28 : decode cX10_lay 28 = .ok (.iload 4, 2) := by decide +kernel
theorem dX10_lay_30 : decode cX10_lay 30 = .ok (.isub, 1) := by decide +kernel
theorem dX10_lay_31 : decode cX10_lay 31 = .ok (.ireturn, 1) := by decide +kernel
theorem dX10_lay_32 : decode cX10_lay 32 = .ok (.aload_n 0, 1) := by decide +kernel
theorem dX10_lay_33 : decode cX10_lay 33 = .ok (.getfield 73, 3) := by decide +kernel
theorem dX10_lay_36 : decode cX10_lay 36 = .ok (.iload_n 1, 1) := by decide +kernel
theorem dX10_lay_37 : decode cX10_lay 37 = .ok (.aaload, 1) := by decide +kernel
theorem dX10_lay_38 : decode cX10_lay 38 = .ok (.iload_n 2, 1) := by decide +kernel
theorem dX10_lay_39 : decode cX10_lay 39 = .ok (.iload_n 3, 1) := by decide +kernel
theorem dX10_lay_40 : decode cX10_lay 40 = .ok (.invokevirtual 336, 3) := by decide +kernel
theorem dX10_lay_43 : decode cX10_lay 43 = .ok (.iconst 1, 1) := by decide +kernel
theorem dX10_lay_44 : decode cX10_lay 44 = .ok (.ireturn, 1) := by decide +kernel
theorem dX10_read_0 : decode cX10_read 0 = .ok (.iload_n 1, 1) := by decide +kernel
theorem dX10_read_1 : decode cX10_read 1 = .ok (.invokestatic 323, 3) := by decide +kernel
theorem dX10_read_4 : decode cX10_read 4 = .ok (.ifCond .eq 21, 3) := by decide +kernel
theorem dX10_read_7 : decode cX10_read 7 = .ok (.iload_n 2, 1) := by decide +kernel
theorem dX10_read_8 : decode cX10_read 8 = .ok (.invokestatic 326, 3) := by decide +kernel
theorem dX10_read_11 : decode cX10_read 11 = .ok (.ifCond .eq 14, 3) := by decide +kernel
theorem dX10_read_14 : decode cX10_read 14 = .ok (.iload 4, 2) := by decide +kernel
theorem dX10_read_16 : decode cX10_read 16 = .ok (.iconst 0, 1) := by decide +kernel
theorem dX10_read_17 : decode cX10_read 17 = .ok (.bipush 12, 2) := by decide +kernel
theorem dX10_read_19 : decode cX10_read 19 = .ok (.invokestatic 86, 3) := by decide +kernel
theorem dX10_read_22 : decode cX10_read 22 = .ok (.ifCond .ne 5, 3) := by decide +kernel
theorem dX10_read_25 : decode cX10_read 25 = .ok (.iconst (-1), 1) := by decide +kernel
theorem dX10_read_26 : decode cX10_read 26 = .ok (.ireturn, 1) := by decide +kernel
theorem dX10_read_27 : decode cX10_read 27 = .ok (.aload_n 0, 1) := by decide +kernel
theorem dX10_read_28 : decode cX10_read 28 = .ok (.getfield 73, 3) := by decide +kernel
theorem dX10_read_31 : decode cX10_read 31 = .ok (.iload_n 1, 1) := by decide +kernel
theorem dX10_read_32 : decode cX10_read 32 = .ok (.aaload, 1) := by decide +kernel
theorem dX10_read_33 : decode cX10_read 33 = .ok (.astore 5, 2) := by decide +kernel
theorem dX10_read_35 : decode cX10_read 35 = .ok (.aload_n 0, 1) := by decide +kernel
theorem dX10_read_36 : decode cX10_read 36 = .ok (.getfield 33, 3) := by decide +kernel
theorem dX10_read_39 : decode cX10_read 39 = .ok (.getfield 339, 3) := by decide +kernel
theorem dX10_read_42 : decode cX10_read 42 = .ok (.istore 6, 2) := by decide +kernel
theorem dX10_read_44 : decode cX10_read 44 = .ok (.aload_n 0, 1) := by decide +kernel
theorem dX10_read_45 : decode cX10_read 45 = .ok (.getfield 33, 3) := by decide +kernel
theorem dX10_read_48 : decode cX10_read 48 = .ok (.getfield 208, 3) := by decide +kernel
theorem dX10_read_51 : decode cX10_read 51 = .ok (.istore 7, 2) := by decide +kernel
theorem dX10_read_53 : decode cX10_read 53 = .ok (.iconst 0, 1) := by decide +kernel
theorem dX10_read_54 : decode cX10_read 54 = .ok (.istore 8, 2) := by decide +kernel
theorem dX10_read_56 : decode cX10_read 56 = .ok (.iconst 0, 1) := by decide +kernel
theorem dX10_read_57 : decode cX10_read 57 = .ok (.istore 9, 2) := by decide +kernel
theorem dX10_read_59 : decode cX10_read 59 = .ok (.iconst 0, 1) := by decide +kernel
theorem dX10_read_60 : decode cX10_read 60 = .ok (.istore 10, 2) := by decide +kernel
theorem dX10_read_62 : decode cX10_read 62 = .ok (.iload 10, 2) := by decide +kernel
theorem dX10_read_64 : decode cX10_read 64 = .ok (.iload 4, 2) := by decide +kernel
theorem dX10_read_66 : decode cX10_read 66 = .ok (.if_icmp .ge 113, 3) := by decide +kernel
theorem dX10_read_69 : decode cX10_read 69 = .ok (.iload 9, 2) := by decide +kernel
theorem dX10_read_71 : decode cX10_read 71 = .ok (.ifCond .ne 108, 3) := by decide +kernel
theorem dX10_read_74 : decode cX10_read 74 = .ok (.aload 5, 2) := by decide +kernel
theorem dX10_read_76 : decode cX10_read 76 = .ok (.iload_n 2, 1) := by decide +kernel
theorem dX10_read_77 : decode cX10_read 77 = .ok (.iload_n 3, 1) := by decide +kernel
theorem dX10_read_78 : decode cX10_read 78 = .ok (.iload 10, 2) := by decide +kernel
theorem dX10_read_80 : decode cX10_read 80 = .ok (.invokevirtual 340, 3) := by decide +kernel
theorem dX10_read_83 : decode cX10_read 83 = .ok (.istore 9, 2) := by decide +kernel
theorem dX10_read_85 : decode cX10_read 85 = .ok (.iload 9, 2) := by decide +kernel
theorem dX10_read_87 : decode cX10_read 87 = .ok (.ifCond .ne 86, 3) := by decide +kernel
theorem dX10_read_90 : decode cX10_read 90 = .ok (.iload_n 3, 1) := by decide +kernel
theorem dX10_read_91 : decode cX10_read 91 = .ok (.iconst 3, 1) := by decide +kernel
theorem dX10_read_92 : decode cX10_read 92 = .ok (.iload 10, 2) := by decide +kernel
theorem dX10_read_94 : decode cX10_read 94 = .ok (.imul, 1) := by decide +kernel
theorem dX10_read_95 : decode cX10_read 95 = .ok (.iadd, 1) := by decide +kernel
theorem dX10_read_96 : decode cX10_read 96 = .ok (.istore 11, 2) := by decide +kernel
theorem dX10_read_98 : decode cX10_read 98 = .ok (.aload_n 0, 1) := by decide +kernel
theorem dX10_read_99 : decode cX10_read 99 = .ok (.aload 5, 2) := by decide +kernel
theorem dX10_read_101 : decode cX10_read 101 = .ok (.iload 11, 2) := by decide +kernel
theorem dX10_read_103 : decode cX10_read 103 = .ok (.invokevirtual 343, 3) := by decide +kernel
theorem dX10_read_106 : decode cX10_read 106 = .ok (.aload 5, 2) := by decide +kernel
theorem dX10_read_108 : decode cX10_read 108 = .ok (.iload 11, 2) := by decide +kernel
theorem dX10_read_110 : decode cX10_read 110 = .ok (.iconst 1, 1) := by decide +kernel
theorem dX10_read_111 : decode cX10_read 111 = .ok (.iadd, 1) := by decide +kernel
theorem dX10_read_112 : decode cX10_read 112 = .ok (.invokevirtual 343, 3) := by decide +kernel
theorem dX10_read_115 : decode cX10_read 115 = .ok (.aload 5, 2) := by decide +kernel
theorem dX10_read_117 : decode cX10_read 117 = .ok (.iload 11, 2) := by decide +kernel
theorem dX10_read_119 : decode cX10_read 119 = .ok (.iconst 2, 1) := by decide +kernel
theorem dX10_read_120 : decode cX10_read 120 = .ok (.iadd, 1) := by decide +kernel
theorem dX10_read_121 : decode cX10_read 121 = .ok (.invokevirtual 343, 3) := by decide +kernel
theorem dX10_read_124 : decode cX10_read 124 = .ok (.invokevirtual 151, 3) := by decide +kernel
theorem dX10_read_127 : decode cX10_read 127 = .ok (.istore 12, 2) := by decide +kernel
theorem dX10_read_129 : decode cX10_read 129 = .ok (.iload 12, 2) := by decide +kernel
theorem dX10_read_131 : decode cX10_read 131 = .ok (.ifCond .ge 39, 3) := by decide +kernel
theorem dX10_read_134 : decode cX10_read 134 = .ok (.aload_n 0, 1) := by decide +kernel
theorem dX10_read_135 : decode cX10_read 135 = .ok (.getfield 33, 3) := by decide +kernel
theorem dX10_read_138 : decode cX10_read 138 = .ok (.iload 6, 2) := by decide +kernel
theorem dX10_read_140 : decode cX10_read 140 = .ok (.putfield 339, 3) := by decide +kernel
theorem dX10_read_143 : decode cX10_read 143 = .ok (.aload_n 0, 1) := by decide +kernel
theorem dX10_read_144 : decode cX10_read 144 = .ok (.getfield 33, 3) := by decide +kernel
theorem dX10_read_147 : decode cX10_read 147 = .ok (.iload 7, 2) := by decide +kernel
theorem dX10_read_149 : decode cX10_read 149 = .ok (.putfield 208, 3) := by decide +kernel
theorem dX10_read_152 : decode cX10_read 152 = .ok (.iload 12, 2) := by decide +kernel
theorem dX10_read_154 : decode cX10_read 154 = .ok (.bipush (-3), 2) := by decide +kernel
theorem dX10_read_156 : decode cX10_read 156 = .ok (.if_icmp .ne 8, 3) := by decide +kernel
theorem dX10_read_159 : decode cX10_read 159 = .ok (.bipush (-3), 2) := by decide +kernel
theorem dX10_read_161 : decode cX10_read 161 = .ok (.goto 8, 3) := by decide +kernel
theorem dX10_read_164 : decode cX10_read 164 = .ok (.bipush (-20), 2) := by decide +kernel
theorem dX10_read_166 : decode cX10_read 166 = .ok (.iload 10, 2) := by decide +kernel
theorem dX10_read_168 : decode cX10_read 168 = .ok (.isub, 1) := by decide +kernel
theorem dX10_read_169 : decode cX10_read 169 = .ok (.ireturn, 1) := by decide +kernel
theorem dX10_read_170 : decode cX10_read 170 = .ok (.iinc 8 1, 3) := by decide +kernel
theorem dX10_read_173 : decode cX10_read 173 = .ok (.iinc 10 1, 3) := by decide +kernel
theorem dX10_read_176 : decode cX10_read 176 = .ok (.goto (-114), 3) := by decide +kernel
theorem dX10_read_179 : decode cX10_read 179 = .ok (.aload_n 0, 1) := by decide +kernel
theorem dX10_read_180 : decode cX10_read 180 = .ok (.iload 9, 2) := by decide +kernel
theorem dX10_read_182 : decode cX10_read 182 = .ok (.putfield 77, 3) := by decide +kernel
theorem dX10_read_185 : decode cX10_read 185 = .ok (.iload 8, 2) := by decide +kernel
theorem dX10_read_187 : decode cX10_read 187 = .ok (.ireturn, 1) := by decide +kernel
theorem dX10_torn_0 : decode cX10_torn 0 = .ok (.aload_n 0, 1) := by decide +kernel
theorem dX10_torn_1 : decode cX10_torn 1 = .ok (.getfield 77, 3) := by decide +kernel
theorem dX10_torn_4 : decode cX10_torn 4 = .ok (.ireturn, 1) := by decide +kernel
theorem dX10_count_0 : decode cX10_count 0 = .ok (.iload_n 1, 1) := by decide +kernel
theorem dX10_count_1 : decode cX10_count 1 = .ok (.tableswitch 113 0 6 #[43, 51, 59, 67, 72, 80, 85], 43) := by decide +kernel
theorem dX10_count_44 : decode cX10_count 44 = .ok (.aload_n 0, 1) := by decide +kernel
theorem dX10_count_45 : decode cX10_count 45 = .ok (.getfield 33, 3) := by decide +kernel
theorem dX10_count_48 : decode cX10_count 48 = .ok (.getfield 339, 3) := by decide +kernel
theorem dX10_count_51 : decode cX10_count 51 = .ok (.ireturn, 1) := by decide +kernel
theorem dX10_count_52 : decode cX10_count 52 = .ok (.aload_n 0, 1) := by decide +kernel
theorem dX10_count_53 : decode cX10_count 53 = .ok (.getfield 33, 3) := by decide +kernel
theorem dX10_count_56 : decode cX10_count 56 = .ok (.invokevirtual 159, 3) := by decide +kernel
theorem dX10_count_59 : decode cX10_count 59 = .ok (.ireturn, 1) := by decide +kernel
theorem dX10_count_60 : decode cX10_count 60 = .ok (.aload_n 0, 1) := by decide +kernel
theorem dX10_count_61 : decode cX10_count 61 = .ok (.getfield 67, 3) := by decide +kernel
theorem dX10_count_64 : decode cX10_count 64 = .ok (.getfield 113, 3) := by decide +kernel
theorem dX10_count_67 : decode cX10_count 67 = .ok (.ireturn, 1) := by decide +kernel
theorem dX10_count_68 : decode cX10_count 68 = .ok (.aload_n 0, 1) := by decide +kernel
theorem dX10_count_69 : decode cX10_count 69 = .ok (.invokevirtual 346, 3) := by decide +kernel
theorem dX10_count_72 : decode cX10_count 72 = .ok (.ireturn, 1) := by decide +kernel
theorem dX10_count_73 : decode cX10_count 73 = .ok (.aload_n 0, 1) := by decide +kernel
theorem dX10_count_74 : decode cX10_count 74 = .ok (.getfield 33, 3) := by decide +kernel
theorem dX10_count_77 : decode cX10_count 77 = .ok (.invokevirtual 349, 3) := by decide +kernel
theorem dX10_count_80 : decode cX10_count 80 = .ok (.ireturn, 1) := by decide +kernel
theorem dX10_count_81 : decode cX10_count 81 = .ok (.aload_n 0, 1) := by decide +kernel
theorem dX10_count_82 : decode cX10_count 82 = .ok (.getfield 16, 3) := by decide +kernel
theorem dX10_count_85 : decode cX10_count 85 = .ok (.ireturn, 1) := by decide +kernel
theorem dX10_count_86 : decode cX10_count 86 = .ok (.aload_n 0, 1) := by decide +kernel
theorem dX10_count_87 : decode cX10_count 87 = .ok (.getfield 73, 3) := by decide +kernel
theorem dX10_count_90 : decode cX10_count 90 = .ok (.iconst 0, 1) := by decide +kernel
theorem dX10_count_91 : decode cX10_count 91 = .ok (.aaload, 1) := by decide +kernel
theorem dX10_count_92 : decode cX10_count 92 = .ok (.getfield 352, 3) := by decide +kernel
theorem dX10_count_95 : decode cX10_count 95 = .ok (.iconst (-1), 1) := by decide +kernel
theorem dX10_count_96 : decode cX10_count 96 = .ok (.if_icmp .ne 8, 3) := by decide +kernel
theorem dX10_count_99 : decode cX10_count 99 = .ok (.bipush (-4), 2) := by decide +kernel
theorem dX10_count_101 : decode cX10_count 101 = .ok (.goto 12, 3) := by decide +kernel
theorem dX10_count_104 : decode cX10_count 104 = .ok (.aload_n 0, 1) := by decide +kernel
theorem dX10_count_105 : decode cX10_count 105 = .ok (.getfield 73, 3) := by decide +kernel
theorem dX10_count_108 : decode cX10_count 108 = .ok (.iconst 0, 1) := by decide +kernel
theorem dX10_count_109 : decode cX10_count 109 = .ok (.aaload, 1) := by decide +kernel
theorem dX10_count_110 : decode cX10_count 110 = .ok (.getfield 355, 3) := by decide +kernel
theorem dX10_count_113 : decode cX10_count 113 = .ok (.ireturn, 1) := by decide +kernel
theorem dX10_count_114 : decode cX10_count 114 = .ok (.iconst (-1), 1) := by decide +kernel
theorem dX10_count_115 : decode cX10_count 115 = .ok (.ireturn, 1) := by decide +kernel
theorem dX10_setDown_0 : decode cX10_setDown 0 = .ok (.iload_n 1, 1) := by decide +kernel
theorem dX10_setDown_1 : decode cX10_setDown 1 = .ok (.iload_n 2, 1) := by decide +kernel
theorem dX10_setDown_2 : decode cX10_setDown 2 = .ok (.iload_n 3, 1) := by decide +kernel
theorem dX10_setDown_3 : decode cX10_setDown 3 = .ok (.invokestatic 222, 3) := by decide +kernel
theorem dX10_setDown_6 : decode cX10_setDown 6 = .ok (.ifCond .ne 5, 3) := by decide +kernel
theorem dX10_setDown_9 : decode cX10_setDown 9 = .ok (.iconst (-1), 1) := by decide +kernel
theorem dX10_setDown_10 : decode cX10_setDown 10 = .ok (.ireturn, 1) := by decide +kernel
theorem dX10_setDown_11 : decode cX10_setDown 11 = .ok (.aload_n 0, 1) := by decide +kernel
theorem dX10_setDown_12 : decode cX10_setDown 12 = .ok (.getfield 33, 3) := by decide +kernel
theorem dX10_setDown_15 : decode cX10_setDown 15 = .ok (.iload_n 1, 1) := by decide +kernel
theorem dX10_setDown_16 : decode cX10_setDown 16 = .ok (.invokevirtual 225, 3) := by decide +kernel
theorem dX10_setDown_19 : decode cX10_setDown 19 = .ok (.ifCond .eq 16, 3) := by decide +kernel
theorem dX10_setDown_22 : decode cX10_setDown 22 = .ok (.aload_n 0, 1) := by decide +kernel
theorem dX10_setDown_23 : decode cX10_setDown 23 = .ok (.getfield 33, 3) := by decide +kernel
theorem dX10_setDown_26 : decode cX10_setDown 26 = .ok (.iload_n 1, 1) := by decide +kernel
theorem dX10_setDown_27 : decode cX10_setDown 27 = .ok (.invokevirtual 134, 3) := by decide +kernel
theorem dX10_setDown_30 : decode cX10_setDown 30 = .ok (.bipush (-4), 2) := by decide +kernel
theorem dX10_setDown_32 : decode cX10_setDown 32 = .ok (.if_icmp .eq 6, 3) := by decide +kernel
theorem dX10_setDown_35 : decode cX10_setDown 35 = .ok (.bipush (-2), 2) := by decide +kernel
theorem dX10_setDown_37 : decode cX10_setDown 37 = .ok (.ireturn, 1) := by decide +kernel
theorem dX10_setDown_38 : decode cX10_setDown 38 = .ok (.aload_n 0, 1) := by decide +kernel
theorem dX10_setDown_39 : decode cX10_setDown 39 = .ok (.getfield 33, 3) := by decide +kernel
theorem dX10_setDown_42 : decode cX10_setDown 42 = .ok (.getfield 339, 3) := by decide +kernel
theorem dX10_setDown_45 : decode cX10_setDown 45 = .ok (.bipush 12, 2) := by decide +kernel
theorem dX10_setDown_47 : decode cX10_setDown 47 = .ok (.if_icmp .ge 16, 3) := by decide +kernel
theorem dX10_setDown_50 : decode cX10_setDown 50 = .ok (.aload_n 0, 1) := by decide +kernel
theorem dX10_setDown_51 : decode cX10_setDown 51 = .ok (.getfield 33, 3) := by decide +kernel
theorem dX10_setDown_54 : decode cX10_setDown 54 = .ok (.iload_n 1, 1) := by decide +kernel
theorem dX10_setDown_55 : decode cX10_setDown 55 = .ok (.iload_n 2, 1) := by decide +kernel
theorem dX10_setDown_56 : decode cX10_setDown 56 = .ok (.iload_n 3, 1) := by decide +kernel
theorem dX10_setDown_57 : decode cX10_setDown 57 = .ok (.invokevirtual 358, 3) := by decide +kernel
theorem dX10_setDown_60 : decode cX10_setDown 60 = .ok (.goto 5, 3) := by decide +kernel
theorem dX10_setDown_63 : decode cX10_setDown 63 = .ok (.bipush (-3), 2) := by decide +kernel
theorem dX10_setDown_65 : decode cX10_setDown 65 = .ok (.ireturn, 1) := by decide +kernel
theorem dX10_howManyImages_0 : decode cX10_howManyImages 0 = .ok (.iconst 0, 1) := by decide +kernel
theorem dX10_howManyImages_1 : decode cX10_howManyImages 1 = .ok (.istore_n 1, 1) := by decide +kernel
theorem dX10_howManyImages_2 : decode cX10_howManyImages 2 = .ok (.iconst 0, 1) := by decide +kernel
theorem dX10_howManyImages_3 : decode cX10_howManyImages 3 = .ok (.istore_n 2, 1) := by decide +kernel
theorem dX10_howManyImages_4 : decode cX10_howManyImages 4 = .ok (.iload_n 2, 1) := by decide +kernel
theorem dX10_howManyImages_5 : decode cX10_howManyImages 5 = .ok (.iconst 2, 1) := by decide +kernel
theorem dX10_howManyImages_6 : decode cX10_howManyImages 6 = .ok (.if_icmp .ge 29, 3) := by decide +kernel
theorem dX10_howManyImages_9 : decode cX10_howManyImages 9 = .ok (.iload_n 1, 1) := by decide +kernel
theorem dX10_howManyImages_10 : decode cX10_howManyImages 10 = .ok (.aload_n 0, 1) := by decide +kernel
theorem dX10_howManyImages_11 : decode cX10_howManyImages 11 = .ok (.getfield 39, 3) := by decide +kernel
theorem dX10_howManyImages_14 : decode cX10_howManyImages 14 = .ok (.iload_n 2, 1) := by decide +kernel
theorem dX10_howManyImages_15 : decode cX10_howManyImages 15 = .ok (.aaload, 1) := by decide +kernel
theorem dX10_howManyImages_16 : decode cX10_howManyImages 16 = .ok (.getfield 116, 3) := by decide +kernel
theorem dX10_howManyImages_19 : decode cX10_howManyImages 19 = .ok (.ifCond .eq 7, 3) := by decide +kernel
theorem dX10_howManyImages_22 : decode cX10_howManyImages 22 = .ok (.iconst 1, 1) := by decide +kernel
theorem dX10_howManyImages_23 : decode cX10_howManyImages 23 = .ok (.goto 4, 3) := by decide +kernel
theorem dX10_howManyImages_26 : decode cX10_howManyImages 26 = .ok (.iconst 0, 1) := by decide +kernel
theorem dX10_howManyImages_27 : decode cX10_howManyImages 27 = .ok (.iadd, 1) := by decide +kernel
theorem dX10_howManyImages_28 : decode cX10_howManyImages 28 = .ok (.istore_n 1, 1) := by decide +kernel
theorem dX10_howManyImages_29 : decode cX10_howManyImages 29 = .ok (.iinc 2 1, 3) := by decide +kernel
theorem dX10_howManyImages_32 : decode cX10_howManyImages 32 = .ok (.goto (-28), 3) := by decide +kernel
theorem dX10_howManyImages_35 : decode cX10_howManyImages 35 = .ok (.iload_n 1, 1) := by decide +kernel
theorem dX10_howManyImages_36 : decode cX10_howManyImages 36 = .ok (.ireturn, 1) := by decide +kernel
theorem dX10_within_0 : decode cX10_within 0 = .ok (.iload_n 0, 1) := by decide +kernel
theorem dX10_within_1 : decode cX10_within 1 = .ok (.iload_n 1, 1) := by decide +kernel
theorem dX10_within_2 : decode cX10_within 2 = .ok (.if_icmp .lt 12, 3) := by decide +kernel
theorem dX10_within_5 : decode cX10_within 5 = .ok (.iload_n 0, 1) := by decide +kernel
theorem dX10_within_6 : decode cX10_within 6 = .ok (.iload_n 2, 1) := by decide +kernel
theorem dX10_within_7 : decode cX10_within 7 = .ok (.if_icmp .gt 7, 3) := by decide +kernel
theorem dX10_within_10 : decode cX10_within 10 = .ok (.iconst 1, 1) := by decide +kernel
theorem dX10_within_11 : decode cX10_within 11 = .ok (.goto 4, 3) := by decide +kernel
theorem dX10_within_14 : decode cX10_within 14 = .ok (.iconst 0, 1) := by decide +kernel
theorem dX10_within_15 : decode cX10_within 15 = .ok (.ireturn, 1) := by decide +kernel
theorem dX10_isCell_0 : decode cX10_isCell 0 = .ok (.iload_n 0, 1) := by decide +kernel
theorem dX10_isCell_1 : decode cX10_isCell 1 = .ok (.ifCond .lt 13, 3) := by decide +kernel
theorem dX10_isCell_4 : decode cX10_isCell 4 = .ok (.iload_n 0, 1) := by decide +kernel
theorem dX10_isCell_5 : decode cX10_isCell 5 = .ok (.bipush 96, 2) := by decide +kernel
theorem dX10_isCell_7 : decode cX10_isCell 7 = .ok (.if_icmp .ge 7, 3) := by decide +kernel
theorem dX10_isCell_10 : decode cX10_isCell 10 = .ok (.iconst 1, 1) := by decide +kernel
theorem dX10_isCell_11 : decode cX10_isCell 11 = .ok (.goto 4, 3) := by decide +kernel
theorem dX10_isCell_14 : decode cX10_isCell 14 = .ok (.iconst 0, 1) := by decide +kernel
theorem dX10_isCell_15 : decode cX10_isCell 15 = .ok (.ireturn, 1) := by decide +kernel
theorem dX10_isWay_0 : decode cX10_isWay 0 = .ok (.iload_n 0, 1) := by decide +kernel
theorem dX10_isWay_1 : decode cX10_isWay 1 = .ok (.ifCond .lt 12, 3) := by decide +kernel
theorem dX10_isWay_4 : decode cX10_isWay 4 = .ok (.iload_n 0, 1) := by decide +kernel
theorem dX10_isWay_5 : decode cX10_isWay 5 = .ok (.iconst 4, 1) := by decide +kernel
theorem dX10_isWay_6 : decode cX10_isWay 6 = .ok (.if_icmp .ge 7, 3) := by decide +kernel
theorem dX10_isWay_9 : decode cX10_isWay 9 = .ok (.iconst 1, 1) := by decide +kernel
theorem dX10_isWay_10 : decode cX10_isWay 10 = .ok (.goto 4, 3) := by decide +kernel
theorem dX10_isWay_13 : decode cX10_isWay 13 = .ok (.iconst 0, 1) := by decide +kernel
theorem dX10_isWay_14 : decode cX10_isWay 14 = .ok (.ireturn, 1) := by decide +kernel
theorem dX10_isSize_0 : decode cX10_isSize 0 = .ok (.iload_n 0, 1) := by decide +kernel
theorem dX10_isSize_1 : decode cX10_isSize 1 = .ok (.iconst 1, 1) := by decide +kernel
theorem dX10_isSize_2 : decode cX10_isSize 2 = .ok (.bipush 60, 2) := by decide +kernel
theorem dX10_isSize_4 : decode cX10_isSize 4 = .ok (.invokestatic 86, 3) := by decide +kernel
theorem dX10_isSize_7 : decode cX10_isSize 7 = .ok (.ireturn, 1) := by decide +kernel
theorem dX10_isHeat_0 : decode cX10_isHeat 0 = .ok (.iload_n 0, 1) := by decide +kernel
theorem dX10_isHeat_1 : decode cX10_isHeat 1 = .ok (.iconst 0, 1) := by decide +kernel
theorem dX10_isHeat_2 : decode cX10_isHeat 2 = .ok (.bipush 99, 2) := by decide +kernel
theorem dX10_isHeat_4 : decode cX10_isHeat 4 = .ok (.invokestatic 86, 3) := by decide +kernel
theorem dX10_isHeat_7 : decode cX10_isHeat 7 = .ok (.ireturn, 1) := by decide +kernel
theorem dX10_isSheet_0 : decode cX10_isSheet 0 = .ok (.iload_n 0, 1) := by decide +kernel
theorem dX10_isSheet_1 : decode cX10_isSheet 1 = .ok (.iconst 0, 1) := by decide +kernel
theorem dX10_isSheet_2 : decode cX10_isSheet 2 = .ok (.iconst 3, 1) := by decide +kernel
theorem dX10_isSheet_3 : decode cX10_isSheet 3 = .ok (.invokestatic 86, 3) := by decide +kernel
theorem dX10_isSheet_6 : decode cX10_isSheet 6 = .ok (.ireturn, 1) := by decide +kernel
theorem dX10_isLane_0 : decode cX10_isLane 0 = .ok (.iload_n 0, 1) := by decide +kernel
theorem dX10_isLane_1 : decode cX10_isLane 1 = .ok (.iconst 0, 1) := by decide +kernel
theorem dX10_isLane_2 : decode cX10_isLane 2 = .ok (.iconst 2, 1) := by decide +kernel
theorem dX10_isLane_3 : decode cX10_isLane 3 = .ok (.invokestatic 86, 3) := by decide +kernel
theorem dX10_isLane_6 : decode cX10_isLane 6 = .ok (.ireturn, 1) := by decide +kernel
theorem dX10_isDropToBe_0 : decode cX10_isDropToBe 0 = .ok (.iload_n 0, 1) := by decide +kernel
theorem dX10_isDropToBe_1 : decode cX10_isDropToBe 1 = .ok (.invokestatic 127, 3) := by decide +kernel
theorem dX10_isDropToBe_4 : decode cX10_isDropToBe 4 = .ok (.ifCond .eq 21, 3) := by decide +kernel
theorem dX10_isDropToBe_7 : decode cX10_isDropToBe 7 = .ok (.iload_n 1, 1) := by decide +kernel
theorem dX10_isDropToBe_8 : decode cX10_isDropToBe 8 = .ok (.invokestatic 276, 3) := by decide +kernel
theorem dX10_isDropToBe_11 : decode cX10_isDropToBe 11 = .ok (.ifCond .eq 14, 3) := by decide +kernel
theorem dX10_isDropToBe_14 : decode cX10_isDropToBe 14 = .ok (.iload_n 2, 1) := by decide +kernel
theorem dX10_isDropToBe_15 : decode cX10_isDropToBe 15 = .ok (.invokestatic 253, 3) := by decide +kernel
theorem dX10_isDropToBe_18 : decode cX10_isDropToBe 18 = .ok (.ifCond .eq 7, 3) := by decide +kernel
theorem dX10_isDropToBe_21 : decode cX10_isDropToBe 21 = .ok (.iconst 1, 1) := by decide +kernel
theorem dX10_isDropToBe_22 : decode cX10_isDropToBe 22 = .ok (.goto 4, 3) := by decide +kernel
theorem dX10_isDropToBe_25 : decode cX10_isDropToBe 25 = .ok (.iconst 0, 1) := by decide +kernel
theorem dX10_isDropToBe_26 : decode cX10_isDropToBe 26 = .ok (.ireturn, 1) := by decide +kernel
theorem dX10_nextCell_0 : decode cX10_nextCell 0 = .ok (.iload_n 0, 1) := by decide +kernel
theorem dX10_nextCell_1 : decode cX10_nextCell 1 = .ok (.bipush 12, 2) := by decide +kernel
theorem dX10_nextCell_3 : decode cX10_nextCell 3 = .ok (.idiv, 1) := by decide +kernel
theorem dX10_nextCell_4 : decode cX10_nextCell 4 = .ok (.istore_n 2, 1) := by decide +kernel
theorem dX10_nextCell_5 : decode cX10_nextCell 5 = .ok (.iload_n 0, 1) := by decide +kernel
theorem dX10_nextCell_6 : decode cX10_nextCell 6 = .ok (.bipush 12, 2) := by decide +kernel
theorem dX10_nextCell_8 : decode cX10_nextCell 8 = .ok (.irem, 1) := by decide +kernel
theorem dX10_nextCell_9 : decode cX10_nextCell 9 = .ok (.istore_n 3, 1) := by decide +kernel
theorem dX10_nextCell_10 : decode cX10_nextCell 10 = .ok (.iload_n 1, 1) := by decide +kernel
theorem dX10_nextCell_11 : decode cX10_nextCell 11 = .ok (.tableswitch 87 0 3 #[29, 43, 58, 74], 29) := by decide +kernel
theorem dX10_nextCell_40 : decode cX10_nextCell 40 = .ok (.iload_n 2, 1) := by decide +kernel
theorem dX10_nextCell_41 : decode cX10_nextCell 41 = .ok (.ifCond .le 10, 3) := by decide +kernel
theorem dX10_nextCell_44 : decode cX10_nextCell 44 = .ok (.iload_n 0, 1) := by decide +kernel
theorem dX10_nextCell_45 : decode cX10_nextCell 45 = .ok (.bipush 12, 2) := by decide +kernel
theorem dX10_nextCell_47 : decode cX10_nextCell 47 = .ok (.isub, 1) := by decide +kernel
theorem dX10_nextCell_48 : decode cX10_nextCell 48 = .ok (.goto 5, 3) := by decide +kernel
theorem dX10_nextCell_51 : decode cX10_nextCell 51 = .ok (.bipush (-4), 2) := by decide +kernel
theorem dX10_nextCell_53 : decode cX10_nextCell 53 = .ok (.ireturn, 1) := by decide +kernel
theorem dX10_nextCell_54 : decode cX10_nextCell 54 = .ok (.iload_n 3, 1) := by decide +kernel
theorem dX10_nextCell_55 : decode cX10_nextCell 55 = .ok (.bipush 11, 2) := by decide +kernel
theorem dX10_nextCell_57 : decode cX10_nextCell 57 = .ok (.if_icmp .ge 9, 3) := by decide +kernel
theorem dX10_nextCell_60 : decode cX10_nextCell 60 = .ok (.iload_n 0, 1) := by decide +kernel
theorem dX10_nextCell_61 : decode cX10_nextCell 61 = .ok (.iconst 1, 1) := by decide +kernel
theorem dX10_nextCell_62 : decode cX10_nextCell 62 = .ok (.iadd, 1) := by decide +kernel
theorem dX10_nextCell_63 : decode cX10_nextCell 63 = .ok (.goto 5, 3) := by decide +kernel
theorem dX10_nextCell_66 : decode cX10_nextCell 66 = .ok (.bipush (-4), 2) := by decide +kernel
theorem dX10_nextCell_68 : decode cX10_nextCell 68 = .ok (.ireturn, 1) := by decide +kernel
theorem dX10_nextCell_69 : decode cX10_nextCell 69 = .ok (.iload_n 2, 1) := by decide +kernel
theorem dX10_nextCell_70 : decode cX10_nextCell 70 = .ok (.bipush 7, 2) := by decide +kernel
theorem dX10_nextCell_72 : decode cX10_nextCell 72 = .ok (.if_icmp .ge 10, 3) := by decide +kernel
theorem dX10_nextCell_75 : decode cX10_nextCell 75 = .ok (.iload_n 0, 1) := by decide +kernel
theorem dX10_nextCell_76 : decode cX10_nextCell 76 = .ok (.bipush 12, 2) := by decide +kernel
theorem dX10_nextCell_78 : decode cX10_nextCell 78 = .ok (.iadd, 1) := by decide +kernel
theorem dX10_nextCell_79 : decode cX10_nextCell 79 = .ok (.goto 5, 3) := by decide +kernel
theorem dX10_nextCell_82 : decode cX10_nextCell 82 = .ok (.bipush (-4), 2) := by decide +kernel
theorem dX10_nextCell_84 : decode cX10_nextCell 84 = .ok (.ireturn, 1) := by decide +kernel
theorem dX10_nextCell_85 : decode cX10_nextCell 85 = .ok (.iload_n 3, 1) := by decide +kernel
theorem dX10_nextCell_86 : decode cX10_nextCell 86 = .ok (.ifCond .le 9, 3) := by decide +kernel
theorem dX10_nextCell_89 : decode cX10_nextCell 89 = .ok (.iload_n 0, 1) := by decide +kernel
theorem dX10_nextCell_90 : decode cX10_nextCell 90 = .ok (.iconst 1, 1) := by decide +kernel
theorem dX10_nextCell_91 : decode cX10_nextCell 91 = .ok (.isub, 1) := by decide +kernel
theorem dX10_nextCell_92 : decode cX10_nextCell 92 = .ok (.goto 5, 3) := by decide +kernel
theorem dX10_nextCell_95 : decode cX10_nextCell 95 = .ok (.bipush (-4), 2) := by decide +kernel
theorem dX10_nextCell_97 : decode cX10_nextCell 97 = .ok (.ireturn, 1) := by decide +kernel
theorem dX10_nextCell_98 : decode cX10_nextCell 98 = .ok (.bipush (-4), 2) := by decide +kernel
theorem dX10_nextCell_100 : decode cX10_nextCell 100 = .ok (.ireturn, 1) := by decide +kernel
