theorem dX11_init_0 : decode cX11_init 0 = .ok (.aload_n 0, 1) := by decide +kernel
theorem dX11_init_1 : decode cX11_init 1 = .ok (.invokespecial 1, 3) := by decide +kernel
theorem dX11_init_4 : decode cX11_init 4 = .ok (.aload_n 0, 1) := by decide +kernel
theorem dX11_init_5 : decode cX11_init 5 = .ok (.sipush 576, 3) := by decide +kernel
theorem dX11_init_8 : decode cX11_init 8 = .ok (.newarray .int, 2) := by decide +kernel
theorem dX11_init_10 : decode cX11_init 10 = .ok (.putfield 7, 3) := by decide +kernel
theorem dX11_init_13 : decode cX11_init 13 = .ok (.aload_n 0, 1) := by decide +kernel
theorem dX11_init_14 : decode cX11_init 14 = .ok (.iconst 2, 1) := by decide +kernel
theorem dX11_init_15 : decode cX11_init 15 = .ok (.newarray .boolean, 2) := by decide +kernel
theorem dX11_init_17 : decode cX11_init 17 = .ok (.putfield 13, 3) := by decide +kernel
theorem dX11_init_20 : decode cX11_init 20 = .ok (.aload_n 0, 1) := by decide +kernel
theorem dX11_init_21 : decode cX11_init 21 = .ok (.bipush 9, 2) := by decide +kernel
theorem dX11_init_23 : decode cX11_init 23 = .ok (.newarray .int, 2) := by decide +kernel
theorem dX11_init_25 : decode cX11_init 25 = .ok (.putfield 17, 3) := by decide +kernel
theorem dX11_init_28 : decode cX11_init 28 = .ok (.aload_n 0, 1) := by decide +kernel
theorem dX11_init_29 : decode cX11_init 29 = .ok (.bipush 9, 2) := by decide +kernel
theorem dX11_init_31 : decode cX11_init 31 = .ok (.newarray .int, 2) := by decide +kernel
theorem dX11_init_33 : decode cX11_init 33 = .ok (.putfield 20, 3) := by decide +kernel
theorem dX11_init_36 : decode cX11_init 36 = .ok (.aload_n 0, 1) := by decide +kernel
theorem dX11_init_37 : decode cX11_init 37 = .ok (.bipush 9, 2) := by decide +kernel
theorem dX11_init_39 : decode cX11_init 39 = .ok (.newarray .boolean, 2) := by decide +kernel
theorem dX11_init_41 : decode cX11_init 41 = .ok (.putfield 23, 3) := by decide +kernel
theorem dX11_init_44 : decode cX11_init 44 = .ok (.aload_n 0, 1) := by decide +kernel
theorem dX11_init_45 : decode cX11_init 45 = .ok (.bipush 96, 2) := by decide +kernel
theorem dX11_init_47 : decode cX11_init 47 = .ok (.newarray .int, 2) := by decide +kernel
theorem dX11_init_49 : decode cX11_init 49 = .ok (.putfield 26, 3) := by decide +kernel
theorem dX11_init_52 : decode cX11_init 52 = .ok (.aload_n 0, 1) := by decide +kernel
theorem dX11_init_53 : decode cX11_init 53 = .ok (.sipush 320, 3) := by decide +kernel
theorem dX11_init_56 : decode cX11_init 56 = .ok (.newarray .int, 2) := by decide +kernel
theorem dX11_init_58 : decode cX11_init 58 = .ok (.putfield 29, 3) := by decide +kernel
theorem dX11_init_61 : decode cX11_init 61 = .ok (.aload_n 0, 1) := by decide +kernel
theorem dX11_init_62 : decode cX11_init 62 = .ok (.sipush 384, 3) := by decide +kernel
theorem dX11_init_65 : decode cX11_init 65 = .ok (.newarray .int, 2) := by decide +kernel
theorem dX11_init_67 : decode cX11_init 67 = .ok (.putfield 32, 3) := by decide +kernel
theorem dX11_init_70 : decode cX11_init 70 = .ok (.aload_n 0, 1) := by decide +kernel
theorem dX11_init_71 : decode cX11_init 71 = .ok (.bipush 96, 2) := by decide +kernel
theorem dX11_init_73 : decode cX11_init 73 = .ok (.newarray .long, 2) := by decide +kernel
theorem dX11_init_75 : decode cX11_init 75 = .ok (.putfield 35, 3) := by decide +kernel
theorem dX11_init_78 : decode cX11_init 78 = .ok (.aload_n 0, 1) := by decide +kernel
theorem dX11_init_79 : decode cX11_init 79 = .ok (.bipush 96, 2) := by decide +kernel
theorem dX11_init_81 : decode cX11_init 81 = .ok (.newarray .long, 2) := by decide +kernel
theorem dX11_init_83 : decode cX11_init 83 = .ok (.putfield 39, 3) := by decide +kernel
theorem dX11_init_86 : decode cX11_init 86 = .ok (.aload_n 0, 1) := by decide +kernel
theorem dX11_init_87 : decode cX11_init 87 = .ok (.bipush 48, 2) := by decide +kernel
theorem dX11_init_89 : decode cX11_init 89 = .ok (.newarray .int, 2) := by decide +kernel
theorem dX11_init_91 : decode cX11_init 91 = .ok (.putfield 42, 3) := by decide +kernel
theorem dX11_init_94 : decode cX11_init 94 = .ok (.aload_n 0, 1) := by decide +kernel
theorem dX11_init_95 : decode cX11_init 95 = .ok (.iconst 4, 1) := by decide +kernel
theorem dX11_init_96 : decode cX11_init 96 = .ok (.newarray .int, 2) := by decide +kernel
theorem dX11_init_98 : decode cX11_init 98 = .ok (.putfield 45, 3) := by decide +kernel
theorem dX11_init_101 : decode cX11_init 101 = .ok (.aload_n 0, 1) := by decide +kernel
theorem dX11_init_102 : decode cX11_init 102 = .ok (.iconst 4, 1) := by decide +kernel
theorem dX11_init_103 : decode cX11_init 103 = .ok (.newarray .int, 2) := by decide +kernel
theorem dX11_init_105 : decode cX11_init 105 = .ok (.putfield 48, 3) := by decide +kernel
theorem dX11_init_108 : decode cX11_init 108 = .ok (.aload_n 0, 1) := by decide +kernel
theorem dX11_init_109 : decode cX11_init 109 = .ok (.sipush 160, 3) := by decide +kernel
theorem dX11_init_112 : decode cX11_init 112 = .ok (.newarray .int, 2) := by decide +kernel
theorem dX11_init_114 : decode cX11_init 114 = .ok (.putfield 51, 3) := by decide +kernel
theorem dX11_init_117 : decode cX11_init 117 = .ok (.iconst 0, 1) := by decide +kernel
theorem dX11_init_118 : decode cX11_init 118 = .ok (.istore_n 1, 1) := by decide +kernel
theorem dX11_init_119 : decode cX11_init 119 = .ok (.iload_n 1, 1) := by decide +kernel
theorem dX11_init_120 : decode cX11_init 120 = .ok (.iconst 4, 1) := by decide +kernel
theorem dX11_init_121 : decode cX11_init 121 = .ok (.if_icmp .ge 17, 3) := by decide +kernel
theorem dX11_init_124 : decode cX11_init 124 = .ok (.aload_n 0, 1) := by decide +kernel
theorem dX11_init_125 : decode cX11_init 125 = .ok (.getfield 45, 3) := by decide +kernel
theorem dX11_init_128 : decode cX11_init 128 = .ok (.iload_n 1, 1) := by decide +kernel
theorem dX11_init_129 : decode cX11_init 129 = .ok (.bipush (-4), 2) := by decide +kernel
theorem dX11_init_131 : decode cX11_init 131 = .ok (.iastore, 1) := by decide +kernel
theorem dX11_init_132 : decode cX11_init 132 = .ok (.iinc 1 1, 3) := by decide +kernel
theorem dX11_init_135 : decode cX11_init 135 = .ok (.goto (-16), 3) := by decide +kernel
theorem dX11_init_138 : decode cX11_init 138 = .ok (.aload_n 0, 1) := by decide +kernel
theorem dX11_init_139 : decode cX11_init 139 = .ok (.invokevirtual 54, 3) := by decide +kernel
theorem dX11_init_142 : decode cX11_init 142 = .ok (.aload_n 0, 1) := by decide +kernel
theorem dX11_init_143 : decode cX11_init 143 = .ok (.invokevirtual 57, 3) := by decide +kernel
theorem dX11_init_146 : decode cX11_init 146 = .ok (.return_, 1) := by decide +kernel
theorem dX11_in_0 : decode cX11_in 0 = .ok (.lload_n 0, 1) := by decide +kernel
theorem dX11_in_1 : decode cX11_in 1 = .ok (.lload_n 2, 1) := by decide +kernel
theorem dX11_in_2 : decode cX11_in 2 = .ok (.lcmp, 1) := by decide +kernel
theorem dX11_in_3 : decode cX11_in 3 = .ok (.ifCond .lt 14, 3) := by decide +kernel
theorem dX11_in_6 : decode cX11_in 6 = .ok (.lload_n 0, 1) := by decide +kernel
theorem dX11_in_7 : decode cX11_in 7 = .ok (.lload 4, 2) := by decide +kernel
theorem dX11_in_9 : decode cX11_in 9 = .ok (.lcmp, 1) := by decide +kernel
theorem dX11_in_10 : decode cX11_in 10 = .ok (.ifCond .gt 7, 3) := by decide +kernel
theorem dX11_in_13 : decode cX11_in 13 = .ok (.iconst 1, 1) := by decide +kernel
theorem dX11_in_14 : decode cX11_in 14 = .ok (.goto 4, 3) := by decide +kernel
theorem dX11_in_17 : decode cX11_in 17 = .ok (.iconst 0, 1) := by decide +kernel
theorem dX11_in_18 : decode cX11_in 18 = .ok (.ireturn, 1) := by decide +kernel
theorem dX11_flag_0 : decode cX11_flag 0 = .ok (.iload_n 0, 1) := by decide +kernel
theorem dX11_flag_1 : decode cX11_flag 1 = .ok (.ifCond .eq 7, 3) := by decide +kernel
theorem dX11_flag_4 : decode cX11_flag 4 = .ok (.iconst 1, 1) := by decide +kernel
theorem dX11_flag_5 : decode cX11_flag 5 = .ok (.goto 4, 3) := by decide +kernel
theorem dX11_flag_8 : decode cX11_flag 8 = .ok (.iconst 0, 1) := by decide +kernel
theorem dX11_flag_9 : decode cX11_flag 9 = .ok (.ireturn, 1) := by decide +kernel
theorem dX11_less_0 : decode cX11_less 0 = .ok (.iload_n 0, 1) := by decide +kernel
theorem dX11_less_1 : decode cX11_less 1 = .ok (.iload_n 1, 1) := by decide +kernel
theorem dX11_less_2 : decode cX11_less 2 = .ok (.if_icmp .ge 7, 3) := by decide +kernel
theorem dX11_less_5 : decode cX11_less 5 = .ok (.iload_n 0, 1) := by decide +kernel
theorem dX11_less_6 : decode cX11_less 6 = .ok (.goto 4, 3) := by decide +kernel
theorem dX11_less_9 : decode cX11_less 9 = .ok (.iload_n 1, 1) := by decide +kernel
theorem dX11_less_10 : decode cX11_less 10 = .ok (.ireturn, 1) := by decide +kernel
theorem dX11_firstDraft_0 : decode cX11_firstDraft 0 = .ok (.aload_n 0, 1) := by decide +kernel
theorem dX11_firstDraft_1 : decode cX11_firstDraft 1 = .ok (.iconst 0, 1) := by decide +kernel
theorem dX11_firstDraft_2 : decode cX11_firstDraft 2 = .ok (.putfield 60, 3) := by decide +kernel
theorem dX11_firstDraft_5 : decode cX11_firstDraft 5 = .ok (.iconst 0, 1) := by decide +kernel
theorem dX11_firstDraft_6 : decode cX11_firstDraft 6 = .ok (.istore_n 1, 1) := by decide +kernel
theorem dX11_firstDraft_7 : decode cX11_firstDraft 7 = .ok (.iload_n 1, 1) := by decide +kernel
theorem dX11_firstDraft_8 : decode cX11_firstDraft 8 = .ok (.bipush 96, 2) := by decide +kernel
theorem dX11_firstDraft_10 : decode cX11_firstDraft 10 = .ok (.if_icmp .ge 16, 3) := by decide +kernel
theorem dX11_firstDraft_13 : decode cX11_firstDraft 13 = .ok (.aload_n 0, 1) := by decide +kernel
theorem dX11_firstDraft_14 : decode cX11_firstDraft 14 = .ok (.getfield 26, 3) := by decide +kernel
theorem dX11_firstDraft_17 : decode cX11_firstDraft 17 = .ok (.iload_n 1, 1) := by decide +kernel
theorem dX11_firstDraft_18 : decode cX11_firstDraft 18 = .ok (.iconst 4, 1) := by decide +kernel
theorem dX11_firstDraft_19 : decode cX11_firstDraft 19 = .ok (.iastore, 1) := by decide +kernel
theorem dX11_firstDraft_20 : decode cX11_firstDraft 20 = .ok (.iinc 1 1, 3) := by decide +kernel
theorem dX11_firstDraft_23 : decode cX11_firstDraft 23 = .ok (.goto (-16), 3) := by decide +kernel
theorem dX11_firstDraft_26 : decode cX11_firstDraft 26 = .ok (.iconst 0, 1) := by decide +kernel
theorem dX11_firstDraft_27 : decode cX11_firstDraft 27 = .ok (.istore_n 1, 1) := by decide +kernel
theorem dX11_firstDraft_28 : decode cX11_firstDraft 28 = .ok (.iload_n 1, 1) := by decide +kernel
theorem dX11_firstDraft_29 : decode cX11_firstDraft 29 = .ok (.bipush 9, 2) := by decide +kernel
theorem dX11_firstDraft_31 : decode cX11_firstDraft 31 = .ok (.if_icmp .ge 16, 3) := by decide +kernel
theorem dX11_firstDraft_34 : decode cX11_firstDraft 34 = .ok (.aload_n 0, 1) := by decide +kernel
theorem dX11_firstDraft_35 : decode cX11_firstDraft 35 = .ok (.getfield 23, 3) := by decide +kernel
theorem dX11_firstDraft_38 : decode cX11_firstDraft 38 = .ok (.iload_n 1, 1) := by decide +kernel
theorem dX11_firstDraft_39 : decode cX11_firstDraft 39 = .ok (.iconst 0, 1) := by decide +kernel
theorem dX11_firstDraft_40 : decode cX11_firstDraft 40 = .ok (.bastore, 1) := by decide +kernel
theorem dX11_firstDraft_41 : decode cX11_firstDraft 41 = .ok (.iinc 1 1, 3) := by decide +kernel
theorem dX11_firstDraft_44 : decode cX11_firstDraft 44 = .ok (.goto (-16), 3) := by decide +kernel
theorem dX11_firstDraft_47 : decode cX11_firstDraft 47 = .ok (.aload_n 0, 1) := by decide +kernel
theorem dX11_firstDraft_48 : decode cX11_firstDraft 48 = .ok (.getfield 20, 3) := by decide +kernel
theorem dX11_firstDraft_51 : decode cX11_firstDraft 51 = .ok (.iconst 0, 1) := by decide +kernel
theorem dX11_firstDraft_52 : decode cX11_firstDraft 52 = .ok (.bipush 60, 2) := by decide +kernel
theorem dX11_firstDraft_54 : decode cX11_firstDraft 54 = .ok (.iastore, 1) := by decide +kernel
theorem dX11_firstDraft_55 : decode cX11_firstDraft 55 = .ok (.aload_n 0, 1) := by decide +kernel
theorem dX11_firstDraft_56 : decode cX11_firstDraft 56 = .ok (.getfield 20, 3) := by decide +kernel
theorem dX11_firstDraft_59 : decode cX11_firstDraft 59 = .ok (.iconst 1, 1) := by decide +kernel
theorem dX11_firstDraft_60 : decode cX11_firstDraft 60 = .ok (.bipush 40, 2) := by decide +kernel
theorem dX11_firstDraft_62 : decode cX11_firstDraft 62 = .ok (.iastore, 1) := by decide +kernel
theorem dX11_firstDraft_63 : decode cX11_firstDraft 63 = .ok (.aload_n 0, 1) := by decide +kernel
theorem dX11_firstDraft_64 : decode cX11_firstDraft 64 = .ok (.getfield 20, 3) := by decide +kernel
theorem dX11_firstDraft_67 : decode cX11_firstDraft 67 = .ok (.iconst 2, 1) := by decide +kernel
theorem dX11_firstDraft_68 : decode cX11_firstDraft 68 = .ok (.iconst 1, 1) := by decide +kernel
theorem dX11_firstDraft_69 : decode cX11_firstDraft 69 = .ok (.iastore, 1) := by decide +kernel
theorem dX11_firstDraft_70 : decode cX11_firstDraft 70 = .ok (.aload_n 0, 1) := by decide +kernel
theorem dX11_firstDraft_71 : decode cX11_firstDraft 71 = .ok (.getfield 20, 3) := by decide +kernel
theorem dX11_firstDraft_74 : decode cX11_firstDraft 74 = .ok (.iconst 3, 1) := by decide +kernel
theorem dX11_firstDraft_75 : decode cX11_firstDraft 75 = .ok (.bipush 60, 2) := by decide +kernel
theorem dX11_firstDraft_77 : decode cX11_firstDraft 77 = .ok (.iastore, 1) := by decide +kernel
theorem dX11_firstDraft_78 : decode cX11_firstDraft 78 = .ok (.aload_n 0, 1) := by decide +kernel
theorem dX11_firstDraft_79 : decode cX11_firstDraft 79 = .ok (.getfield 20, 3) := by decide +kernel
theorem dX11_firstDraft_82 : decode cX11_firstDraft 82 = .ok (.iconst 4, 1) := by decide +kernel
theorem dX11_firstDraft_83 : decode cX11_firstDraft 83 = .ok (.iconst 0, 1) := by decide +kernel
theorem dX11_firstDraft_84 : decode cX11_firstDraft 84 = .ok (.iastore, 1) := by decide +kernel
theorem dX11_firstDraft_85 : decode cX11_firstDraft 85 = .ok (.aload_n 0, 1) := by decide +kernel
theorem dX11_firstDraft_86 : decode cX11_firstDraft 86 = .ok (.getfield 20, 3) := by decide +kernel
theorem dX11_firstDraft_89 : decode cX11_firstDraft 89 = .ok (.iconst 5, 1) := by decide +kernel
theorem dX11_firstDraft_90 : decode cX11_firstDraft 90 = .ok (.bipush 40, 2) := by decide +kernel
theorem dX11_firstDraft_92 : decode cX11_firstDraft 92 = .ok (.iastore, 1) := by decide +kernel
theorem dX11_firstDraft_93 : decode cX11_firstDraft 93 = .ok (.aload_n 0, 1) := by decide +kernel
theorem dX11_firstDraft_94 : decode cX11_firstDraft 94 = .ok (.getfield 20, 3) := by decide +kernel
theorem dX11_firstDraft_97 : decode cX11_firstDraft 97 = .ok (.bipush 6, 2) := by decide +kernel
theorem dX11_firstDraft_99 : decode cX11_firstDraft 99 = .ok (.bipush 10, 2) := by decide +kernel
theorem dX11_firstDraft_101 : decode cX11_firstDraft 101 = .ok (.iastore, 1) := by decide +kernel
theorem dX11_firstDraft_102 : decode cX11_firstDraft 102 = .ok (.aload_n 0, 1) := by decide +kernel
theorem dX11_firstDraft_103 : decode cX11_firstDraft 103 = .ok (.getfield 20, 3) := by decide +kernel
theorem dX11_firstDraft_106 : decode cX11_firstDraft 106 = .ok (.bipush 7, 2) := by decide +kernel
theorem dX11_firstDraft_108 : decode cX11_firstDraft 108 = .ok (.iconst 3, 1) := by decide +kernel
theorem dX11_firstDraft_109 : decode cX11_firstDraft 109 = .ok (.iastore, 1) := by decide +kernel
theorem dX11_firstDraft_110 : decode cX11_firstDraft 110 = .ok (.aload_n 0, 1) := by decide +kernel
theorem dX11_firstDraft_111 : decode cX11_firstDraft 111 = .ok (.getfield 20, 3) := by decide +kernel
theorem dX11_firstDraft_114 : decode cX11_firstDraft 114 = .ok (.bipush 8, 2) := by decide +kernel
theorem dX11_firstDraft_116 : decode cX11_firstDraft 116 = .ok (.iconst 0, 1) := by decide +kernel
theorem dX11_firstDraft_117 : decode cX11_firstDraft 117 = .ok (.iastore, 1) := by decide +kernel
theorem dX11_firstDraft_118 : decode cX11_firstDraft 118 = .ok (.return_, 1) := by decide +kernel
theorem dX11_keepDraft_0 : decode cX11_keepDraft 0 = .ok (.aload_n 0, 1) := by decide +kernel
theorem dX11_keepDraft_1 : decode cX11_keepDraft 1 = .ok (.getfield 7, 3) := by decide +kernel
theorem dX11_keepDraft_4 : decode cX11_keepDraft 4 = .ok (.sipush 175, 3) := by decide +kernel
theorem dX11_keepDraft_7 : decode cX11_keepDraft 7 = .ok (.iaload, 1) := by decide +kernel
theorem dX11_keepDraft_8 : decode cX11_keepDraft 8 = .ok (.istore_n 1, 1) := by decide +kernel
theorem dX11_keepDraft_9 : decode cX11_keepDraft 9 = .ok (.iconst 0, 1) := by decide +kernel
theorem dX11_keepDraft_10 : decode cX11_keepDraft 10 = .ok (.istore_n 2, 1) := by decide +kernel
theorem dX11_keepDraft_11 : decode cX11_keepDraft 11 = .ok (.iload_n 2, 1) := by decide +kernel
theorem dX11_keepDraft_12 : decode cX11_keepDraft 12 = .ok (.sipush 192, 3) := by decide +kernel
theorem dX11_keepDraft_15 : decode cX11_keepDraft 15 = .ok (.if_icmp .ge 31, 3) := by decide +kernel
theorem dX11_keepDraft_18 : decode cX11_keepDraft 18 = .ok (.aload_n 0, 1) := by decide +kernel
theorem dX11_keepDraft_19 : decode cX11_keepDraft 19 = .ok (.getfield 7, 3) := by decide +kernel
theorem dX11_keepDraft_22 : decode cX11_keepDraft 22 = .ok (.iload_n 2, 1) := by decide +kernel
theorem dX11_keepDraft_23 : decode cX11_keepDraft 23 = .ok (.iload_n 2, 1) := by decide +kernel
theorem dX11_keepDraft_24 : decode cX11_keepDraft 24 = .ok (.bipush 96, 2) := by decide +kernel
theorem dX11_keepDraft_26 : decode cX11_keepDraft 26 = .ok (.if_icmp .ge 12, 3) := by decide +kernel
theorem dX11_keepDraft_29 : decode cX11_keepDraft 29 = .ok (.aload_n 0, 1) := by decide +kernel
theorem dX11_keepDraft_30 : decode cX11_keepDraft 30 = .ok (.getfield 26, 3) := by decide +kernel
theorem dX11_keepDraft_33 : decode cX11_keepDraft 33 = .ok (.iload_n 2, 1) := by decide +kernel
theorem dX11_keepDraft_34 : decode cX11_keepDraft 34 = .ok (.iaload, 1) := by decide +kernel
theorem dX11_keepDraft_35 : decode cX11_keepDraft 35 = .ok (.goto 4, 3) := by decide +kernel
theorem dX11_keepDraft_38 : decode cX11_keepDraft 38 = .ok (.iconst 0, 1) := by decide +kernel
theorem dX11_keepDraft_39 : decode cX11_keepDraft 39 = .ok (.iastore, 1) := by decide +kernel
theorem dX11_keepDraft_40 : decode cX11_keepDraft 40 = .ok (.iinc 2 1, 3) := by decide +kernel
theorem dX11_keepDraft_43 : decode cX11_keepDraft 43 = .ok (.goto (-32), 3) := by decide +kernel
theorem dX11_keepDraft_46 : decode cX11_keepDraft 46 = .ok (.aload_n 0, 1) := by decide +kernel
theorem dX11_keepDraft_47 : decode cX11_keepDraft 47 = .ok (.getfield 7, 3) := by decide +kernel
theorem dX11_keepDraft_50 : decode cX11_keepDraft 50 = .ok (.sipush 175, 3) := by decide +kernel
theorem dX11_keepDraft_53 : decode cX11_keepDraft 53 = .ok (.iload_n 1, 1) := by decide +kernel
theorem dX11_keepDraft_54 : decode cX11_keepDraft 54 = .ok (.iastore, 1) := by decide +kernel
theorem dX11_keepDraft_55 : decode cX11_keepDraft 55 = .ok (.iconst 0, 1) := by decide +kernel
theorem dX11_keepDraft_56 : decode cX11_keepDraft 56 = .ok (.istore_n 2, 1) := by decide +kernel
theorem dX11_keepDraft_57 : decode cX11_keepDraft 57 = .ok (.iload_n 2, 1) := by decide +kernel
theorem dX11_keepDraft_58 : decode cX11_keepDraft 58 = .ok (.bipush 9, 2) := by decide +kernel
theorem dX11_keepDraft_60 : decode cX11_keepDraft 60 = .ok (.if_icmp .ge 21, 3) := by decide +kernel
theorem dX11_keepDraft_63 : decode cX11_keepDraft 63 = .ok (.aload_n 0, 1) := by decide +kernel
theorem dX11_keepDraft_64 : decode cX11_keepDraft 64 = .ok (.getfield 17, 3) := by decide +kernel
theorem dX11_keepDraft_67 : decode cX11_keepDraft 67 = .ok (.iload_n 2, 1) := by decide +kernel
theorem dX11_keepDraft_68 : decode cX11_keepDraft 68 = .ok (.aload_n 0, 1) := by decide +kernel
theorem dX11_keepDraft_69 : decode cX11_keepDraft 69 = .ok (.getfield 20, 3) := by decide +kernel
theorem dX11_keepDraft_72 : decode cX11_keepDraft 72 = .ok (.iload_n 2, 1) := by decide +kernel
theorem dX11_keepDraft_73 : decode cX11_keepDraft 73 = .ok (.iaload, 1) := by decide +kernel
theorem dX11_keepDraft_74 : decode cX11_keepDraft 74 = .ok (.iastore, 1) := by decide +kernel
theorem dX11_keepDraft_75 : decode cX11_keepDraft 75 = .ok (.iinc 2 1, 3) := by decide +kernel
theorem dX11_keepDraft_78 : decode cX11_keepDraft 78 = .ok (.goto (-21), 3) := by decide +kernel
theorem dX11_keepDraft_81 : decode cX11_keepDraft 81 = .ok (.aload_n 0, 1) := by decide +kernel
theorem dX11_keepDraft_82 : decode cX11_keepDraft 82 = .ok (.iconst 0, 1) := by decide +kernel
theorem dX11_keepDraft_83 : decode cX11_keepDraft 83 = .ok (.putfield 64, 3) := by decide +kernel
theorem dX11_keepDraft_86 : decode cX11_keepDraft 86 = .ok (.aload_n 0, 1) := by decide +kernel
theorem dX11_keepDraft_87 : decode cX11_keepDraft 87 = .ok (.getfield 13, 3) := by decide +kernel
theorem dX11_keepDraft_90 : decode cX11_keepDraft 90 = .ok (.iconst 0, 1) := by decide +kernel
theorem dX11_keepDraft_91 : decode cX11_keepDraft 91 = .ok (.iconst 0, 1) := by decide +kernel
theorem dX11_keepDraft_92 : decode cX11_keepDraft 92 = .ok (.bastore, 1) := by decide +kernel
theorem dX11_keepDraft_93 : decode cX11_keepDraft 93 = .ok (.aload_n 0, 1) := by decide +kernel
theorem dX11_keepDraft_94 : decode cX11_keepDraft 94 = .ok (.getfield 13, 3) := by decide +kernel
theorem dX11_keepDraft_97 : decode cX11_keepDraft 97 = .ok (.iconst 1, 1) := by decide +kernel
theorem dX11_keepDraft_98 : decode cX11_keepDraft 98 = .ok (.iconst 0, 1) := by decide +kernel
theorem dX11_keepDraft_99 : decode cX11_keepDraft 99 = .ok (.bastore, 1) := by decide +kernel
theorem dX11_keepDraft_100 : decode cX11_keepDraft 100 = .ok (.return_, 1) := by decide +kernel
theorem dX11_feed_0 : decode cX11_feed 0 = .ok (.aload_n 0, 1) := by decide +kernel
theorem dX11_feed_1 : decode cX11_feed 1 = .ok (.getfield 67, 3) := by decide +kernel
theorem dX11_feed_4 : decode cX11_feed 4 = .ok (.bipush 8, 2) := by decide +kernel
theorem dX11_feed_6 : decode cX11_feed 6 = .ok (.iadd, 1) := by decide +kernel
theorem dX11_feed_7 : decode cX11_feed 7 = .ok (.sipush 320, 3) := by decide +kernel
theorem dX11_feed_10 : decode cX11_feed 10 = .ok (.if_icmp .le 6, 3) := by decide +kernel
theorem dX11_feed_13 : decode cX11_feed 13 = .ok (.bipush (-3), 2) := by decide +kernel
theorem dX11_feed_15 : decode cX11_feed 15 = .ok (.ireturn, 1) := by decide +kernel
theorem dX11_feed_16 : decode cX11_feed 16 = .ok (.bipush 56, 2) := by decide +kernel
theorem dX11_feed_18 : decode cX11_feed 18 = .ok (.istore_n 3, 1) := by decide +kernel
theorem dX11_feed_19 : decode cX11_feed 19 = .ok (.iload_n 3, 1) := by decide +kernel
theorem dX11_feed_20 : decode cX11_feed 20 = .ok (.ifCond .lt 36, 3) := by decide +kernel
theorem dX11_feed_23 : decode cX11_feed 23 = .ok (.aload_n 0, 1) := by decide +kernel
theorem dX11_feed_24 : decode cX11_feed 24 = .ok (.getfield 29, 3) := by decide +kernel
theorem dX11_feed_27 : decode cX11_feed 27 = .ok (.aload_n 0, 1) := by decide +kernel
theorem dX11_feed_28 : decode cX11_feed 28 = .ok (.getfield 67, 3) := by decide +kernel
theorem dX11_feed_31 : decode cX11_feed 31 = .ok (.lload_n 1, 1) := by decide +kernel
theorem dX11_feed_32 : decode cX11_feed 32 = .ok (.iload_n 3, 1) := by decide +kernel
theorem dX11_feed_33 : decode cX11_feed 33 = .ok (.lshr, 1) := by decide +kernel
theorem dX11_feed_34 : decode cX11_feed 34 = .ok (.ldc2_w 70, 3) := by decide +kernel
theorem dX11_feed_37 : decode cX11_feed 37 = .ok (.land, 1) := by decide +kernel
theorem dX11_feed_38 : decode cX11_feed 38 = .ok (.l2i, 1) := by decide +kernel
theorem dX11_feed_39 : decode cX11_feed 39 = .ok (.iastore, 1) := by decide +kernel
theorem dX11_feed_40 : decode cX11_feed 40 = .ok (.aload_n 0, 1) := by decide +kernel
theorem dX11_feed_41 : decode cX11_feed 41 = .ok (.dup, 1) := by decide +kernel
theorem dX11_feed_42 : decode cX11_feed 42 = .ok (.getfield 67, 3) := by decide +kernel
theorem dX11_feed_45 : decode cX11_feed 45 = .ok (.iconst 1, 1) := by decide +kernel
theorem dX11_feed_46 : decode cX11_feed 46 = .ok (.iadd, 1) := by decide +kernel
theorem dX11_feed_47 : decode cX11_feed 47 = .ok (.putfield 67, 3) := by decide +kernel
theorem dX11_feed_50 : decode cX11_feed 50 = .ok (.iinc 3 (-8), 3) := by decide +kernel
theorem dX11_feed_53 : decode cX11_feed 53 = .ok (.goto (-34), 3) := by decide +kernel
theorem dX11_feed_56 : decode cX11_feed 56 = .ok (.aload_n 0, 1) := by decide +kernel
theorem dX11_feed_57 : decode cX11_feed 57 = .ok (.getfield 67, 3) := by decide +kernel
theorem dX11_feed_60 : decode cX11_feed 60 = .ok (.ireturn, 1) := by decide +kernel
theorem dX11_end_0 : decode cX11_end 0 = .ok (.iload_n 1, 1) := by decide +kernel
theorem dX11_end_1 : decode cX11_end 1 = .ok (.i2l, 1) := by decide +kernel
theorem dX11_end_2 : decode cX11_end 2 = .ok (.lconst 0, 1) := by decide +kernel
theorem dX11_end_3 : decode cX11_end 3 = .ok (.aload_n 0, 1) := by decide +kernel
theorem dX11_end_4 : decode cX11_end 4 = .ok (.getfield 67, 3) := by decide +kernel
theorem dX11_end_7 : decode cX11_end 7 = .ok (.i2l, 1) := by decide +kernel
theorem dX11_end_8 : decode cX11_end 8 = .ok (.invokestatic 72, 3) := by decide +kernel
theorem dX11_end_11 : decode cX11_end 11 = .ok (.ifCond .ne 5, 3) := by decide +kernel
theorem dX11_end_14 : decode cX11_end 14 = .ok (.iconst (-1), 1) := by decide +kernel
theorem dX11_end_15 : decode cX11_end 15 = .ok (.ireturn, 1) := by decide +kernel
theorem dX11_end_16 : decode cX11_end 16 = .ok (.aload_n 0, 1) := by decide +kernel
theorem dX11_end_17 : decode cX11_end 17 = .ok (.getfield 67, 3) := by decide +kernel
theorem dX11_end_20 : decode cX11_end 20 = .ok (.istore_n 2, 1) := by decide +kernel
theorem dX11_end_21 : decode cX11_end 21 = .ok (.aload_n 0, 1) := by decide +kernel
theorem dX11_end_22 : decode cX11_end 22 = .ok (.iload_n 1, 1) := by decide +kernel
theorem dX11_end_23 : decode cX11_end 23 = .ok (.putfield 67, 3) := by decide +kernel
theorem dX11_end_26 : decode cX11_end 26 = .ok (.iload_n 2, 1) := by decide +kernel
theorem dX11_end_27 : decode cX11_end 27 = .ok (.ireturn, 1) := by decide +kernel
theorem dX11_needs_0 : decode cX11_needs 0 = .ok (.iload_n 1, 1) := by decide +kernel
theorem dX11_needs_1 : decode cX11_needs 1 = .ok (.ifCond .ne 23, 3) := by decide +kernel
theorem dX11_needs_4 : decode cX11_needs 4 = .ok (.aload_n 0, 1) := by decide +kernel
theorem dX11_needs_5 : decode cX11_needs 5 = .ok (.getfield 76, 3) := by decide +kernel
theorem dX11_needs_8 : decode cX11_needs 8 = .ok (.ifCond .ne 16, 3) := by decide +kernel
theorem dX11_needs_11 : decode cX11_needs 11 = .ok (.aload_n 0, 1) := by decide +kernel
theorem dX11_needs_12 : decode cX11_needs 12 = .ok (.iload_n 2, 1) := by decide +kernel
theorem dX11_needs_13 : decode cX11_needs 13 = .ok (.putfield 76, 3) := by decide +kernel
theorem dX11_needs_16 : decode cX11_needs 16 = .ok (.aload_n 0, 1) := by decide +kernel
theorem dX11_needs_17 : decode cX11_needs 17 = .ok (.aload_n 0, 1) := by decide +kernel
theorem dX11_needs_18 : decode cX11_needs 18 = .ok (.getfield 79, 3) := by decide +kernel
theorem dX11_needs_21 : decode cX11_needs 21 = .ok (.putfield 82, 3) := by decide +kernel
theorem dX11_needs_24 : decode cX11_needs 24 = .ok (.return_, 1) := by decide +kernel
theorem dX11_look_0 : decode cX11_look 0 = .ok (.iload_n 1, 1) := by decide +kernel
theorem dX11_look_1 : decode cX11_look 1 = .ok (.aload_n 0, 1) := by decide +kernel
theorem dX11_look_2 : decode cX11_look 2 = .ok (.getfield 67, 3) := by decide +kernel
theorem dX11_look_5 : decode cX11_look 5 = .ok (.if_icmp .ge 12, 3) := by decide +kernel
theorem dX11_look_8 : decode cX11_look 8 = .ok (.aload_n 0, 1) := by decide +kernel
theorem dX11_look_9 : decode cX11_look 9 = .ok (.getfield 29, 3) := by decide +kernel
theorem dX11_look_12 : decode cX11_look 12 = .ok (.iload_n 1, 1) := by decide +kernel
theorem dX11_look_13 : decode cX11_look 13 = .ok (.iaload, 1) := by decide +kernel
theorem dX11_look_14 : decode cX11_look 14 = .ok (.goto 4, 3) := by decide +kernel
theorem dX11_look_17 : decode cX11_look 17 = .ok (.iconst (-1), 1) := by decide +kernel
theorem dX11_look_18 : decode cX11_look 18 = .ok (.ireturn, 1) := by decide +kernel
theorem dX11_starts_0 : decode cX11_starts 0 = .ok (.aload_n 0, 1) := by decide +kernel
theorem dX11_starts_1 : decode cX11_starts 1 = .ok (.getfield 85, 3) := by decide +kernel
theorem dX11_starts_4 : decode cX11_starts 4 = .ok (.aload_n 0, 1) := by decide +kernel
theorem dX11_starts_5 : decode cX11_starts 5 = .ok (.getfield 79, 3) := by decide +kernel
theorem dX11_starts_8 : decode cX11_starts 8 = .ok (.isub, 1) := by decide +kernel
theorem dX11_starts_9 : decode cX11_starts 9 = .ok (.iload_n 1, 1) := by decide +kernel
theorem dX11_starts_10 : decode cX11_starts 10 = .ok (.if_icmp .ne 73, 3) := by decide +kernel
theorem dX11_starts_13 : decode cX11_starts 13 = .ok (.aload_n 0, 1) := by decide +kernel
theorem dX11_starts_14 : decode cX11_starts 14 = .ok (.aload_n 0, 1) := by decide +kernel
theorem dX11_starts_15 : decode cX11_starts 15 = .ok (.getfield 79, 3) := by decide +kernel
theorem dX11_starts_18 : decode cX11_starts 18 = .ok (.invokevirtual 88, 3) := by decide +kernel
theorem dX11_starts_21 : decode cX11_starts 21 = .ok (.iload_n 2, 1) := by decide +kernel
theorem dX11_starts_22 : decode cX11_starts 22 = .ok (.if_icmp .ne 61, 3) := by decide +kernel
theorem dX11_starts_25 : decode cX11_starts 25 = .ok (.aload_n 0, 1) := by decide +kernel
theorem dX11_starts_26 : decode cX11_starts 26 = .ok (.aload_n 0, 1) := by decide +kernel
theorem dX11_starts_27 : decode cX11_starts 27 = .ok (.getfield 79, 3) := by decide +kernel
theorem dX11_starts_30 : decode cX11_starts 30 = .ok (.iconst 1, 1) := by decide +kernel
theorem dX11_starts_31 : decode cX11_starts 31 = .ok (.iadd, 1) := by decide +kernel
theorem dX11_starts_32 : decode cX11_starts 32 = .ok (.invokevirtual 88, 3) := by decide +kernel
theorem dX11_starts_35 : decode cX11_starts 35 = .ok (.iload_n 3, 1) := by decide +kernel
theorem dX11_starts_36 : decode cX11_starts 36 = .ok (.if_icmp .ne 47, 3) := by decide +kernel
theorem dX11_starts_39 : decode cX11_starts 39 = .ok (.iload_n 1, 1) := by decide +kernel
theorem dX11_starts_40 : decode cX11_starts 40 = .ok (.iconst 3, 1) := by decide +kernel
theorem dX11_starts_41 : decode cX11_starts 41 = .ok (.if_icmp .lt 18, 3) := by decide +kernel
theorem dX11_starts_44 : decode cX11_starts 44 = .ok (.aload_n 0, 1) := by decide +kernel
theorem dX11_starts_45 : decode cX11_starts 45 = .ok (.aload_n 0, 1) := by decide +kernel
theorem dX11_starts_46 : decode cX11_starts 46 = .ok (.getfield 79, 3) := by decide +kernel
theorem dX11_starts_49 : decode cX11_starts 49 = .ok (.iconst 2, 1) := by decide +kernel
theorem dX11_starts_50 : decode cX11_starts 50 = .ok (.iadd, 1) := by decide +kernel
theorem dX11_starts_51 : decode cX11_starts 51 = .ok (.invokevirtual 88, 3) := by decide +kernel
theorem dX11_starts_54 : decode cX11_starts 54 = .ok (.iload 4, 2) := by decide +kernel
theorem dX11_starts_56 : decode cX11_starts 56 = .ok (.if_icmp .ne 27, 3) := by decide +kernel
theorem dX11_starts_59 : decode cX11_starts 59 = .ok (.iload_n 1, 1) := by decide +kernel
theorem dX11_starts_60 : decode cX11_starts 60 = .ok (.iconst 4, 1) := by decide +kernel
theorem dX11_starts_61 : decode cX11_starts 61 = .ok (.if_icmp .lt 18, 3) := by decide +kernel
theorem dX11_starts_64 : decode cX11_starts 64 = .ok (.aload_n 0, 1) := by decide +kernel
theorem dX11_starts_65 : decode cX11_starts 65 = .ok (.aload_n 0, 1) := by decide +kernel
theorem dX11_starts_66 : decode cX11_starts 66 = .ok (.getfield 79, 3) := by decide +kernel
theorem dX11_starts_69 : decode cX11_starts 69 = .ok (.iconst 3, 1) := by decide +kernel
theorem dX11_starts_70 : decode cX11_starts 70 = .ok (.iadd, 1) := by decide +kernel
theorem dX11_starts_71 : decode cX11_starts 71 = .ok (.invokevirtual 88, 3) := by decide +kernel
theorem dX11_starts_74 : decode cX11_starts 74 = .ok (.iload 5, 2) := by decide +kernel
theorem dX11_starts_76 : decode cX11_starts 76 = .ok (.if_icmp .ne 7, 3) := by decide +kernel
theorem dX11_starts_79 : decode cX11_starts 79 = .ok (.iconst 1, 1) := by decide +kernel
theorem dX11_starts_80 : decode cX11_starts 80 = .ok (.goto 4, 3) := by decide +kernel
theorem dX11_starts_83 : decode cX11_starts 83 = .ok (.iconst 0, 1) := by decide +kernel
theorem dX11_starts_84 : decode cX11_starts 84 = .ok (.ireturn, 1) := by decide +kernel
theorem dX11_nameNow_0 : decode cX11_nameNow 0 = .ok (.aload_n 0, 1) := by decide +kernel
theorem dX11_nameNow_1 : decode cX11_nameNow 1 = .ok (.iconst 3, 1) := by decide +kernel
theorem dX11_nameNow_2 : decode cX11_nameNow 2 = .ok (.bipush 114, 2) := by decide +kernel
theorem dX11_nameNow_4 : decode cX11_nameNow 4 = .ok (.bipush 111, 2) := by decide +kernel
theorem dX11_nameNow_6 : decode cX11_nameNow 6 = .ok (.bipush 119, 2) := by decide +kernel
theorem dX11_nameNow_8 : decode cX11_nameNow 8 = .ok (.iconst 0, 1) := by decide +kernel
theorem dX11_nameNow_9 : decode cX11_nameNow 9 = .ok (.invokevirtual 92, 3) := by decide +kernel
theorem dX11_nameNow_12 : decode cX11_nameNow 12 = .ok (.ifCond .eq 6, 3) := by decide +kernel
theorem dX11_nameNow_15 : decode cX11_nameNow 15 = .ok (.bipush 20, 2) := by decide +kernel
theorem dX11_nameNow_17 : decode cX11_nameNow 17 = .ok (.ireturn, 1) := by decide +kernel
theorem dX11_nameNow_18 : decode cX11_nameNow 18 = .ok (.aload_n 0, 1) := by decide +kernel
theorem dX11_nameNow_19 : decode cX11_nameNow 19 = .ok (.iconst 2, 1) := by decide +kernel
theorem dX11_nameNow_20 : decode cX11_nameNow 20 = .ok (.bipush 117, 2) := by decide +kernel
theorem dX11_nameNow_22 : decode cX11_nameNow 22 = .ok (.bipush 112, 2) := by decide +kernel
theorem dX11_nameNow_24 : decode cX11_nameNow 24 = .ok (.iconst 0, 1) := by decide +kernel
theorem dX11_nameNow_25 : decode cX11_nameNow 25 = .ok (.iconst 0, 1) := by decide +kernel
theorem dX11_nameNow_26 : decode cX11_nameNow 26 = .ok (.invokevirtual 92, 3) := by decide +kernel
theorem dX11_nameNow_29 : decode cX11_nameNow 29 = .ok (.ifCond .eq 5, 3) := by decide +kernel
theorem dX11_nameNow_32 : decode cX11_nameNow 32 = .ok (.iconst 0, 1) := by decide +kernel
theorem dX11_nameNow_33 : decode cX11_nameNow 33 = .ok (.ireturn, 1) := by decide +kernel
theorem dX11_nameNow_34 : decode cX11_nameNow 34 = .ok (.aload_n 0, 1) := by decide +kernel
theorem dX11_nameNow_35 : decode cX11_nameNow 35 = .ok (.iconst 4, 1) := by decide +kernel
theorem dX11_nameNow_36 : decode cX11_nameNow 36 = .ok (.bipush 100, 2) := by decide +kernel
theorem dX11_nameNow_38 : decode cX11_nameNow 38 = .ok (.bipush 111, 2) := by decide +kernel
theorem dX11_nameNow_40 : decode cX11_nameNow 40 = .ok (.bipush 119, 2) := by decide +kernel
theorem dX11_nameNow_42 : decode cX11_nameNow 42 = .ok (.bipush 110, 2) := by decide +kernel
theorem dX11_nameNow_44 : decode cX11_nameNow 44 = .ok (.invokevirtual 92, 3) := by decide +kernel
theorem dX11_nameNow_47 : decode cX11_nameNow 47 = .ok (.ifCond .eq 5, 3) := by decide +kernel
theorem dX11_nameNow_50 : decode cX11_nameNow 50 = .ok (.iconst 1, 1) := by decide +kernel
theorem dX11_nameNow_51 : decode cX11_nameNow 51 = .ok (.ireturn, 1) := by decide +kernel
theorem dX11_nameNow_52 : decode cX11_nameNow 52 = .ok (.aload_n 0, 1) := by decide +kernel
theorem dX11_nameNow_53 : decode cX11_nameNow 53 = .ok (.iconst 5, 1) := by decide +kernel
theorem dX11_nameNow_54 : decode cX11_nameNow 54 = .ok (.bipush 116, 2) := by decide +kernel
theorem dX11_nameNow_56 : decode cX11_nameNow 56 = .ok (.bipush 101, 2) := by decide +kernel
theorem dX11_nameNow_58 : decode cX11_nameNow 58 = .ok (.bipush 101, 2) := by decide +kernel
theorem dX11_nameNow_60 : decode cX11_nameNow 60 = .ok (.bipush 116, 2) := by decide +kernel
theorem dX11_nameNow_62 : decode cX11_nameNow 62 = .ok (.invokevirtual 92, 3) := by decide +kernel
theorem dX11_nameNow_65 : decode cX11_nameNow 65 = .ok (.ifCond .eq 20, 3) := by decide +kernel
theorem dX11_nameNow_68 : decode cX11_nameNow 68 = .ok (.aload_n 0, 1) := by decide +kernel
theorem dX11_nameNow_69 : decode cX11_nameNow 69 = .ok (.aload_n 0, 1) := by decide +kernel
theorem dX11_nameNow_70 : decode cX11_nameNow 70 = .ok (.getfield 79, 3) := by decide +kernel
theorem dX11_nameNow_73 : decode cX11_nameNow 73 = .ok (.iconst 4, 1) := by decide +kernel
theorem dX11_nameNow_74 : decode cX11_nameNow 74 = .ok (.iadd, 1) := by decide +kernel
theorem dX11_nameNow_75 : decode cX11_nameNow 75 = .ok (.invokevirtual 88, 3) := by decide +kernel
theorem dX11_nameNow_78 : decode cX11_nameNow 78 = .ok (.bipush 104, 2) := by decide +kernel
theorem dX11_nameNow_80 : decode cX11_nameNow 80 = .ok (.if_icmp .ne 5, 3) := by decide +kernel
theorem dX11_nameNow_83 : decode cX11_nameNow 83 = .ok (.iconst 2, 1) := by decide +kernel
theorem dX11_nameNow_84 : decode cX11_nameNow 84 = .ok (.ireturn, 1) := by decide +kernel
theorem dX11_nameNow_85 : decode cX11_nameNow 85 = .ok (.aload_n 0, 1) := by decide +kernel
theorem dX11_nameNow_86 : decode cX11_nameNow 86 = .ok (.iconst 4, 1) := by decide +kernel
theorem dX11_nameNow_87 : decode cX11_nameNow 87 = .ok (.bipush 108, 2) := by decide +kernel
theorem dX11_nameNow_89 : decode cX11_nameNow 89 = .ok (.bipush 101, 2) := by decide +kernel
theorem dX11_nameNow_91 : decode cX11_nameNow 91 = .ok (.bipush 97, 2) := by decide +kernel
theorem dX11_nameNow_93 : decode cX11_nameNow 93 = .ok (.bipush 112, 2) := by decide +kernel
theorem dX11_nameNow_95 : decode cX11_nameNow 95 = .ok (.invokevirtual 92, 3) := by decide +kernel
theorem dX11_nameNow_98 : decode cX11_nameNow 98 = .ok (.ifCond .eq 5, 3) := by decide +kernel
theorem dX11_nameNow_101 : decode cX11_nameNow 101 = .ok (.iconst 4, 1) := by decide +kernel
theorem dX11_nameNow_102 : decode cX11_nameNow 102 = .ok (.ireturn, 1) := by decide +kernel
theorem dX11_nameNow_103 : decode cX11_nameNow 103 = .ok (.aload_n 0, 1) := by decide +kernel
theorem dX11_nameNow_104 : decode cX11_nameNow 104 = .ok (.bipush 7, 2) := by decide +kernel
theorem dX11_nameNow_106 : decode cX11_nameNow 106 = .ok (.bipush 99, 2) := by decide +kernel
theorem dX11_nameNow_108 : decode cX11_nameNow 108 = .ok (.bipush 104, 2) := by decide +kernel
theorem dX11_nameNow_110 : decode cX11_nameNow 110 = .ok (.bipush 105, 2) := by decide +kernel
theorem dX11_nameNow_112 : decode cX11_nameNow 112 = .ok (.bipush 109, 2) := by decide +kernel
theorem dX11_nameNow_114 : decode cX11_nameNow 114 = .ok (.invokevirtual 92, 3) := by decide +kernel
theorem dX11_nameNow_117 : decode cX11_nameNow 117 = .ok (.ifCond .eq 51, 3) := by decide +kernel
theorem dX11_nameNow_120 : decode cX11_nameNow 120 = .ok (.aload_n 0, 1) := by decide +kernel
theorem dX11_nameNow_121 : decode cX11_nameNow 121 = .ok (.aload_n 0, 1) := by decide +kernel
theorem dX11_nameNow_122 : decode cX11_nameNow 122 = .ok (.getfield 79, 3) := by decide +kernel
theorem dX11_nameNow_125 : decode cX11_nameNow 125 = .ok (.iconst 4, 1) := by decide +kernel
theorem dX11_nameNow_126 : decode cX11_nameNow 126 = .ok (.iadd, 1) := by decide +kernel
theorem dX11_nameNow_127 : decode cX11_nameNow 127 = .ok (.invokevirtual 88, 3) := by decide +kernel
theorem dX11_nameNow_130 : decode cX11_nameNow 130 = .ok (.bipush 110, 2) := by decide +kernel
theorem dX11_nameNow_132 : decode cX11_nameNow 132 = .ok (.if_icmp .ne 36, 3) := by decide +kernel
theorem dX11_nameNow_135 : decode cX11_nameNow 135 = .ok (.aload_n 0, 1) := by decide +kernel
theorem dX11_nameNow_136 : decode cX11_nameNow 136 = .ok (.aload_n 0, 1) := by decide +kernel
theorem dX11_nameNow_137 : decode cX11_nameNow 137 = .ok (.getfield 79, 3) := by decide +kernel
theorem dX11_nameNow_140 : decode cX11_nameNow 140 = .ok (.iconst 5, 1) := by decide +kernel
theorem dX11_nameNow_141 : decode cX11_nameNow 141 = .ok (.iadd, 1) := by decide +kernel
theorem dX11_nameNow_142 : decode cX11_nameNow 142 = .ok (.invokevirtual 88, 3) := by decide +kernel
theorem dX11_nameNow_145 : decode cX11_nameNow 145 = .ok (.bipush 101, 2) := by decide +kernel
theorem dX11_nameNow_147 : decode cX11_nameNow 147 = .ok (.if_icmp .ne 21, 3) := by decide +kernel
theorem dX11_nameNow_150 : decode cX11_nameNow 150 = .ok (.aload_n 0, 1) := by decide +kernel
theorem dX11_nameNow_151 : decode cX11_nameNow 151 = .ok (.aload_n 0, 1) := by decide +kernel
theorem dX11_nameNow_152 : decode cX11_nameNow 152 = .ok (.getfield 79, 3) := by decide +kernel
theorem dX11_nameNow_155 : decode cX11_nameNow 155 = .ok (.bipush 6, 2) := by decide +kernel
theorem dX11_nameNow_157 : decode cX11_nameNow 157 = .ok (.iadd, 1) := by decide +kernel
theorem dX11_nameNow_158 : decode cX11_nameNow 158 = .ok (.invokevirtual 88, 3) := by decide +kernel
theorem dX11_nameNow_161 : decode cX11_nameNow 161 = .ok (.bipush 121, 2) := by decide +kernel
theorem dX11_nameNow_163 : decode cX11_nameNow 163 = .ok (.if_icmp .ne 5, 3) := by decide +kernel
theorem dX11_nameNow_166 : decode cX11_nameNow 166 = .ok (.iconst 5, 1) := by decide +kernel
theorem dX11_nameNow_167 : decode cX11_nameNow 167 = .ok (.ireturn, 1) := by decide +kernel
theorem dX11_nameNow_168 : decode cX11_nameNow 168 = .ok (.aload_n 0, 1) := by decide +kernel
theorem dX11_nameNow_169 : decode cX11_nameNow 169 = .ok (.iconst 4, 1) := by decide +kernel
theorem dX11_nameNow_170 : decode cX11_nameNow 170 = .ok (.bipush 104, 2) := by decide +kernel
theorem dX11_nameNow_172 : decode cX11_nameNow 172 = .ok (.bipush 105, 2) := by decide +kernel
theorem dX11_nameNow_174 : decode cX11_nameNow 174 = .ok (.bipush 115, 2) := by decide +kernel
theorem dX11_nameNow_176 : decode cX11_nameNow 176 = .ok (.bipush 115, 2) := by decide +kernel
theorem dX11_nameNow_178 : decode cX11_nameNow 178 = .ok (.invokevirtual 92, 3) := by decide +kernel
theorem dX11_nameNow_181 : decode cX11_nameNow 181 = .ok (.ifCond .eq 6, 3) := by decide +kernel
theorem dX11_nameNow_184 : decode cX11_nameNow 184 = .ok (.bipush 6, 2) := by decide +kernel
theorem dX11_nameNow_186 : decode cX11_nameNow 186 = .ok (.ireturn, 1) := by decide +kernel
theorem dX11_nameNow_187 : decode cX11_nameNow 187 = .ok (.aload_n 0, 1) := by decide +kernel
theorem dX11_nameNow_188 : decode cX11_nameNow 188 = .ok (.iconst 4, 1) := by decide +kernel
theorem dX11_nameNow_189 : decode cX11_nameNow 189 = .ok (.bipush 102, 2) := by decide +kernel
theorem dX11_nameNow_191 : decode cX11_nameNow 191 = .ok (.bipush 105, 2) := by decide +kernel
theorem dX11_nameNow_193 : decode cX11_nameNow 193 = .ok (.bipush 108, 2) := by decide +kernel
theorem dX11_nameNow_195 : decode cX11_nameNow 195 = .ok (.bipush 109, 2) := by decide +kernel
theorem dX11_nameNow_197 : decode cX11_nameNow 197 = .ok (.invokevirtual 92, 3) := by decide +kernel
theorem dX11_nameNow_200 : decode cX11_nameNow 200 = .ok (.ifCond .eq 8, 3) := by decide +kernel
theorem dX11_nameNow_203 : decode cX11_nameNow 203 = .ok (.bipush 7, 2) := by decide +kernel
theorem dX11_nameNow_205 : decode cX11_nameNow 205 = .ok (.goto 26, 3) := by decide +kernel
theorem dX11_nameNow_208 : decode cX11_nameNow 208 = .ok (.aload_n 0, 1) := by decide +kernel
theorem dX11_nameNow_209 : decode cX11_nameNow 209 = .ok (.iconst 4, 1) := by decide +kernel
theorem dX11_nameNow_210 : decode cX11_nameNow 210 = .ok (.bipush 114, 2) := by decide +kernel
theorem dX11_nameNow_212 : decode cX11_nameNow 212 = .ok (.bipush 111, 2) := by decide +kernel
theorem dX11_nameNow_214 : decode cX11_nameNow 214 = .ok (.bipush 108, 2) := by decide +kernel
theorem dX11_nameNow_216 : decode cX11_nameNow 216 = .ok (.bipush 108, 2) := by decide +kernel
theorem dX11_nameNow_218 : decode cX11_nameNow 218 = .ok (.invokevirtual 92, 3) := by decide +kernel
theorem dX11_nameNow_221 : decode cX11_nameNow 221 = .ok (.ifCond .eq 8, 3) := by decide +kernel
theorem dX11_nameNow_224 : decode cX11_nameNow 224 = .ok (.bipush 8, 2) := by decide +kernel
theorem dX11_nameNow_226 : decode cX11_nameNow 226 = .ok (.goto 5, 3) := by decide +kernel
theorem dX11_nameNow_229 : decode cX11_nameNow 229 = .ok (.bipush (-4), 2) := by decide +kernel
theorem dX11_nameNow_231 : decode cX11_nameNow 231 = .ok (.ireturn, 1) := by decide +kernel
theorem dX11_next_0 : decode cX11_next 0 = .ok (.aload_n 0, 1) := by decide +kernel
theorem dX11_next_1 : decode cX11_next 1 = .ok (.getfield 76, 3) := by decide +kernel
theorem dX11_next_4 : decode cX11_next 4 = .ok (.ifCond .le 4, 3) := by decide +kernel
theorem dX11_next_7 : decode cX11_next 7 = .ok (.return_, 1) := by decide +kernel
theorem dX11_next_8 : decode cX11_next 8 = .ok (.aload_n 0, 1) := by decide +kernel
theorem dX11_next_9 : decode cX11_next 9 = .ok (.aload_n 0, 1) := by decide +kernel
theorem dX11_next_10 : decode cX11_next 10 = .ok (.getfield 85, 3) := by decide +kernel
theorem dX11_next_13 : decode cX11_next 13 = .ok (.invokevirtual 88, 3) := by decide +kernel
theorem dX11_next_16 : decode cX11_next 16 = .ok (.bipush 32, 2) := by decide +kernel
theorem dX11_next_18 : decode cX11_next 18 = .ok (.if_icmp .ne 16, 3) := by decide +kernel
theorem dX11_next_21 : decode cX11_next 21 = .ok (.aload_n 0, 1) := by decide +kernel
theorem dX11_next_22 : decode cX11_next 22 = .ok (.dup, 1) := by decide +kernel
theorem dX11_next_23 : decode cX11_next 23 = .ok (.getfield 85, 3) := by decide +kernel
theorem dX11_next_26 : decode cX11_next 26 = .ok (.iconst 1, 1) := by decide +kernel
theorem dX11_next_27 : decode cX11_next 27 = .ok (.iadd, 1) := by decide +kernel
theorem dX11_next_28 : decode cX11_next 28 = .ok (.putfield 85, 3) := by decide +kernel
theorem dX11_next_31 : decode cX11_next 31 = .ok (.goto (-23), 3) := by decide +kernel
theorem dX11_next_34 : decode cX11_next 34 = .ok (.aload_n 0, 1) := by decide +kernel
theorem dX11_next_35 : decode cX11_next 35 = .ok (.aload_n 0, 1) := by decide +kernel
theorem dX11_next_36 : decode cX11_next 36 = .ok (.getfield 85, 3) := by decide +kernel
theorem dX11_next_39 : decode cX11_next 39 = .ok (.putfield 79, 3) := by decide +kernel
theorem dX11_next_42 : decode cX11_next 42 = .ok (.aload_n 0, 1) := by decide +kernel
theorem dX11_next_43 : decode cX11_next 43 = .ok (.aload_n 0, 1) := by decide +kernel
theorem dX11_next_44 : decode cX11_next 44 = .ok (.getfield 85, 3) := by decide +kernel
theorem dX11_next_47 : decode cX11_next 47 = .ok (.invokevirtual 88, 3) := by decide +kernel
theorem dX11_next_50 : decode cX11_next 50 = .ok (.istore_n 1, 1) := by decide +kernel
theorem dX11_next_51 : decode cX11_next 51 = .ok (.iload_n 1, 1) := by decide +kernel
theorem dX11_next_52 : decode cX11_next 52 = .ok (.ifCond .ge 11, 3) := by decide +kernel
theorem dX11_next_55 : decode cX11_next 55 = .ok (.aload_n 0, 1) := by decide +kernel
theorem dX11_next_56 : decode cX11_next 56 = .ok (.iconst 0, 1) := by decide +kernel
theorem dX11_next_57 : decode cX11_next 57 = .ok (.putfield 96, 3) := by decide +kernel
theorem dX11_next_60 : decode cX11_next 60 = .ok (.goto 214, 3) := by decide +kernel
theorem dX11_next_63 : decode cX11_next 63 = .ok (.iload_n 1, 1) := by decide +kernel
theorem dX11_next_64 : decode cX11_next 64 = .ok (.i2l, 1) := by decide +kernel
theorem dX11_next_65 : decode cX11_next 65 = .ok (.ldc2_w 99, 3) := by decide +kernel
theorem dX11_next_68 : decode cX11_next 68 = .ok (.ldc2_w 101, 3) := by decide +kernel
theorem dX11_next_71 : decode cX11_next 71 = .ok (.invokestatic 72, 3) := by decide +kernel
theorem dX11_next_74 : decode cX11_next 74 = .ok (.ifCond .eq 42, 3) := by decide +kernel
theorem dX11_next_77 : decode cX11_next 77 = .ok (.aload_n 0, 1) := by decide +kernel
theorem dX11_next_78 : decode cX11_next 78 = .ok (.iconst 1, 1) := by decide +kernel
theorem dX11_next_79 : decode cX11_next 79 = .ok (.putfield 96, 3) := by decide +kernel
theorem dX11_next_82 : decode cX11_next 82 = .ok (.aload_n 0, 1) := by decide +kernel
theorem dX11_next_83 : decode cX11_next 83 = .ok (.aload_n 0, 1) := by decide +kernel
theorem dX11_next_84 : decode cX11_next 84 = .ok (.getfield 85, 3) := by decide +kernel
theorem dX11_next_87 : decode cX11_next 87 = .ok (.invokevirtual 88, 3) := by decide +kernel
theorem dX11_next_90 : decode cX11_next 90 = .ok (.i2l, 1) := by decide +kernel
theorem dX11_next_91 : decode cX11_next 91 = .ok (.ldc2_w 99, 3) := by decide +kernel
theorem dX11_next_94 : decode cX11_next 94 = .ok (.ldc2_w 101, 3) := by decide +kernel
theorem dX11_next_97 : decode cX11_next 97 = .ok (.invokestatic 72, 3) := by decide +kernel
theorem dX11_next_100 : decode cX11_next 100 = .ok (.ifCond .eq 174, 3) := by decide +kernel
theorem dX11_next_103 : decode cX11_next 103 = .ok (.aload_n 0, 1) := by decide +kernel
theorem dX11_next_104 : decode cX11_next 104 = .ok (.dup, 1) := by decide +kernel
theorem dX11_next_105 : decode cX11_next 105 = .ok (.getfield 85, 3) := by decide +kernel
theorem dX11_next_108 : decode cX11_next 108 = .ok (.iconst 1, 1) := by decide +kernel
theorem dX11_next_109 : decode cX11_next 109 = .ok (.iadd, 1) := by decide +kernel
theorem dX11_next_110 : decode cX11_next 110 = .ok (.putfield 85, 3) := by decide +kernel
theorem dX11_next_113 : decode cX11_next 113 = .ok (.goto (-31), 3) := by decide +kernel
theorem dX11_next_116 : decode cX11_next 116 = .ok (.iload_n 1, 1) := by decide +kernel
theorem dX11_next_117 : decode cX11_next 117 = .ok (.i2l, 1) := by decide +kernel
theorem dX11_next_118 : decode cX11_next 118 = .ok (.ldc2_w 103, 3) := by decide +kernel
theorem dX11_next_121 : decode cX11_next 121 = .ok (.ldc2_w 105, 3) := by decide +kernel
theorem dX11_next_124 : decode cX11_next 124 = .ok (.invokestatic 72, 3) := by decide +kernel
theorem dX11_next_127 : decode cX11_next 127 = .ok (.ifCond .eq 116, 3) := by decide +kernel
theorem dX11_next_130 : decode cX11_next 130 = .ok (.aload_n 0, 1) := by decide +kernel
theorem dX11_next_131 : decode cX11_next 131 = .ok (.iconst 2, 1) := by decide +kernel
theorem dX11_next_132 : decode cX11_next 132 = .ok (.putfield 96, 3) := by decide +kernel
theorem dX11_next_135 : decode cX11_next 135 = .ok (.aload_n 0, 1) := by decide +kernel
theorem dX11_next_136 : decode cX11_next 136 = .ok (.iconst 0, 1) := by decide +kernel
theorem dX11_next_137 : decode cX11_next 137 = .ok (.putfield 107, 3) := by decide +kernel
theorem dX11_next_140 : decode cX11_next 140 = .ok (.aload_n 0, 1) := by decide +kernel
theorem dX11_next_141 : decode cX11_next 141 = .ok (.aload_n 0, 1) := by decide +kernel
theorem dX11_next_142 : decode cX11_next 142 = .ok (.getfield 85, 3) := by decide +kernel
theorem dX11_next_145 : decode cX11_next 145 = .ok (.invokevirtual 88, 3) := by decide +kernel
theorem dX11_next_148 : decode cX11_next 148 = .ok (.i2l, 1) := by decide +kernel
theorem dX11_next_149 : decode cX11_next 149 = .ok (.ldc2_w 103, 3) := by decide +kernel
theorem dX11_next_152 : decode cX11_next 152 = .ok (.ldc2_w 105, 3) := by decide +kernel
theorem dX11_next_155 : decode cX11_next 155 = .ok (.invokestatic 72, 3) := by decide +kernel
theorem dX11_next_158 : decode cX11_next 158 = .ok (.ifCond .eq 59, 3) := by decide +kernel
theorem dX11_next_161 : decode cX11_next 161 = .ok (.aload_n 0, 1) := by decide +kernel
theorem dX11_next_162 : decode cX11_next 162 = .ok (.aload_n 0, 1) := by decide +kernel
theorem dX11_next_163 : decode cX11_next 163 = .ok (.getfield 85, 3) := by decide +kernel
theorem dX11_next_166 : decode cX11_next 166 = .ok (.aload_n 0, 1) := by decide +kernel
theorem dX11_next_167 : decode cX11_next 167 = .ok (.getfield 79, 3) := by decide +kernel
theorem dX11_next_170 : decode cX11_next 170 = .ok (.isub, 1) := by decide +kernel
theorem dX11_next_171 : decode cX11_next 171 = .ok (.iconst 2, 1) := by decide +kernel
theorem dX11_next_172 : decode cX11_next 172 = .ok (.if_icmp .ge 25, 3) := by decide +kernel
theorem dX11_next_175 : decode cX11_next 175 = .ok (.bipush 10, 2) := by decide +kernel
theorem dX11_next_177 : decode cX11_next 177 = .ok (.aload_n 0, 1) := by decide +kernel
theorem dX11_next_178 : decode cX11_next 178 = .ok (.getfield 107, 3) := by decide +kernel
theorem dX11_next_181 : decode cX11_next 181 = .ok (.imul, 1) := by decide +kernel
theorem dX11_next_182 : decode cX11_next 182 = .ok (.aload_n 0, 1) := by decide +kernel
theorem dX11_next_183 : decode cX11_next 183 = .ok (.aload_n 0, 1) := by decide +kernel
theorem dX11_next_184 : decode cX11_next 184 = .ok (.getfield 85, 3) := by decide +kernel
theorem dX11_next_187 : decode cX11_next 187 = .ok (.invokevirtual 88, 3) := by decide +kernel
theorem dX11_next_190 : decode cX11_next 190 = .ok (.iadd, 1) := by decide +kernel
theorem dX11_next_191 : decode cX11_next 191 = .ok (.bipush 48, 2) := by decide +kernel
theorem dX11_next_193 : decode cX11_next 193 = .ok (.isub, 1) := by decide +kernel
theorem dX11_next_194 : decode cX11_next 194 = .ok (.goto 7, 3) := by decide +kernel
theorem dX11_next_197 : decode cX11_next 197 = .ok (.aload_n 0, 1) := by decide +kernel
theorem dX11_next_198 : decode cX11_next 198 = .ok (.getfield 107, 3) := by decide +kernel
theorem dX11_next_201 : decode cX11_next 201 = .ok (.putfield 107, 3) := by decide +kernel
theorem dX11_next_204 : decode cX11_next 204 = .ok (.aload_n 0, 1) := by decide +kernel
theorem dX11_next_205 : decode cX11_next 205 = .ok (.dup, 1) := by decide +kernel
theorem dX11_next_206 : decode cX11_next 206 = .ok (.getfield 85, 3) := by decide +kernel
theorem dX11_next_209 : decode cX11_next 209 = .ok (.iconst 1, 1) := by decide +kernel
theorem dX11_next_210 : decode cX11_next 210 = .ok (.iadd, 1) := by decide +kernel
theorem dX11_next_211 : decode cX11_next 211 = .ok (.putfield 85, 3) := by decide +kernel
theorem dX11_next_214 : decode cX11_next 214 = .ok (.goto (-74), 3) := by decide +kernel
theorem dX11_next_217 : decode cX11_next 217 = .ok (.aload_n 0, 1) := by decide +kernel
theorem dX11_next_218 : decode cX11_next 218 = .ok (.aload_n 0, 1) := by decide +kernel
theorem dX11_next_219 : decode cX11_next 219 = .ok (.getfield 85, 3) := by decide +kernel
theorem dX11_next_222 : decode cX11_next 222 = .ok (.aload_n 0, 1) := by decide +kernel
theorem dX11_next_223 : decode cX11_next 223 = .ok (.getfield 79, 3) := by decide +kernel
theorem dX11_next_226 : decode cX11_next 226 = .ok (.isub, 1) := by decide +kernel
theorem dX11_next_227 : decode cX11_next 227 = .ok (.iconst 2, 1) := by decide +kernel
theorem dX11_next_228 : decode cX11_next 228 = .ok (.if_icmp .gt 7, 3) := by decide +kernel
theorem dX11_next_231 : decode cX11_next 231 = .ok (.iconst 1, 1) := by decide +kernel
theorem dX11_next_232 : decode cX11_next 232 = .ok (.goto 4, 3) := by decide +kernel
theorem dX11_next_235 : decode cX11_next 235 = .ok (.iconst 0, 1) := by decide +kernel
theorem dX11_next_236 : decode cX11_next 236 = .ok (.iconst 1, 1) := by decide +kernel
theorem dX11_next_237 : decode cX11_next 237 = .ok (.invokevirtual 110, 3) := by decide +kernel
theorem dX11_next_240 : decode cX11_next 240 = .ok (.goto 34, 3) := by decide +kernel
theorem dX11_next_243 : decode cX11_next 243 = .ok (.aload_n 0, 1) := by decide +kernel
theorem dX11_next_244 : decode cX11_next 244 = .ok (.iconst 3, 1) := by decide +kernel
theorem dX11_next_245 : decode cX11_next 245 = .ok (.putfield 96, 3) := by decide +kernel
theorem dX11_next_248 : decode cX11_next 248 = .ok (.aload_n 0, 1) := by decide +kernel
theorem dX11_next_249 : decode cX11_next 249 = .ok (.iload_n 1, 1) := by decide +kernel
theorem dX11_next_250 : decode cX11_next 250 = .ok (.bipush 59, 2) := by decide +kernel
theorem dX11_next_252 : decode cX11_next 252 = .ok (.if_icmp .ne 7, 3) := by decide +kernel
theorem dX11_next_255 : decode cX11_next 255 = .ok (.iconst 1, 1) := by decide +kernel
theorem dX11_next_256 : decode cX11_next 256 = .ok (.goto 4, 3) := by decide +kernel
theorem dX11_next_259 : decode cX11_next 259 = .ok (.iconst 0, 1) := by decide +kernel
theorem dX11_next_260 : decode cX11_next 260 = .ok (.iconst 1, 1) := by decide +kernel
theorem dX11_next_261 : decode cX11_next 261 = .ok (.invokevirtual 110, 3) := by decide +kernel
theorem dX11_next_264 : decode cX11_next 264 = .ok (.aload_n 0, 1) := by decide +kernel
theorem dX11_next_265 : decode cX11_next 265 = .ok (.dup, 1) := by decide +kernel
theorem dX11_next_266 : decode cX11_next 266 = .ok (.getfield 85, 3) := by decide +kernel
theorem dX11_next_269 : decode cX11_next 269 = .ok (.iconst 1, 1) := by decide +kernel
theorem dX11_next_270 : decode cX11_next 270 = .ok (.iadd, 1) := by decide +kernel
theorem dX11_next_271 : decode cX11_next 271 = .ok (.putfield 85, 3) := by decide +kernel
theorem dX11_next_274 : decode cX11_next 274 = .ok (.return_, 1) := by decide +kernel
theorem dX11_readNumber_0 : decode cX11_readNumber 0 = .ok (.aload_n 0, 1) := by decide +kernel
theorem dX11_readNumber_1 : decode cX11_readNumber 1 = .ok (.getfield 76, 3) := by decide +kernel
theorem dX11_readNumber_4 : decode cX11_readNumber 4 = .ok (.ifCond .ne 21, 3) := by decide +kernel
theorem dX11_readNumber_7 : decode cX11_readNumber 7 = .ok (.aload_n 0, 1) := by decide +kernel
theorem dX11_readNumber_8 : decode cX11_readNumber 8 = .ok (.aload_n 0, 1) := by decide +kernel
theorem dX11_readNumber_9 : decode cX11_readNumber 9 = .ok (.getfield 96, 3) := by decide +kernel
theorem dX11_readNumber_12 : decode cX11_readNumber 12 = .ok (.iconst 2, 1) := by decide +kernel
theorem dX11_readNumber_13 : decode cX11_readNumber 13 = .ok (.if_icmp .ne 7, 3) := by decide +kernel
theorem dX11_readNumber_16 : decode cX11_readNumber 16 = .ok (.iconst 1, 1) := by decide +kernel
theorem dX11_readNumber_17 : decode cX11_readNumber 17 = .ok (.goto 4, 3) := by decide +kernel
theorem dX11_readNumber_20 : decode cX11_readNumber 20 = .ok (.iconst 0, 1) := by decide +kernel
theorem dX11_readNumber_21 : decode cX11_readNumber 21 = .ok (.iconst 2, 1) := by decide +kernel
theorem dX11_readNumber_22 : decode cX11_readNumber 22 = .ok (.invokevirtual 110, 3) := by decide +kernel
theorem dX11_readNumber_25 : decode cX11_readNumber 25 = .ok (.aload_n 0, 1) := by decide +kernel
theorem dX11_readNumber_26 : decode cX11_readNumber 26 = .ok (.getfield 76, 3) := by decide +kernel
theorem dX11_readNumber_29 : decode cX11_readNumber 29 = .ok (.ifCond .ne 20, 3) := by decide +kernel
theorem dX11_readNumber_32 : decode cX11_readNumber 32 = .ok (.aload_n 0, 1) := by decide +kernel
theorem dX11_readNumber_33 : decode cX11_readNumber 33 = .ok (.aload_n 0, 1) := by decide +kernel
theorem dX11_readNumber_34 : decode cX11_readNumber 34 = .ok (.getfield 107, 3) := by decide +kernel
theorem dX11_readNumber_37 : decode cX11_readNumber 37 = .ok (.i2l, 1) := by decide +kernel
theorem dX11_readNumber_38 : decode cX11_readNumber 38 = .ok (.iload_n 1, 1) := by decide +kernel
theorem dX11_readNumber_39 : decode cX11_readNumber 39 = .ok (.i2l, 1) := by decide +kernel
theorem dX11_readNumber_40 : decode cX11_readNumber 40 = .ok (.iload_n 2, 1) := by decide +kernel
theorem dX11_readNumber_41 : decode cX11_readNumber 41 = .ok (.i2l, 1) := by decide +kernel
theorem dX11_readNumber_42 : decode cX11_readNumber 42 = .ok (.invokestatic 72, 3) := by decide +kernel
theorem dX11_readNumber_45 : decode cX11_readNumber 45 = .ok (.iconst 3, 1) := by decide +kernel
theorem dX11_readNumber_46 : decode cX11_readNumber 46 = .ok (.invokevirtual 110, 3) := by decide +kernel
theorem dX11_readNumber_49 : decode cX11_readNumber 49 = .ok (.aload_n 0, 1) := by decide +kernel
theorem dX11_readNumber_50 : decode cX11_readNumber 50 = .ok (.getfield 107, 3) := by decide +kernel
theorem dX11_readNumber_53 : decode cX11_readNumber 53 = .ok (.istore_n 3, 1) := by decide +kernel
theorem dX11_readNumber_54 : decode cX11_readNumber 54 = .ok (.aload_n 0, 1) := by decide +kernel
theorem dX11_readNumber_55 : decode cX11_readNumber 55 = .ok (.invokevirtual 114, 3) := by decide +kernel
theorem dX11_readNumber_58 : decode cX11_readNumber 58 = .ok (.iload_n 3, 1) := by decide +kernel
theorem dX11_readNumber_59 : decode cX11_readNumber 59 = .ok (.ireturn, 1) := by decide +kernel
theorem dX11_kindOf_0 : decode cX11_kindOf 0 = .ok (.iload_n 0, 1) := by decide +kernel
theorem dX11_kindOf_1 : decode cX11_kindOf 1 = .ok (.tableswitch 121 99 120 #[118, 121, 105, 121, 121, 121, 121, 121, 121, 121, 121, 103, 115, 111, 121, 121, 107, 121, 121, 121, 109, 113], 103) := by decide +kernel
theorem dX11_kindOf_104 : decode cX11_kindOf 104 = .ok (.iconst 0, 1) := by decide +kernel
theorem dX11_kindOf_105 : decode cX11_kindOf 105 = .ok (.ireturn, 1) := by decide +kernel
theorem dX11_kindOf_106 : decode cX11_kindOf 106 = .ok (.iconst 1, 1) := by decide +kernel
theorem dX11_kindOf_107 : decode cX11_kindOf 107 = .ok (.ireturn, 1) := by decide +kernel
theorem dX11_kindOf_108 : decode cX11_kindOf 108 = .ok (.iconst 2, 1) := by decide +kernel
theorem dX11_kindOf_109 : decode cX11_kindOf 109 = .ok (.ireturn, 1) := by decide +kernel
theorem dX11_kindOf_110 : decode cX11_kindOf 110 = .ok (.iconst 3, 1) := by decide +kernel
theorem dX11_kindOf_111 : decode cX11_kindOf 111 = .ok (.ireturn, 1) := by decide +kernel
theorem dX11_kindOf_112 : decode cX11_kindOf 112 = .ok (.iconst 4, 1) := by decide +kernel
theorem dX11_kindOf_113 : decode cX11_kindOf 113 = .ok (.ireturn, 1) := by decide +kernel
theorem dX11_kindOf_114 : decode cX11_kindOf 114 = .ok (.iconst 5, 1) := by decide +kernel
theorem dX11_kindOf_115 : decode cX11_kindOf 115 = .ok (.ireturn, 1) := by decide +kernel
theorem dX11_kindOf_116 : decode cX11_kindOf 116 = .ok (.bipush 6, 2) := by decide +kernel
theorem dX11_kindOf_118 : decode cX11_kindOf 118 = .ok (.ireturn, 1) := by decide +kernel
theorem dX11_kindOf_119 : decode cX11_kindOf 119 = .ok (.bipush 7, 2) := by decide +kernel
theorem dX11_kindOf_121 : decode cX11_kindOf 121 = .ok (.ireturn, 1) := by decide +kernel
theorem dX11_kindOf_122 : decode cX11_kindOf 122 = .ok (.bipush (-4), 2) := by decide +kernel
theorem dX11_kindOf_124 : decode cX11_kindOf 124 = .ok (.ireturn, 1) := by decide +kernel
theorem dX11_readRow_0 : decode cX11_readRow 0 = .ok (.aload_n 0, 1) := by decide +kernel
theorem dX11_readRow_1 : decode cX11_readRow 1 = .ok (.getfield 76, 3) := by decide +kernel
theorem dX11_readRow_4 : decode cX11_readRow 4 = .ok (.ifCond .ne 21, 3) := by decide +kernel
theorem dX11_readRow_7 : decode cX11_readRow 7 = .ok (.aload_n 0, 1) := by decide +kernel
theorem dX11_readRow_8 : decode cX11_readRow 8 = .ok (.aload_n 0, 1) := by decide +kernel
theorem dX11_readRow_9 : decode cX11_readRow 9 = .ok (.getfield 96, 3) := by decide +kernel
theorem dX11_readRow_12 : decode cX11_readRow 12 = .ok (.iconst 1, 1) := by decide +kernel
theorem dX11_readRow_13 : decode cX11_readRow 13 = .ok (.if_icmp .ne 7, 3) := by decide +kernel
theorem dX11_readRow_16 : decode cX11_readRow 16 = .ok (.iconst 1, 1) := by decide +kernel
theorem dX11_readRow_17 : decode cX11_readRow 17 = .ok (.goto 4, 3) := by decide +kernel
theorem dX11_readRow_20 : decode cX11_readRow 20 = .ok (.iconst 0, 1) := by decide +kernel
theorem dX11_readRow_21 : decode cX11_readRow 21 = .ok (.iconst 2, 1) := by decide +kernel
theorem dX11_readRow_22 : decode cX11_readRow 22 = .ok (.invokevirtual 110, 3) := by decide +kernel
theorem dX11_readRow_25 : decode cX11_readRow 25 = .ok (.aload_n 0, 1) := by decide +kernel
theorem dX11_readRow_26 : decode cX11_readRow 26 = .ok (.getfield 76, 3) := by decide +kernel
theorem dX11_readRow_29 : decode cX11_readRow 29 = .ok (.ifCond .ne 27, 3) := by decide +kernel
theorem dX11_readRow_32 : decode cX11_readRow 32 = .ok (.aload_n 0, 1) := by decide +kernel
theorem dX11_readRow_33 : decode cX11_readRow 33 = .ok (.aload_n 0, 1) := by decide +kernel
theorem dX11_readRow_34 : decode cX11_readRow 34 = .ok (.getfield 85, 3) := by decide +kernel
theorem dX11_readRow_37 : decode cX11_readRow 37 = .ok (.aload_n 0, 1) := by decide +kernel
theorem dX11_readRow_38 : decode cX11_readRow 38 = .ok (.getfield 79, 3) := by decide +kernel
theorem dX11_readRow_41 : decode cX11_readRow 41 = .ok (.isub, 1) := by decide +kernel
theorem dX11_readRow_42 : decode cX11_readRow 42 = .ok (.bipush 12, 2) := by decide +kernel
theorem dX11_readRow_44 : decode cX11_readRow 44 = .ok (.if_icmp .ne 7, 3) := by decide +kernel
theorem dX11_readRow_47 : decode cX11_readRow 47 = .ok (.iconst 1, 1) := by decide +kernel
theorem dX11_readRow_48 : decode cX11_readRow 48 = .ok (.goto 4, 3) := by decide +kernel
theorem dX11_readRow_51 : decode cX11_readRow 51 = .ok (.iconst 0, 1) := by decide +kernel
theorem dX11_readRow_52 : decode cX11_readRow 52 = .ok (.iconst 3, 1) := by decide +kernel
theorem dX11_readRow_53 : decode cX11_readRow 53 = .ok (.invokevirtual 110, 3) := by decide +kernel
theorem dX11_readRow_56 : decode cX11_readRow 56 = .ok (.iconst 0, 1) := by decide +kernel
theorem dX11_readRow_57 : decode cX11_readRow 57 = .ok (.istore_n 1, 1) := by decide +kernel
theorem dX11_readRow_58 : decode cX11_readRow 58 = .ok (.iload_n 1, 1) := by decide +kernel
theorem dX11_readRow_59 : decode cX11_readRow 59 = .ok (.bipush 12, 2) := by decide +kernel
theorem dX11_readRow_61 : decode cX11_readRow 61 = .ok (.if_icmp .ge 71, 3) := by decide +kernel
theorem dX11_readRow_64 : decode cX11_readRow 64 = .ok (.aload_n 0, 1) := by decide +kernel
theorem dX11_readRow_65 : decode cX11_readRow 65 = .ok (.getfield 76, 3) := by decide +kernel
theorem dX11_readRow_68 : decode cX11_readRow 68 = .ok (.ifCond .ne 64, 3) := by decide +kernel
theorem dX11_readRow_71 : decode cX11_readRow 71 = .ok (.aload_n 0, 1) := by decide +kernel
theorem dX11_readRow_72 : decode cX11_readRow 72 = .ok (.aload_n 0, 1) := by decide +kernel
theorem dX11_readRow_73 : decode cX11_readRow 73 = .ok (.getfield 79, 3) := by decide +kernel
theorem dX11_readRow_76 : decode cX11_readRow 76 = .ok (.iload_n 1, 1) := by decide +kernel
theorem dX11_readRow_77 : decode cX11_readRow 77 = .ok (.iadd, 1) := by decide +kernel
theorem dX11_readRow_78 : decode cX11_readRow 78 = .ok (.invokevirtual 88, 3) := by decide +kernel
theorem dX11_readRow_81 : decode cX11_readRow 81 = .ok (.invokestatic 117, 3) := by decide +kernel
theorem dX11_readRow_84 : decode cX11_readRow 84 = .ok (.istore_n 2, 1) := by decide +kernel
theorem dX11_readRow_85 : decode cX11_readRow 85 = .ok (.aload_n 0, 1) := by decide +kernel
theorem dX11_readRow_86 : decode cX11_readRow 86 = .ok (.iload_n 2, 1) := by decide +kernel
theorem dX11_readRow_87 : decode cX11_readRow 87 = .ok (.bipush (-4), 2) := by decide +kernel
theorem dX11_readRow_89 : decode cX11_readRow 89 = .ok (.if_icmp .eq 7, 3) := by decide +kernel
theorem dX11_readRow_92 : decode cX11_readRow 92 = .ok (.iconst 1, 1) := by decide +kernel
theorem dX11_readRow_93 : decode cX11_readRow 93 = .ok (.goto 4, 3) := by decide +kernel
theorem dX11_readRow_96 : decode cX11_readRow 96 = .ok (.iconst 0, 1) := by decide +kernel
theorem dX11_readRow_97 : decode cX11_readRow 97 = .ok (.iconst 3, 1) := by decide +kernel
theorem dX11_readRow_98 : decode cX11_readRow 98 = .ok (.invokevirtual 110, 3) := by decide +kernel
theorem dX11_readRow_101 : decode cX11_readRow 101 = .ok (.aload_n 0, 1) := by decide +kernel
theorem dX11_readRow_102 : decode cX11_readRow 102 = .ok (.getfield 26, 3) := by decide +kernel
theorem dX11_readRow_105 : decode cX11_readRow 105 = .ok (.bipush 12, 2) := by decide +kernel
theorem dX11_readRow_107 : decode cX11_readRow 107 = .ok (.aload_n 0, 1) := by decide +kernel
theorem dX11_readRow_108 : decode cX11_readRow 108 = .ok (.getfield 60, 3) := by decide +kernel
theorem dX11_readRow_111 : decode cX11_readRow 111 = .ok (.imul, 1) := by decide +kernel
theorem dX11_readRow_112 : decode cX11_readRow 112 = .ok (.iload_n 1, 1) := by decide +kernel
theorem dX11_readRow_113 : decode cX11_readRow 113 = .ok (.iadd, 1) := by decide +kernel
theorem dX11_readRow_114 : decode cX11_readRow 114 = .ok (.iload_n 2, 1) := by decide +kernel
theorem dX11_readRow_115 : decode cX11_readRow 115 = .ok (.bipush (-4), 2) := by decide +kernel
theorem dX11_readRow_117 : decode cX11_readRow 117 = .ok (.if_icmp .ne 7, 3) := by decide +kernel
theorem dX11_readRow_120 : decode cX11_readRow 120 = .ok (.iconst 4, 1) := by decide +kernel
theorem dX11_readRow_121 : decode cX11_readRow 121 = .ok (.goto 4, 3) := by decide +kernel
theorem dX11_readRow_124 : decode cX11_readRow 124 = .ok (.iload_n 2, 1) := by decide +kernel
theorem dX11_readRow_125 : decode cX11_readRow 125 = .ok (.iastore, 1) := by decide +kernel
theorem dX11_readRow_126 : decode cX11_readRow 126 = .ok (.iinc 1 1, 3) := by decide +kernel
theorem dX11_readRow_129 : decode cX11_readRow 129 = .ok (.goto (-71), 3) := by decide +kernel
theorem dX11_readRow_132 : decode cX11_readRow 132 = .ok (.aload_n 0, 1) := by decide +kernel
theorem dX11_readRow_133 : decode cX11_readRow 133 = .ok (.dup, 1) := by decide +kernel
theorem dX11_readRow_134 : decode cX11_readRow 134 = .ok (.getfield 60, 3) := by decide +kernel
theorem dX11_readRow_137 : decode cX11_readRow 137 = .ok (.aload_n 0, 1) := by decide +kernel
theorem dX11_readRow_138 : decode cX11_readRow 138 = .ok (.getfield 76, 3) := by decide +kernel
theorem dX11_readRow_141 : decode cX11_readRow 141 = .ok (.ifCond .ne 7, 3) := by decide +kernel
theorem dX11_readRow_144 : decode cX11_readRow 144 = .ok (.iconst 1, 1) := by decide +kernel
theorem dX11_readRow_145 : decode cX11_readRow 145 = .ok (.goto 4, 3) := by decide +kernel
theorem dX11_readRow_148 : decode cX11_readRow 148 = .ok (.iconst 0, 1) := by decide +kernel
theorem dX11_readRow_149 : decode cX11_readRow 149 = .ok (.invokestatic 120, 3) := by decide +kernel
theorem dX11_readRow_152 : decode cX11_readRow 152 = .ok (.iadd, 1) := by decide +kernel
theorem dX11_readRow_153 : decode cX11_readRow 153 = .ok (.putfield 60, 3) := by decide +kernel
theorem dX11_readRow_156 : decode cX11_readRow 156 = .ok (.aload_n 0, 1) := by decide +kernel
theorem dX11_readRow_157 : decode cX11_readRow 157 = .ok (.invokevirtual 114, 3) := by decide +kernel
theorem dX11_readRow_160 : decode cX11_readRow 160 = .ok (.return_, 1) := by decide +kernel
theorem dX11_lowest_0 : decode cX11_lowest 0 = .ok (.iload_n 1, 1) := by decide +kernel
theorem dX11_lowest_1 : decode cX11_lowest 1 = .ok (.iconst 1, 1) := by decide +kernel
theorem dX11_lowest_2 : decode cX11_lowest 2 = .ok (.if_icmp .eq 14, 3) := by decide +kernel
theorem dX11_lowest_5 : decode cX11_lowest 5 = .ok (.iload_n 1, 1) := by decide +kernel
theorem dX11_lowest_6 : decode cX11_lowest 6 = .ok (.iconst 4, 1) := by decide +kernel
theorem dX11_lowest_7 : decode cX11_lowest 7 = .ok (.if_icmp .eq 9, 3) := by decide +kernel
theorem dX11_lowest_10 : decode cX11_lowest 10 = .ok (.iload_n 1, 1) := by decide +kernel
theorem dX11_lowest_11 : decode cX11_lowest 11 = .ok (.bipush 8, 2) := by decide +kernel
theorem dX11_lowest_13 : decode cX11_lowest 13 = .ok (.if_icmp .ne 7, 3) := by decide +kernel
theorem dX11_lowest_16 : decode cX11_lowest 16 = .ok (.iconst 0, 1) := by decide +kernel
theorem dX11_lowest_17 : decode cX11_lowest 17 = .ok (.goto 4, 3) := by decide +kernel
theorem dX11_lowest_20 : decode cX11_lowest 20 = .ok (.iconst 1, 1) := by decide +kernel
theorem dX11_lowest_21 : decode cX11_lowest 21 = .ok (.ireturn, 1) := by decide +kernel
theorem dX11_highest_0 : decode cX11_highest 0 = .ok (.iload_n 1, 1) := by decide +kernel
theorem dX11_highest_1 : decode cX11_highest 1 = .ok (.iconst 2, 1) := by decide +kernel
theorem dX11_highest_2 : decode cX11_highest 2 = .ok (.if_icmp .eq 9, 3) := by decide +kernel
theorem dX11_highest_5 : decode cX11_highest 5 = .ok (.iload_n 1, 1) := by decide +kernel
theorem dX11_highest_6 : decode cX11_highest 6 = .ok (.bipush 8, 2) := by decide +kernel
theorem dX11_highest_8 : decode cX11_highest 8 = .ok (.if_icmp .ne 8, 3) := by decide +kernel
theorem dX11_highest_11 : decode cX11_highest 11 = .ok (.bipush 60, 2) := by decide +kernel
theorem dX11_highest_13 : decode cX11_highest 13 = .ok (.goto 32, 3) := by decide +kernel
theorem dX11_highest_16 : decode cX11_highest 16 = .ok (.iload_n 1, 1) := by decide +kernel
theorem dX11_highest_17 : decode cX11_highest 17 = .ok (.iconst 4, 1) := by decide +kernel
theorem dX11_highest_18 : decode cX11_highest 18 = .ok (.if_icmp .eq 9, 3) := by decide +kernel
theorem dX11_highest_21 : decode cX11_highest 21 = .ok (.iload_n 1, 1) := by decide +kernel
theorem dX11_highest_22 : decode cX11_highest 22 = .ok (.bipush 7, 2) := by decide +kernel
theorem dX11_highest_24 : decode cX11_highest 24 = .ok (.if_icmp .ne 8, 3) := by decide +kernel
theorem dX11_highest_27 : decode cX11_highest 27 = .ok (.bipush 9, 2) := by decide +kernel
theorem dX11_highest_29 : decode cX11_highest 29 = .ok (.goto 16, 3) := by decide +kernel
theorem dX11_highest_32 : decode cX11_highest 32 = .ok (.iload_n 1, 1) := by decide +kernel
theorem dX11_highest_33 : decode cX11_highest 33 = .ok (.bipush 6, 2) := by decide +kernel
theorem dX11_highest_35 : decode cX11_highest 35 = .ok (.if_icmp .ne 8, 3) := by decide +kernel
theorem dX11_highest_38 : decode cX11_highest 38 = .ok (.bipush 50, 2) := by decide +kernel
theorem dX11_highest_40 : decode cX11_highest 40 = .ok (.goto 5, 3) := by decide +kernel
theorem dX11_highest_43 : decode cX11_highest 43 = .ok (.bipush 99, 2) := by decide +kernel
theorem dX11_highest_45 : decode cX11_highest 45 = .ok (.ireturn, 1) := by decide +kernel
theorem dX11_readLine_0 : decode cX11_readLine 0 = .ok (.aload_n 0, 1) := by decide +kernel
theorem dX11_readLine_1 : decode cX11_readLine 1 = .ok (.getfield 96, 3) := by decide +kernel
theorem dX11_readLine_4 : decode cX11_readLine 4 = .ok (.iconst 1, 1) := by decide +kernel
theorem dX11_readLine_5 : decode cX11_readLine 5 = .ok (.if_icmp .ne 10, 3) := by decide +kernel
theorem dX11_readLine_8 : decode cX11_readLine 8 = .ok (.aload_n 0, 1) := by decide +kernel
theorem dX11_readLine_9 : decode cX11_readLine 9 = .ok (.invokevirtual 124, 3) := by decide +kernel
theorem dX11_readLine_12 : decode cX11_readLine 12 = .ok (.goto 5, 3) := by decide +kernel
theorem dX11_readLine_15 : decode cX11_readLine 15 = .ok (.bipush (-4), 2) := by decide +kernel
theorem dX11_readLine_17 : decode cX11_readLine 17 = .ok (.istore_n 1, 1) := by decide +kernel
theorem dX11_readLine_18 : decode cX11_readLine 18 = .ok (.aload_n 0, 1) := by decide +kernel
theorem dX11_readLine_19 : decode cX11_readLine 19 = .ok (.iload_n 1, 1) := by decide +kernel
theorem dX11_readLine_20 : decode cX11_readLine 20 = .ok (.bipush (-4), 2) := by decide +kernel
theorem dX11_readLine_22 : decode cX11_readLine 22 = .ok (.if_icmp .eq 7, 3) := by decide +kernel
theorem dX11_readLine_25 : decode cX11_readLine 25 = .ok (.iconst 1, 1) := by decide +kernel
theorem dX11_readLine_26 : decode cX11_readLine 26 = .ok (.goto 4, 3) := by decide +kernel
theorem dX11_readLine_29 : decode cX11_readLine 29 = .ok (.iconst 0, 1) := by decide +kernel
theorem dX11_readLine_30 : decode cX11_readLine 30 = .ok (.iconst 2, 1) := by decide +kernel
theorem dX11_readLine_31 : decode cX11_readLine 31 = .ok (.invokevirtual 110, 3) := by decide +kernel
theorem dX11_readLine_34 : decode cX11_readLine 34 = .ok (.aload_n 0, 1) := by decide +kernel
theorem dX11_readLine_35 : decode cX11_readLine 35 = .ok (.iload_n 1, 1) := by decide +kernel
theorem dX11_readLine_36 : decode cX11_readLine 36 = .ok (.bipush 20, 2) := by decide +kernel
theorem dX11_readLine_38 : decode cX11_readLine 38 = .ok (.if_icmp .ne 12, 3) := by decide +kernel
theorem dX11_readLine_41 : decode cX11_readLine 41 = .ok (.aload_n 0, 1) := by decide +kernel
theorem dX11_readLine_42 : decode cX11_readLine 42 = .ok (.getfield 60, 3) := by decide +kernel
theorem dX11_readLine_45 : decode cX11_readLine 45 = .ok (.bipush 8, 2) := by decide +kernel
theorem dX11_readLine_47 : decode cX11_readLine 47 = .ok (.if_icmp .ge 7, 3) := by decide +kernel
theorem dX11_readLine_50 : decode cX11_readLine 50 = .ok (.iconst 1, 1) := by decide +kernel
theorem dX11_readLine_51 : decode cX11_readLine 51 = .ok (.goto 4, 3) := by decide +kernel
theorem dX11_readLine_54 : decode cX11_readLine 54 = .ok (.iconst 0, 1) := by decide +kernel
theorem dX11_readLine_55 : decode cX11_readLine 55 = .ok (.iconst 5, 1) := by decide +kernel
theorem dX11_readLine_56 : decode cX11_readLine 56 = .ok (.invokevirtual 110, 3) := by decide +kernel
theorem dX11_readLine_59 : decode cX11_readLine 59 = .ok (.aload_n 0, 1) := by decide +kernel
theorem dX11_readLine_60 : decode cX11_readLine 60 = .ok (.getfield 76, 3) := by decide +kernel
theorem dX11_readLine_63 : decode cX11_readLine 63 = .ok (.ifCond .ne 35, 3) := by decide +kernel
theorem dX11_readLine_66 : decode cX11_readLine 66 = .ok (.iload_n 1, 1) := by decide +kernel
theorem dX11_readLine_67 : decode cX11_readLine 67 = .ok (.bipush 20, 2) := by decide +kernel
theorem dX11_readLine_69 : decode cX11_readLine 69 = .ok (.if_icmp .eq 29, 3) := by decide +kernel
theorem dX11_readLine_72 : decode cX11_readLine 72 = .ok (.aload_n 0, 1) := by decide +kernel
theorem dX11_readLine_73 : decode cX11_readLine 73 = .ok (.aload_n 0, 1) := by decide +kernel
theorem dX11_readLine_74 : decode cX11_readLine 74 = .ok (.getfield 23, 3) := by decide +kernel
theorem dX11_readLine_77 : decode cX11_readLine 77 = .ok (.iload_n 1, 1) := by decide +kernel
theorem dX11_readLine_78 : decode cX11_readLine 78 = .ok (.baload, 1) := by decide +kernel
theorem dX11_readLine_79 : decode cX11_readLine 79 = .ok (.ifCond .ne 7, 3) := by decide +kernel
theorem dX11_readLine_82 : decode cX11_readLine 82 = .ok (.iconst 1, 1) := by decide +kernel
theorem dX11_readLine_83 : decode cX11_readLine 83 = .ok (.goto 4, 3) := by decide +kernel
theorem dX11_readLine_86 : decode cX11_readLine 86 = .ok (.iconst 0, 1) := by decide +kernel
theorem dX11_readLine_87 : decode cX11_readLine 87 = .ok (.iconst 4, 1) := by decide +kernel
theorem dX11_readLine_88 : decode cX11_readLine 88 = .ok (.invokevirtual 110, 3) := by decide +kernel
theorem dX11_readLine_91 : decode cX11_readLine 91 = .ok (.aload_n 0, 1) := by decide +kernel
theorem dX11_readLine_92 : decode cX11_readLine 92 = .ok (.getfield 23, 3) := by decide +kernel
theorem dX11_readLine_95 : decode cX11_readLine 95 = .ok (.iload_n 1, 1) := by decide +kernel
theorem dX11_readLine_96 : decode cX11_readLine 96 = .ok (.iconst 1, 1) := by decide +kernel
theorem dX11_readLine_97 : decode cX11_readLine 97 = .ok (.bastore, 1) := by decide +kernel
theorem dX11_readLine_98 : decode cX11_readLine 98 = .ok (.aload_n 0, 1) := by decide +kernel
theorem dX11_readLine_99 : decode cX11_readLine 99 = .ok (.invokevirtual 114, 3) := by decide +kernel
theorem dX11_readLine_102 : decode cX11_readLine 102 = .ok (.aload_n 0, 1) := by decide +kernel
theorem dX11_readLine_103 : decode cX11_readLine 103 = .ok (.getfield 76, 3) := by decide +kernel
theorem dX11_readLine_106 : decode cX11_readLine 106 = .ok (.ifCond .le 4, 3) := by decide +kernel
theorem dX11_readLine_109 : decode cX11_readLine 109 = .ok (.return_, 1) := by decide +kernel
theorem dX11_readLine_110 : decode cX11_readLine 110 = .ok (.iload_n 1, 1) := by decide +kernel
theorem dX11_readLine_111 : decode cX11_readLine 111 = .ok (.bipush 20, 2) := by decide +kernel
theorem dX11_readLine_113 : decode cX11_readLine 113 = .ok (.if_icmp .ne 10, 3) := by decide +kernel
theorem dX11_readLine_116 : decode cX11_readLine 116 = .ok (.aload_n 0, 1) := by decide +kernel
theorem dX11_readLine_117 : decode cX11_readLine 117 = .ok (.invokevirtual 128, 3) := by decide +kernel
theorem dX11_readLine_120 : decode cX11_readLine 120 = .ok (.goto 46, 3) := by decide +kernel
theorem dX11_readLine_123 : decode cX11_readLine 123 = .ok (.aload_n 0, 1) := by decide +kernel
theorem dX11_readLine_124 : decode cX11_readLine 124 = .ok (.getfield 20, 3) := by decide +kernel
theorem dX11_readLine_127 : decode cX11_readLine 127 = .ok (.iload_n 1, 1) := by decide +kernel
theorem dX11_readLine_128 : decode cX11_readLine 128 = .ok (.aload_n 0, 1) := by decide +kernel
theorem dX11_readLine_129 : decode cX11_readLine 129 = .ok (.aload_n 0, 1) := by decide +kernel
theorem dX11_readLine_130 : decode cX11_readLine 130 = .ok (.iload_n 1, 1) := by decide +kernel
theorem dX11_readLine_131 : decode cX11_readLine 131 = .ok (.invokevirtual 131, 3) := by decide +kernel
theorem dX11_readLine_134 : decode cX11_readLine 134 = .ok (.aload_n 0, 1) := by decide +kernel
theorem dX11_readLine_135 : decode cX11_readLine 135 = .ok (.iload_n 1, 1) := by decide +kernel
theorem dX11_readLine_136 : decode cX11_readLine 136 = .ok (.invokevirtual 134, 3) := by decide +kernel
theorem dX11_readLine_139 : decode cX11_readLine 139 = .ok (.invokevirtual 137, 3) := by decide +kernel
theorem dX11_readLine_142 : decode cX11_readLine 142 = .ok (.iastore, 1) := by decide +kernel
theorem dX11_readLine_143 : decode cX11_readLine 143 = .ok (.iload_n 1, 1) := by decide +kernel
theorem dX11_readLine_144 : decode cX11_readLine 144 = .ok (.iconst 2, 1) := by decide +kernel
theorem dX11_readLine_145 : decode cX11_readLine 145 = .ok (.if_icmp .ne 21, 3) := by decide +kernel
theorem dX11_readLine_148 : decode cX11_readLine 148 = .ok (.aload_n 0, 1) := by decide +kernel
theorem dX11_readLine_149 : decode cX11_readLine 149 = .ok (.getfield 20, 3) := by decide +kernel
theorem dX11_readLine_152 : decode cX11_readLine 152 = .ok (.iconst 3, 1) := by decide +kernel
theorem dX11_readLine_153 : decode cX11_readLine 153 = .ok (.aload_n 0, 1) := by decide +kernel
theorem dX11_readLine_154 : decode cX11_readLine 154 = .ok (.aload_n 0, 1) := by decide +kernel
theorem dX11_readLine_155 : decode cX11_readLine 155 = .ok (.getfield 20, 3) := by decide +kernel
theorem dX11_readLine_158 : decode cX11_readLine 158 = .ok (.iconst 2, 1) := by decide +kernel
theorem dX11_readLine_159 : decode cX11_readLine 159 = .ok (.iaload, 1) := by decide +kernel
theorem dX11_readLine_160 : decode cX11_readLine 160 = .ok (.bipush 60, 2) := by decide +kernel
theorem dX11_readLine_162 : decode cX11_readLine 162 = .ok (.invokevirtual 137, 3) := by decide +kernel
theorem dX11_readLine_165 : decode cX11_readLine 165 = .ok (.iastore, 1) := by decide +kernel
theorem dX11_readLine_166 : decode cX11_readLine 166 = .ok (.aload_n 0, 1) := by decide +kernel
theorem dX11_readLine_167 : decode cX11_readLine 167 = .ok (.getfield 76, 3) := by decide +kernel
theorem dX11_readLine_170 : decode cX11_readLine 170 = .ok (.ifCond .ne 21, 3) := by decide +kernel
theorem dX11_readLine_173 : decode cX11_readLine 173 = .ok (.aload_n 0, 1) := by decide +kernel
theorem dX11_readLine_174 : decode cX11_readLine 174 = .ok (.aload_n 0, 1) := by decide +kernel
theorem dX11_readLine_175 : decode cX11_readLine 175 = .ok (.getfield 96, 3) := by decide +kernel
theorem dX11_readLine_178 : decode cX11_readLine 178 = .ok (.iconst 3, 1) := by decide +kernel
theorem dX11_readLine_179 : decode cX11_readLine 179 = .ok (.if_icmp .ne 7, 3) := by decide +kernel
theorem dX11_readLine_182 : decode cX11_readLine 182 = .ok (.iconst 1, 1) := by decide +kernel
theorem dX11_readLine_183 : decode cX11_readLine 183 = .ok (.goto 4, 3) := by decide +kernel
theorem dX11_readLine_186 : decode cX11_readLine 186 = .ok (.iconst 0, 1) := by decide +kernel
theorem dX11_readLine_187 : decode cX11_readLine 187 = .ok (.iconst 2, 1) := by decide +kernel
theorem dX11_readLine_188 : decode cX11_readLine 188 = .ok (.invokevirtual 110, 3) := by decide +kernel
theorem dX11_readLine_191 : decode cX11_readLine 191 = .ok (.aload_n 0, 1) := by decide +kernel
theorem dX11_readLine_192 : decode cX11_readLine 192 = .ok (.invokevirtual 114, 3) := by decide +kernel
theorem dX11_readLine_195 : decode cX11_readLine 195 = .ok (.return_, 1) := by decide +kernel
theorem dX11_text_0 : decode cX11_text 0 = .ok (.iconst 0, 1) := by decide +kernel
theorem dX11_text_1 : decode cX11_text 1 = .ok (.istore_n 1, 1) := by decide +kernel
theorem dX11_text_2 : decode cX11_text 2 = .ok (.aload_n 0, 1) := by decide +kernel
theorem dX11_text_3 : decode cX11_text 3 = .ok (.iconst 0, 1) := by decide +kernel
theorem dX11_text_4 : decode cX11_text 4 = .ok (.putfield 76, 3) := by decide +kernel
theorem dX11_text_7 : decode cX11_text 7 = .ok (.aload_n 0, 1) := by decide +kernel
theorem dX11_text_8 : decode cX11_text 8 = .ok (.iconst 0, 1) := by decide +kernel
theorem dX11_text_9 : decode cX11_text 9 = .ok (.putfield 85, 3) := by decide +kernel
theorem dX11_text_12 : decode cX11_text 12 = .ok (.aload_n 0, 1) := by decide +kernel
theorem dX11_text_13 : decode cX11_text 13 = .ok (.invokevirtual 54, 3) := by decide +kernel
theorem dX11_text_16 : decode cX11_text 16 = .ok (.aload_n 0, 1) := by decide +kernel
theorem dX11_text_17 : decode cX11_text 17 = .ok (.invokevirtual 114, 3) := by decide +kernel
theorem dX11_text_20 : decode cX11_text 20 = .ok (.aload_n 0, 1) := by decide +kernel
theorem dX11_text_21 : decode cX11_text 21 = .ok (.getfield 76, 3) := by decide +kernel
theorem dX11_text_24 : decode cX11_text 24 = .ok (.ifCond .ne 20, 3) := by decide +kernel
theorem dX11_text_27 : decode cX11_text 27 = .ok (.aload_n 0, 1) := by decide +kernel
theorem dX11_text_28 : decode cX11_text 28 = .ok (.getfield 96, 3) := by decide +kernel
theorem dX11_text_31 : decode cX11_text 31 = .ok (.ifCond .eq 13, 3) := by decide +kernel
theorem dX11_text_34 : decode cX11_text 34 = .ok (.aload_n 0, 1) := by decide +kernel
theorem dX11_text_35 : decode cX11_text 35 = .ok (.invokevirtual 141, 3) := by decide +kernel
theorem dX11_text_38 : decode cX11_text 38 = .ok (.iinc 1 1, 3) := by decide +kernel
theorem dX11_text_41 : decode cX11_text 41 = .ok (.goto (-21), 3) := by decide +kernel
theorem dX11_text_44 : decode cX11_text 44 = .ok (.aload_n 0, 1) := by decide +kernel
theorem dX11_text_45 : decode cX11_text 45 = .ok (.aload_n 0, 1) := by decide +kernel
theorem dX11_text_46 : decode cX11_text 46 = .ok (.getfield 20, 3) := by decide +kernel
theorem dX11_text_49 : decode cX11_text 49 = .ok (.iconst 1, 1) := by decide +kernel
theorem dX11_text_50 : decode cX11_text 50 = .ok (.iaload, 1) := by decide +kernel
theorem dX11_text_51 : decode cX11_text 51 = .ok (.aload_n 0, 1) := by decide +kernel
theorem dX11_text_52 : decode cX11_text 52 = .ok (.getfield 20, 3) := by decide +kernel
theorem dX11_text_55 : decode cX11_text 55 = .ok (.iconst 0, 1) := by decide +kernel
theorem dX11_text_56 : decode cX11_text 56 = .ok (.iaload, 1) := by decide +kernel
theorem dX11_text_57 : decode cX11_text 57 = .ok (.if_icmp .gt 7, 3) := by decide +kernel
theorem dX11_text_60 : decode cX11_text 60 = .ok (.iconst 1, 1) := by decide +kernel
theorem dX11_text_61 : decode cX11_text 61 = .ok (.goto 4, 3) := by decide +kernel
theorem dX11_text_64 : decode cX11_text 64 = .ok (.iconst 0, 1) := by decide +kernel
theorem dX11_text_65 : decode cX11_text 65 = .ok (.bipush 6, 2) := by decide +kernel
theorem dX11_text_67 : decode cX11_text 67 = .ok (.invokevirtual 110, 3) := by decide +kernel
theorem dX11_text_70 : decode cX11_text 70 = .ok (.aload_n 0, 1) := by decide +kernel
theorem dX11_text_71 : decode cX11_text 71 = .ok (.iconst 0, 1) := by decide +kernel
theorem dX11_text_72 : decode cX11_text 72 = .ok (.putfield 67, 3) := by decide +kernel
theorem dX11_text_75 : decode cX11_text 75 = .ok (.aload_n 0, 1) := by decide +kernel
theorem dX11_text_76 : decode cX11_text 76 = .ok (.getfield 76, 3) := by decide +kernel
theorem dX11_text_79 : decode cX11_text 79 = .ok (.ifCond .le 11, 3) := by decide +kernel
theorem dX11_text_82 : decode cX11_text 82 = .ok (.bipush (-10), 2) := by decide +kernel
theorem dX11_text_84 : decode cX11_text 84 = .ok (.aload_n 0, 1) := by decide +kernel
theorem dX11_text_85 : decode cX11_text 85 = .ok (.getfield 82, 3) := by decide +kernel
theorem dX11_text_88 : decode cX11_text 88 = .ok (.isub, 1) := by decide +kernel
theorem dX11_text_89 : decode cX11_text 89 = .ok (.ireturn, 1) := by decide +kernel
theorem dX11_text_90 : decode cX11_text 90 = .ok (.aload_n 0, 1) := by decide +kernel
theorem dX11_text_91 : decode cX11_text 91 = .ok (.invokevirtual 57, 3) := by decide +kernel
theorem dX11_text_94 : decode cX11_text 94 = .ok (.iload_n 1, 1) := by decide +kernel
theorem dX11_text_95 : decode cX11_text 95 = .ok (.ireturn, 1) := by decide +kernel
theorem dX11_fault_0 : decode cX11_fault 0 = .ok (.aload_n 0, 1) := by decide +kernel
theorem dX11_fault_1 : decode cX11_fault 1 = .ok (.getfield 76, 3) := by decide +kernel
theorem dX11_fault_4 : decode cX11_fault 4 = .ok (.ireturn, 1) := by decide +kernel
theorem dX11_rule_0 : decode cX11_rule 0 = .ok (.iload_n 1, 1) := by decide +kernel
theorem dX11_rule_1 : decode cX11_rule 1 = .ok (.i2l, 1) := by decide +kernel
theorem dX11_rule_2 : decode cX11_rule 2 = .ok (.lconst 0, 1) := by decide +kernel
theorem dX11_rule_3 : decode cX11_rule 3 = .ok (.ldc2_w 144, 3) := by decide +kernel
theorem dX11_rule_6 : decode cX11_rule 6 = .ok (.invokestatic 72, 3) := by decide +kernel
theorem dX11_rule_9 : decode cX11_rule 9 = .ok (.ifCond .eq 12, 3) := by decide +kernel
theorem dX11_rule_12 : decode cX11_rule 12 = .ok (.aload_n 0, 1) := by decide +kernel
theorem dX11_rule_13 : decode cX11_rule 13 = .ok (.getfield 17, 3) := by decide +kernel
theorem dX11_rule_16 : decode cX11_rule 16 = .ok (.iload_n 1, 1) := by decide +kernel
theorem dX11_rule_17 : decode cX11_rule 17 = .ok (.iaload, 1) := by decide +kernel
theorem dX11_rule_18 : decode cX11_rule 18 = .ok (.goto 4, 3) := by decide +kernel
theorem dX11_rule_21 : decode cX11_rule 21 = .ok (.iconst (-1), 1) := by decide +kernel
theorem dX11_rule_22 : decode cX11_rule 22 = .ok (.ireturn, 1) := by decide +kernel
theorem dX11_isCell_0 : decode cX11_isCell 0 = .ok (.iload_n 0, 1) := by decide +kernel
theorem dX11_isCell_1 : decode cX11_isCell 1 = .ok (.i2l, 1) := by decide +kernel
theorem dX11_isCell_2 : decode cX11_isCell 2 = .ok (.lconst 0, 1) := by decide +kernel
theorem dX11_isCell_3 : decode cX11_isCell 3 = .ok (.ldc2_w 146, 3) := by decide +kernel
theorem dX11_isCell_6 : decode cX11_isCell 6 = .ok (.invokestatic 72, 3) := by decide +kernel
theorem dX11_isCell_9 : decode cX11_isCell 9 = .ok (.ireturn, 1) := by decide +kernel
theorem dX11_cell_0 : decode cX11_cell 0 = .ok (.iload_n 1, 1) := by decide +kernel
theorem dX11_cell_1 : decode cX11_cell 1 = .ok (.invokestatic 148, 3) := by decide +kernel
theorem dX11_cell_4 : decode cX11_cell 4 = .ok (.ifCond .eq 12, 3) := by decide +kernel
theorem dX11_cell_7 : decode cX11_cell 7 = .ok (.aload_n 0, 1) := by decide +kernel
theorem dX11_cell_8 : decode cX11_cell 8 = .ok (.getfield 7, 3) := by decide +kernel
theorem dX11_cell_11 : decode cX11_cell 11 = .ok (.iload_n 1, 1) := by decide +kernel
theorem dX11_cell_12 : decode cX11_cell 12 = .ok (.iaload, 1) := by decide +kernel
theorem dX11_cell_13 : decode cX11_cell 13 = .ok (.goto 4, 3) := by decide +kernel
theorem dX11_cell_16 : decode cX11_cell 16 = .ok (.iconst (-1), 1) := by decide +kernel
theorem dX11_cell_17 : decode cX11_cell 17 = .ok (.ireturn, 1) := by decide +kernel
theorem dX11_isThere_0 : decode cX11_isThere 0 = .ok (.aload_n 0, 1) := by decide +kernel
theorem dX11_isThere_1 : decode cX11_isThere 1 = .ok (.getfield 7, 3) := by decide +kernel
theorem dX11_isThere_4 : decode cX11_isThere 4 = .ok (.sipush 132, 3) := by decide +kernel
theorem dX11_isThere_7 : decode cX11_isThere 7 = .ok (.iload_n 1, 1) := by decide +kernel
theorem dX11_isThere_8 : decode cX11_isThere 8 = .ok (.iadd, 1) := by decide +kernel
theorem dX11_isThere_9 : decode cX11_isThere 9 = .ok (.iaload, 1) := by decide +kernel
theorem dX11_isThere_10 : decode cX11_isThere 10 = .ok (.ifCond .ne 7, 3) := by decide +kernel
theorem dX11_isThere_13 : decode cX11_isThere 13 = .ok (.iconst 1, 1) := by decide +kernel
theorem dX11_isThere_14 : decode cX11_isThere 14 = .ok (.goto 4, 3) := by decide +kernel
theorem dX11_isThere_17 : decode cX11_isThere 17 = .ok (.iconst 0, 1) := by decide +kernel
theorem dX11_isThere_18 : decode cX11_isThere 18 = .ok (.ireturn, 1) := by decide +kernel
theorem dX11_inCell_0 : decode cX11_inCell 0 = .ok (.iconst 0, 1) := by decide +kernel
theorem dX11_inCell_1 : decode cX11_inCell 1 = .ok (.istore_n 3, 1) := by decide +kernel
theorem dX11_inCell_2 : decode cX11_inCell 2 = .ok (.iload_n 3, 1) := by decide +kernel
theorem dX11_inCell_3 : decode cX11_inCell 3 = .ok (.aload_n 0, 1) := by decide +kernel
theorem dX11_inCell_4 : decode cX11_inCell 4 = .ok (.getfield 7, 3) := by decide +kernel
theorem dX11_inCell_7 : decode cX11_inCell 7 = .ok (.sipush 176, 3) := by decide +kernel
theorem dX11_inCell_10 : decode cX11_inCell 10 = .ok (.iaload, 1) := by decide +kernel
theorem dX11_inCell_11 : decode cX11_inCell 11 = .ok (.if_icmp .ge 37, 3) := by decide +kernel
theorem dX11_inCell_14 : decode cX11_inCell 14 = .ok (.iload_n 3, 1) := by decide +kernel
theorem dX11_inCell_15 : decode cX11_inCell 15 = .ok (.iload_n 2, 1) := by decide +kernel
theorem dX11_inCell_16 : decode cX11_inCell 16 = .ok (.if_icmp .eq 26, 3) := by decide +kernel
theorem dX11_inCell_19 : decode cX11_inCell 19 = .ok (.aload_n 0, 1) := by decide +kernel
theorem dX11_inCell_20 : decode cX11_inCell 20 = .ok (.iload_n 3, 1) := by decide +kernel
theorem dX11_inCell_21 : decode cX11_inCell 21 = .ok (.invokevirtual 152, 3) := by decide +kernel
theorem dX11_inCell_24 : decode cX11_inCell 24 = .ok (.ifCond .eq 18, 3) := by decide +kernel
theorem dX11_inCell_27 : decode cX11_inCell 27 = .ok (.aload_n 0, 1) := by decide +kernel
theorem dX11_inCell_28 : decode cX11_inCell 28 = .ok (.getfield 7, 3) := by decide +kernel
theorem dX11_inCell_31 : decode cX11_inCell 31 = .ok (.bipush 96, 2) := by decide +kernel
theorem dX11_inCell_33 : decode cX11_inCell 33 = .ok (.iload_n 3, 1) := by decide +kernel
theorem dX11_inCell_34 : decode cX11_inCell 34 = .ok (.iadd, 1) := by decide +kernel
theorem dX11_inCell_35 : decode cX11_inCell 35 = .ok (.iaload, 1) := by decide +kernel
theorem dX11_inCell_36 : decode cX11_inCell 36 = .ok (.iload_n 1, 1) := by decide +kernel
theorem dX11_inCell_37 : decode cX11_inCell 37 = .ok (.if_icmp .ne 5, 3) := by decide +kernel
theorem dX11_inCell_40 : decode cX11_inCell 40 = .ok (.iload_n 3, 1) := by decide +kernel
theorem dX11_inCell_41 : decode cX11_inCell 41 = .ok (.ireturn, 1) := by decide +kernel
theorem dX11_inCell_42 : decode cX11_inCell 42 = .ok (.iinc 3 1, 3) := by decide +kernel
theorem dX11_inCell_45 : decode cX11_inCell 45 = .ok (.goto (-43), 3) := by decide +kernel
theorem dX11_inCell_48 : decode cX11_inCell 48 = .ok (.bipush (-4), 2) := by decide +kernel
theorem dX11_inCell_50 : decode cX11_inCell 50 = .ok (.ireturn, 1) := by decide +kernel
theorem dX11_isShut_0 : decode cX11_isShut 0 = .ok (.iload_n 0, 1) := by decide +kernel
theorem dX11_isShut_1 : decode cX11_isShut 1 = .ok (.iconst 5, 1) := by decide +kernel
theorem dX11_isShut_2 : decode cX11_isShut 2 = .ok (.if_icmp .eq 9, 3) := by decide +kernel
theorem dX11_isShut_5 : decode cX11_isShut 5 = .ok (.iload_n 0, 1) := by decide +kernel
theorem dX11_isShut_6 : decode cX11_isShut 6 = .ok (.bipush 6, 2) := by decide +kernel
theorem dX11_isShut_8 : decode cX11_isShut 8 = .ok (.if_icmp .ne 7, 3) := by decide +kernel
theorem dX11_isShut_11 : decode cX11_isShut 11 = .ok (.iconst 1, 1) := by decide +kernel
theorem dX11_isShut_12 : decode cX11_isShut 12 = .ok (.goto 4, 3) := by decide +kernel
theorem dX11_isShut_15 : decode cX11_isShut 15 = .ok (.iconst 0, 1) := by decide +kernel
theorem dX11_isShut_16 : decode cX11_isShut 16 = .ok (.ireturn, 1) := by decide +kernel
theorem dX11_put_0 : decode cX11_put 0 = .ok (.iload_n 1, 1) := by decide +kernel
theorem dX11_put_1 : decode cX11_put 1 = .ok (.invokestatic 148, 3) := by decide +kernel
theorem dX11_put_4 : decode cX11_put 4 = .ok (.ifCond .eq 15, 3) := by decide +kernel
theorem dX11_put_7 : decode cX11_put 7 = .ok (.iload_n 2, 1) := by decide +kernel
theorem dX11_put_8 : decode cX11_put 8 = .ok (.i2l, 1) := by decide +kernel
theorem dX11_put_9 : decode cX11_put 9 = .ok (.lconst 0, 1) := by decide +kernel
theorem dX11_put_10 : decode cX11_put 10 = .ok (.ldc2_w 155, 3) := by decide +kernel
theorem dX11_put_13 : decode cX11_put 13 = .ok (.invokestatic 72, 3) := by decide +kernel
theorem dX11_put_16 : decode cX11_put 16 = .ok (.ifCond .ne 5, 3) := by decide +kernel
theorem dX11_put_19 : decode cX11_put 19 = .ok (.iconst (-1), 1) := by decide +kernel
theorem dX11_put_20 : decode cX11_put 20 = .ok (.ireturn, 1) := by decide +kernel
theorem dX11_put_21 : decode cX11_put 21 = .ok (.iload_n 2, 1) := by decide +kernel
theorem dX11_put_22 : decode cX11_put 22 = .ok (.invokestatic 157, 3) := by decide +kernel
theorem dX11_put_25 : decode cX11_put 25 = .ok (.ifCond .eq 18, 3) := by decide +kernel
theorem dX11_put_28 : decode cX11_put 28 = .ok (.aload_n 0, 1) := by decide +kernel
theorem dX11_put_29 : decode cX11_put 29 = .ok (.iload_n 1, 1) := by decide +kernel
theorem dX11_put_30 : decode cX11_put 30 = .ok (.bipush (-4), 2) := by decide +kernel
theorem dX11_put_32 : decode cX11_put 32 = .ok (.invokevirtual 160, 3) := by decide +kernel
theorem dX11_put_35 : decode cX11_put 35 = .ok (.bipush (-4), 2) := by decide +kernel
theorem dX11_put_37 : decode cX11_put 37 = .ok (.if_icmp .eq 6, 3) := by decide +kernel
theorem dX11_put_40 : decode cX11_put 40 = .ok (.bipush (-2), 2) := by decide +kernel
theorem dX11_put_42 : decode cX11_put 42 = .ok (.ireturn, 1) := by decide +kernel
theorem dX11_put_43 : decode cX11_put 43 = .ok (.aload_n 0, 1) := by decide +kernel
theorem dX11_put_44 : decode cX11_put 44 = .ok (.getfield 7, 3) := by decide +kernel
theorem dX11_put_47 : decode cX11_put 47 = .ok (.iload_n 1, 1) := by decide +kernel
theorem dX11_put_48 : decode cX11_put 48 = .ok (.iaload, 1) := by decide +kernel
theorem dX11_put_49 : decode cX11_put 49 = .ok (.istore_n 3, 1) := by decide +kernel
theorem dX11_put_50 : decode cX11_put 50 = .ok (.aload_n 0, 1) := by decide +kernel
theorem dX11_put_51 : decode cX11_put 51 = .ok (.getfield 7, 3) := by decide +kernel
theorem dX11_put_54 : decode cX11_put 54 = .ok (.iload_n 1, 1) := by decide +kernel
theorem dX11_put_55 : decode cX11_put 55 = .ok (.iload_n 2, 1) := by decide +kernel
theorem dX11_put_56 : decode cX11_put 56 = .ok (.iastore, 1) := by decide +kernel
theorem dX11_put_57 : decode cX11_put 57 = .ok (.iload_n 3, 1) := by decide +kernel
theorem dX11_put_58 : decode cX11_put 58 = .ok (.ireturn, 1) := by decide +kernel
theorem dX11_heat_0 : decode cX11_heat 0 = .ok (.iload_n 1, 1) := by decide +kernel
theorem dX11_heat_1 : decode cX11_heat 1 = .ok (.i2l, 1) := by decide +kernel
theorem dX11_heat_2 : decode cX11_heat 2 = .ok (.lconst 0, 1) := by decide +kernel
theorem dX11_heat_3 : decode cX11_heat 3 = .ok (.ldc2_w 163, 3) := by decide +kernel
theorem dX11_heat_6 : decode cX11_heat 6 = .ok (.invokestatic 72, 3) := by decide +kernel
theorem dX11_heat_9 : decode cX11_heat 9 = .ok (.ifCond .ne 5, 3) := by decide +kernel
theorem dX11_heat_12 : decode cX11_heat 12 = .ok (.iconst (-1), 1) := by decide +kernel
theorem dX11_heat_13 : decode cX11_heat 13 = .ok (.ireturn, 1) := by decide +kernel
theorem dX11_heat_14 : decode cX11_heat 14 = .ok (.aload_n 0, 1) := by decide +kernel
theorem dX11_heat_15 : decode cX11_heat 15 = .ok (.getfield 7, 3) := by decide +kernel
theorem dX11_heat_18 : decode cX11_heat 18 = .ok (.sipush 169, 3) := by decide +kernel
theorem dX11_heat_21 : decode cX11_heat 21 = .ok (.iload_n 1, 1) := by decide +kernel
theorem dX11_heat_22 : decode cX11_heat 22 = .ok (.iastore, 1) := by decide +kernel
theorem dX11_heat_23 : decode cX11_heat 23 = .ok (.aload_n 0, 1) := by decide +kernel
theorem dX11_heat_24 : decode cX11_heat 24 = .ok (.getfield 7, 3) := by decide +kernel
theorem dX11_heat_27 : decode cX11_heat 27 = .ok (.sipush 170, 3) := by decide +kernel
theorem dX11_heat_30 : decode cX11_heat 30 = .ok (.iload_n 1, 1) := by decide +kernel
theorem dX11_heat_31 : decode cX11_heat 31 = .ok (.aload_n 0, 1) := by decide +kernel
theorem dX11_heat_32 : decode cX11_heat 32 = .ok (.getfield 7, 3) := by decide +kernel
theorem dX11_heat_35 : decode cX11_heat 35 = .ok (.sipush 170, 3) := by decide +kernel
theorem dX11_heat_38 : decode cX11_heat 38 = .ok (.iaload, 1) := by decide +kernel
theorem dX11_heat_39 : decode cX11_heat 39 = .ok (.iconst 1, 1) := by decide +kernel
theorem dX11_heat_40 : decode cX11_heat 40 = .ok (.if_icmp .ne 12, 3) := by decide +kernel
theorem dX11_heat_43 : decode cX11_heat 43 = .ok (.aload_n 0, 1) := by decide +kernel
theorem dX11_heat_44 : decode cX11_heat 44 = .ok (.getfield 17, 3) := by decide +kernel
theorem dX11_heat_47 : decode cX11_heat 47 = .ok (.iconst 1, 1) := by decide +kernel
theorem dX11_heat_48 : decode cX11_heat 48 = .ok (.iaload, 1) := by decide +kernel
theorem dX11_heat_49 : decode cX11_heat 49 = .ok (.goto 9, 3) := by decide +kernel
theorem dX11_heat_52 : decode cX11_heat 52 = .ok (.aload_n 0, 1) := by decide +kernel
theorem dX11_heat_53 : decode cX11_heat 53 = .ok (.getfield 17, 3) := by decide +kernel
theorem dX11_heat_56 : decode cX11_heat 56 = .ok (.iconst 0, 1) := by decide +kernel
theorem dX11_heat_57 : decode cX11_heat 57 = .ok (.iaload, 1) := by decide +kernel
theorem dX11_heat_58 : decode cX11_heat 58 = .ok (.if_icmp .lt 7, 3) := by decide +kernel
theorem dX11_heat_61 : decode cX11_heat 61 = .ok (.iconst 1, 1) := by decide +kernel
theorem dX11_heat_62 : decode cX11_heat 62 = .ok (.goto 4, 3) := by decide +kernel
theorem dX11_heat_65 : decode cX11_heat 65 = .ok (.iconst 0, 1) := by decide +kernel
theorem dX11_heat_66 : decode cX11_heat 66 = .ok (.invokestatic 120, 3) := by decide +kernel
theorem dX11_heat_69 : decode cX11_heat 69 = .ok (.iastore, 1) := by decide +kernel
theorem dX11_heat_70 : decode cX11_heat 70 = .ok (.aload_n 0, 1) := by decide +kernel
theorem dX11_heat_71 : decode cX11_heat 71 = .ok (.getfield 7, 3) := by decide +kernel
theorem dX11_heat_74 : decode cX11_heat 74 = .ok (.sipush 170, 3) := by decide +kernel
theorem dX11_heat_77 : decode cX11_heat 77 = .ok (.iaload, 1) := by decide +kernel
theorem dX11_heat_78 : decode cX11_heat 78 = .ok (.ireturn, 1) := by decide +kernel
theorem dX11_isDrop_0 : decode cX11_isDrop 0 = .ok (.iload_n 0, 1) := by decide +kernel
theorem dX11_isDrop_1 : decode cX11_isDrop 1 = .ok (.invokestatic 148, 3) := by decide +kernel
theorem dX11_isDrop_4 : decode cX11_isDrop 4 = .ok (.ifCond .eq 31, 3) := by decide +kernel
theorem dX11_isDrop_7 : decode cX11_isDrop 7 = .ok (.iload_n 1, 1) := by decide +kernel
theorem dX11_isDrop_8 : decode cX11_isDrop 8 = .ok (.i2l, 1) := by decide +kernel
theorem dX11_isDrop_9 : decode cX11_isDrop 9 = .ok (.lconst 1, 1) := by decide +kernel
theorem dX11_isDrop_10 : decode cX11_isDrop 10 = .ok (.ldc2_w 165, 3) := by decide +kernel
theorem dX11_isDrop_13 : decode cX11_isDrop 13 = .ok (.invokestatic 72, 3) := by decide +kernel
theorem dX11_isDrop_16 : decode cX11_isDrop 16 = .ok (.ifCond .eq 19, 3) := by decide +kernel
theorem dX11_isDrop_19 : decode cX11_isDrop 19 = .ok (.iload_n 2, 1) := by decide +kernel
theorem dX11_isDrop_20 : decode cX11_isDrop 20 = .ok (.i2l, 1) := by decide +kernel
theorem dX11_isDrop_21 : decode cX11_isDrop 21 = .ok (.lconst 0, 1) := by decide +kernel
theorem dX11_isDrop_22 : decode cX11_isDrop 22 = .ok (.ldc2_w 167, 3) := by decide +kernel
theorem dX11_isDrop_25 : decode cX11_isDrop 25 = .ok (.invokestatic 72, 3) := by decide +kernel
theorem dX11_isDrop_28 : decode cX11_isDrop 28 = .ok (.ifCond .eq 7, 3) := by decide +kernel
theorem dX11_isDrop_31 : decode cX11_isDrop 31 = .ok (.iconst 1, 1) := by decide +kernel
theorem dX11_isDrop_32 : decode cX11_isDrop 32 = .ok (.goto 4, 3) := by decide +kernel
theorem dX11_isDrop_35 : decode cX11_isDrop 35 = .ok (.iconst 0, 1) := by decide +kernel
theorem dX11_isDrop_36 : decode cX11_isDrop 36 = .ok (.ireturn, 1) := by decide +kernel
theorem dX11_drop_0 : decode cX11_drop 0 = .ok (.iload_n 1, 1) := by decide +kernel
theorem dX11_drop_1 : decode cX11_drop 1 = .ok (.iload_n 2, 1) := by decide +kernel
theorem dX11_drop_2 : decode cX11_drop 2 = .ok (.iload_n 3, 1) := by decide +kernel
theorem dX11_drop_3 : decode cX11_drop 3 = .ok (.invokestatic 169, 3) := by decide +kernel
theorem dX11_drop_6 : decode cX11_drop 6 = .ok (.ifCond .ne 5, 3) := by decide +kernel
theorem dX11_drop_9 : decode cX11_drop 9 = .ok (.iconst (-1), 1) := by decide +kernel
theorem dX11_drop_10 : decode cX11_drop 10 = .ok (.ireturn, 1) := by decide +kernel
theorem dX11_drop_11 : decode cX11_drop 11 = .ok (.aload_n 0, 1) := by decide +kernel
theorem dX11_drop_12 : decode cX11_drop 12 = .ok (.getfield 7, 3) := by decide +kernel
theorem dX11_drop_15 : decode cX11_drop 15 = .ok (.iload_n 1, 1) := by decide +kernel
theorem dX11_drop_16 : decode cX11_drop 16 = .ok (.iaload, 1) := by decide +kernel
theorem dX11_drop_17 : decode cX11_drop 17 = .ok (.invokestatic 157, 3) := by decide +kernel
theorem dX11_drop_20 : decode cX11_drop 20 = .ok (.ifCond .ne 15, 3) := by decide +kernel
theorem dX11_drop_23 : decode cX11_drop 23 = .ok (.aload_n 0, 1) := by decide +kernel
theorem dX11_drop_24 : decode cX11_drop 24 = .ok (.iload_n 1, 1) := by decide +kernel
theorem dX11_drop_25 : decode cX11_drop 25 = .ok (.bipush (-4), 2) := by decide +kernel
theorem dX11_drop_27 : decode cX11_drop 27 = .ok (.invokevirtual 160, 3) := by decide +kernel
theorem dX11_drop_30 : decode cX11_drop 30 = .ok (.bipush (-4), 2) := by decide +kernel
theorem dX11_drop_32 : decode cX11_drop 32 = .ok (.if_icmp .eq 6, 3) := by decide +kernel
theorem dX11_drop_35 : decode cX11_drop 35 = .ok (.bipush (-2), 2) := by decide +kernel
theorem dX11_drop_37 : decode cX11_drop 37 = .ok (.ireturn, 1) := by decide +kernel
theorem dX11_drop_38 : decode cX11_drop 38 = .ok (.aload_n 0, 1) := by decide +kernel
theorem dX11_drop_39 : decode cX11_drop 39 = .ok (.getfield 7, 3) := by decide +kernel
theorem dX11_drop_42 : decode cX11_drop 42 = .ok (.sipush 176, 3) := by decide +kernel
theorem dX11_drop_45 : decode cX11_drop 45 = .ok (.iaload, 1) := by decide +kernel
theorem dX11_drop_46 : decode cX11_drop 46 = .ok (.bipush 12, 2) := by decide +kernel
theorem dX11_drop_48 : decode cX11_drop 48 = .ok (.if_icmp .ne 6, 3) := by decide +kernel
theorem dX11_drop_51 : decode cX11_drop 51 = .ok (.bipush (-3), 2) := by decide +kernel
theorem dX11_drop_53 : decode cX11_drop 53 = .ok (.ireturn, 1) := by decide +kernel
theorem dX11_drop_54 : decode cX11_drop 54 = .ok (.aload_n 0, 1) := by decide +kernel
theorem dX11_drop_55 : decode cX11_drop 55 = .ok (.getfield 7, 3) := by decide +kernel
theorem dX11_drop_58 : decode cX11_drop 58 = .ok (.sipush 176, 3) := by decide +kernel
theorem dX11_drop_61 : decode cX11_drop 61 = .ok (.iaload, 1) := by decide +kernel
theorem dX11_drop_62 : decode cX11_drop 62 = .ok (.istore 4, 2) := by decide +kernel
theorem dX11_drop_64 : decode cX11_drop 64 = .ok (.aload_n 0, 1) := by decide +kernel
theorem dX11_drop_65 : decode cX11_drop 65 = .ok (.getfield 7, 3) := by decide +kernel
theorem dX11_drop_68 : decode cX11_drop 68 = .ok (.bipush 96, 2) := by decide +kernel
theorem dX11_drop_70 : decode cX11_drop 70 = .ok (.iload 4, 2) := by decide +kernel
theorem dX11_drop_72 : decode cX11_drop 72 = .ok (.iadd, 1) := by decide +kernel
theorem dX11_drop_73 : decode cX11_drop 73 = .ok (.iload_n 1, 1) := by decide +kernel
theorem dX11_drop_74 : decode cX11_drop 74 = .ok (.iastore, 1) := by decide +kernel
theorem dX11_drop_75 : decode cX11_drop 75 = .ok (.aload_n 0, 1) := by decide +kernel
theorem dX11_drop_76 : decode cX11_drop 76 = .ok (.getfield 7, 3) := by decide +kernel
theorem dX11_drop_79 : decode cX11_drop 79 = .ok (.bipush 108, 2) := by decide +kernel
theorem dX11_drop_81 : decode cX11_drop 81 = .ok (.iload 4, 2) := by decide +kernel
theorem dX11_drop_83 : decode cX11_drop 83 = .ok (.iadd, 1) := by decide +kernel
theorem dX11_drop_84 : decode cX11_drop 84 = .ok (.iload_n 2, 1) := by decide +kernel
theorem dX11_drop_85 : decode cX11_drop 85 = .ok (.iastore, 1) := by decide +kernel
theorem dX11_drop_86 : decode cX11_drop 86 = .ok (.aload_n 0, 1) := by decide +kernel
theorem dX11_drop_87 : decode cX11_drop 87 = .ok (.getfield 7, 3) := by decide +kernel
theorem dX11_drop_90 : decode cX11_drop 90 = .ok (.bipush 120, 2) := by decide +kernel
theorem dX11_drop_92 : decode cX11_drop 92 = .ok (.iload 4, 2) := by decide +kernel
theorem dX11_drop_94 : decode cX11_drop 94 = .ok (.iadd, 1) := by decide +kernel
theorem dX11_drop_95 : decode cX11_drop 95 = .ok (.iload_n 3, 1) := by decide +kernel
theorem dX11_drop_96 : decode cX11_drop 96 = .ok (.iastore, 1) := by decide +kernel
theorem dX11_drop_97 : decode cX11_drop 97 = .ok (.aload_n 0, 1) := by decide +kernel
theorem dX11_drop_98 : decode cX11_drop 98 = .ok (.getfield 7, 3) := by decide +kernel
theorem dX11_drop_101 : decode cX11_drop 101 = .ok (.sipush 132, 3) := by decide +kernel
theorem dX11_drop_104 : decode cX11_drop 104 = .ok (.iload 4, 2) := by decide +kernel
theorem dX11_drop_106 : decode cX11_drop 106 = .ok (.iadd, 1) := by decide +kernel
theorem dX11_drop_107 : decode cX11_drop 107 = .ok (.iconst 0, 1) := by decide +kernel
theorem dX11_drop_108 : decode cX11_drop 108 = .ok (.iastore, 1) := by decide +kernel
theorem dX11_drop_109 : decode cX11_drop 109 = .ok (.aload_n 0, 1) := by decide +kernel
theorem dX11_drop_110 : decode cX11_drop 110 = .ok (.getfield 7, 3) := by decide +kernel
theorem dX11_drop_113 : decode cX11_drop 113 = .ok (.sipush 144, 3) := by decide +kernel
theorem dX11_drop_116 : decode cX11_drop 116 = .ok (.iload 4, 2) := by decide +kernel
theorem dX11_drop_118 : decode cX11_drop 118 = .ok (.iadd, 1) := by decide +kernel
theorem dX11_drop_119 : decode cX11_drop 119 = .ok (.bipush (-4), 2) := by decide +kernel
theorem dX11_drop_121 : decode cX11_drop 121 = .ok (.iastore, 1) := by decide +kernel
theorem dX11_drop_122 : decode cX11_drop 122 = .ok (.aload_n 0, 1) := by decide +kernel
theorem dX11_drop_123 : decode cX11_drop 123 = .ok (.getfield 7, 3) := by decide +kernel
theorem dX11_drop_126 : decode cX11_drop 126 = .ok (.sipush 156, 3) := by decide +kernel
theorem dX11_drop_129 : decode cX11_drop 129 = .ok (.iload 4, 2) := by decide +kernel
theorem dX11_drop_131 : decode cX11_drop 131 = .ok (.iadd, 1) := by decide +kernel
theorem dX11_drop_132 : decode cX11_drop 132 = .ok (.bipush (-4), 2) := by decide +kernel
theorem dX11_drop_134 : decode cX11_drop 134 = .ok (.iastore, 1) := by decide +kernel
theorem dX11_drop_135 : decode cX11_drop 135 = .ok (.aload_n 0, 1) := by decide +kernel
theorem dX11_drop_136 : decode cX11_drop 136 = .ok (.getfield 7, 3) := by decide +kernel
theorem dX11_drop_139 : decode cX11_drop 139 = .ok (.sipush 174, 3) := by decide +kernel
theorem dX11_drop_142 : decode cX11_drop 142 = .ok (.dup2, 1) := by decide +kernel
theorem dX11_drop_143 : decode cX11_drop 143 = .ok (.iaload, 1) := by decide +kernel
theorem dX11_drop_144 : decode cX11_drop 144 = .ok (.iload_n 2, 1) := by decide +kernel
theorem dX11_drop_145 : decode cX11_drop 145 = .ok (.iadd, 1) := by decide +kernel
theorem dX11_drop_146 : decode cX11_drop 146 = .ok (.iastore, 1) := by decide +kernel
theorem dX11_drop_147 : decode cX11_drop 147 = .ok (.aload_n 0, 1) := by decide +kernel
theorem dX11_drop_148 : decode cX11_drop 148 = .ok (.getfield 7, 3) := by decide +kernel
theorem dX11_drop_151 : decode cX11_drop 151 = .ok (.sipush 176, 3) := by decide +kernel
theorem dX11_drop_154 : decode cX11_drop 154 = .ok (.iload 4, 2) := by decide +kernel
theorem dX11_drop_156 : decode cX11_drop 156 = .ok (.iconst 1, 1) := by decide +kernel
theorem dX11_drop_157 : decode cX11_drop 157 = .ok (.iadd, 1) := by decide +kernel
theorem dX11_drop_158 : decode cX11_drop 158 = .ok (.iastore, 1) := by decide +kernel
theorem dX11_drop_159 : decode cX11_drop 159 = .ok (.iload 4, 2) := by decide +kernel
theorem dX11_drop_161 : decode cX11_drop 161 = .ok (.ireturn, 1) := by decide +kernel
theorem dX11_nextTo_0 : decode cX11_nextTo 0 = .ok (.iload_n 0, 1) := by decide +kernel
theorem dX11_nextTo_1 : decode cX11_nextTo 1 = .ok (.bipush 12, 2) := by decide +kernel
theorem dX11_nextTo_3 : decode cX11_nextTo 3 = .ok (.idiv, 1) := by decide +kernel
theorem dX11_nextTo_4 : decode cX11_nextTo 4 = .ok (.iload_n 1, 1) := by decide +kernel
theorem dX11_nextTo_5 : decode cX11_nextTo 5 = .ok (.ifCond .ne 7, 3) := by decide +kernel
theorem dX11_nextTo_8 : decode cX11_nextTo 8 = .ok (.iconst 1, 1) := by decide +kernel
theorem dX11_nextTo_9 : decode cX11_nextTo 9 = .ok (.goto 4, 3) := by decide +kernel
theorem dX11_nextTo_12 : decode cX11_nextTo 12 = .ok (.iconst 0, 1) := by decide +kernel
theorem dX11_nextTo_13 : decode cX11_nextTo 13 = .ok (.invokestatic 120, 3) := by decide +kernel
theorem dX11_nextTo_16 : decode cX11_nextTo 16 = .ok (.isub, 1) := by decide +kernel
theorem dX11_nextTo_17 : decode cX11_nextTo 17 = .ok (.iload_n 1, 1) := by decide +kernel
theorem dX11_nextTo_18 : decode cX11_nextTo 18 = .ok (.iconst 2, 1) := by decide +kernel
theorem dX11_nextTo_19 : decode cX11_nextTo 19 = .ok (.if_icmp .ne 7, 3) := by decide +kernel
theorem dX11_nextTo_22 : decode cX11_nextTo 22 = .ok (.iconst 1, 1) := by decide +kernel
theorem dX11_nextTo_23 : decode cX11_nextTo 23 = .ok (.goto 4, 3) := by decide +kernel
theorem dX11_nextTo_26 : decode cX11_nextTo 26 = .ok (.iconst 0, 1) := by decide +kernel
theorem dX11_nextTo_27 : decode cX11_nextTo 27 = .ok (.invokestatic 120, 3) := by decide +kernel
theorem dX11_nextTo_30 : decode cX11_nextTo 30 = .ok (.iadd, 1) := by decide +kernel
theorem dX11_nextTo_31 : decode cX11_nextTo 31 = .ok (.istore_n 2, 1) := by decide +kernel
theorem dX11_nextTo_32 : decode cX11_nextTo 32 = .ok (.iload_n 0, 1) := by decide +kernel
theorem dX11_nextTo_33 : decode cX11_nextTo 33 = .ok (.bipush 12, 2) := by decide +kernel
theorem dX11_nextTo_35 : decode cX11_nextTo 35 = .ok (.irem, 1) := by decide +kernel
theorem dX11_nextTo_36 : decode cX11_nextTo 36 = .ok (.iload_n 1, 1) := by decide +kernel
theorem dX11_nextTo_37 : decode cX11_nextTo 37 = .ok (.iconst 1, 1) := by decide +kernel
theorem dX11_nextTo_38 : decode cX11_nextTo 38 = .ok (.if_icmp .ne 7, 3) := by decide +kernel
theorem dX11_nextTo_41 : decode cX11_nextTo 41 = .ok (.iconst 1, 1) := by decide +kernel
theorem dX11_nextTo_42 : decode cX11_nextTo 42 = .ok (.goto 4, 3) := by decide +kernel
theorem dX11_nextTo_45 : decode cX11_nextTo 45 = .ok (.iconst 0, 1) := by decide +kernel
theorem dX11_nextTo_46 : decode cX11_nextTo 46 = .ok (.invokestatic 120, 3) := by decide +kernel
theorem dX11_nextTo_49 : decode cX11_nextTo 49 = .ok (.iadd, 1) := by decide +kernel
theorem dX11_nextTo_50 : decode cX11_nextTo 50 = .ok (.iload_n 1, 1) := by decide +kernel
theorem dX11_nextTo_51 : decode cX11_nextTo 51 = .ok (.iconst 3, 1) := by decide +kernel
theorem dX11_nextTo_52 : decode cX11_nextTo 52 = .ok (.if_icmp .ne 7, 3) := by decide +kernel
theorem dX11_nextTo_55 : decode cX11_nextTo 55 = .ok (.iconst 1, 1) := by decide +kernel
theorem dX11_nextTo_56 : decode cX11_nextTo 56 = .ok (.goto 4, 3) := by decide +kernel
theorem dX11_nextTo_59 : decode cX11_nextTo 59 = .ok (.iconst 0, 1) := by decide +kernel
theorem dX11_nextTo_60 : decode cX11_nextTo 60 = .ok (.invokestatic 120, 3) := by decide +kernel
theorem dX11_nextTo_63 : decode cX11_nextTo 63 = .ok (.isub, 1) := by decide +kernel
theorem dX11_nextTo_64 : decode cX11_nextTo 64 = .ok (.istore_n 3, 1) := by decide +kernel
theorem dX11_nextTo_65 : decode cX11_nextTo 65 = .ok (.iload_n 2, 1) := by decide +kernel
theorem dX11_nextTo_66 : decode cX11_nextTo 66 = .ok (.i2l, 1) := by decide +kernel
theorem dX11_nextTo_67 : decode cX11_nextTo 67 = .ok (.lconst 0, 1) := by decide +kernel
theorem dX11_nextTo_68 : decode cX11_nextTo 68 = .ok (.ldc2_w 155, 3) := by decide +kernel
theorem dX11_nextTo_71 : decode cX11_nextTo 71 = .ok (.invokestatic 72, 3) := by decide +kernel
theorem dX11_nextTo_74 : decode cX11_nextTo 74 = .ok (.ifCond .eq 24, 3) := by decide +kernel
theorem dX11_nextTo_77 : decode cX11_nextTo 77 = .ok (.iload_n 3, 1) := by decide +kernel
theorem dX11_nextTo_78 : decode cX11_nextTo 78 = .ok (.i2l, 1) := by decide +kernel
theorem dX11_nextTo_79 : decode cX11_nextTo 79 = .ok (.lconst 0, 1) := by decide +kernel
theorem dX11_nextTo_80 : decode cX11_nextTo 80 = .ok (.ldc2_w 173, 3) := by decide +kernel
theorem dX11_nextTo_83 : decode cX11_nextTo 83 = .ok (.invokestatic 72, 3) := by decide +kernel
theorem dX11_nextTo_86 : decode cX11_nextTo 86 = .ok (.ifCond .eq 12, 3) := by decide +kernel
theorem dX11_nextTo_89 : decode cX11_nextTo 89 = .ok (.bipush 12, 2) := by decide +kernel
theorem dX11_nextTo_91 : decode cX11_nextTo 91 = .ok (.iload_n 2, 1) := by decide +kernel
theorem dX11_nextTo_92 : decode cX11_nextTo 92 = .ok (.imul, 1) := by decide +kernel
theorem dX11_nextTo_93 : decode cX11_nextTo 93 = .ok (.iload_n 3, 1) := by decide +kernel
theorem dX11_nextTo_94 : decode cX11_nextTo 94 = .ok (.iadd, 1) := by decide +kernel
theorem dX11_nextTo_95 : decode cX11_nextTo 95 = .ok (.goto 5, 3) := by decide +kernel
theorem dX11_nextTo_98 : decode cX11_nextTo 98 = .ok (.bipush (-4), 2) := by decide +kernel
theorem dX11_nextTo_100 : decode cX11_nextTo 100 = .ok (.ireturn, 1) := by decide +kernel
theorem dX11_isWall_0 : decode cX11_isWall 0 = .ok (.iload_n 1, 1) := by decide +kernel
theorem dX11_isWall_1 : decode cX11_isWall 1 = .ok (.bipush (-4), 2) := by decide +kernel
theorem dX11_isWall_3 : decode cX11_isWall 3 = .ok (.if_icmp .eq 13, 3) := by decide +kernel
theorem dX11_isWall_6 : decode cX11_isWall 6 = .ok (.aload_n 0, 1) := by decide +kernel
theorem dX11_isWall_7 : decode cX11_isWall 7 = .ok (.getfield 7, 3) := by decide +kernel
theorem dX11_isWall_10 : decode cX11_isWall 10 = .ok (.iload_n 1, 1) := by decide +kernel
theorem dX11_isWall_11 : decode cX11_isWall 11 = .ok (.iaload, 1) := by decide +kernel
theorem dX11_isWall_12 : decode cX11_isWall 12 = .ok (.iconst 5, 1) := by decide +kernel
theorem dX11_isWall_13 : decode cX11_isWall 13 = .ok (.if_icmp .ne 7, 3) := by decide +kernel
theorem dX11_isWall_16 : decode cX11_isWall 16 = .ok (.iconst 1, 1) := by decide +kernel
theorem dX11_isWall_17 : decode cX11_isWall 17 = .ok (.goto 4, 3) := by decide +kernel
theorem dX11_isWall_20 : decode cX11_isWall 20 = .ok (.iconst 0, 1) := by decide +kernel
theorem dX11_isWall_21 : decode cX11_isWall 21 = .ok (.ireturn, 1) := by decide +kernel
theorem dX11_draws_0 : decode cX11_draws 0 = .ok (.aload_n 0, 1) := by decide +kernel
theorem dX11_draws_1 : decode cX11_draws 1 = .ok (.getfield 7, 3) := by decide +kernel
theorem dX11_draws_4 : decode cX11_draws 4 = .ok (.sipush 175, 3) := by decide +kernel
theorem dX11_draws_7 : decode cX11_draws 7 = .ok (.aload_n 0, 1) := by decide +kernel
theorem dX11_draws_8 : decode cX11_draws 8 = .ok (.getfield 7, 3) := by decide +kernel
theorem dX11_draws_11 : decode cX11_draws 11 = .ok (.sipush 175, 3) := by decide +kernel
theorem dX11_draws_14 : decode cX11_draws 14 = .ok (.iaload, 1) := by decide +kernel
theorem dX11_draws_15 : decode cX11_draws 15 = .ok (.ldc 175, 2) := by decide +kernel
theorem dX11_draws_17 : decode cX11_draws 17 = .ok (.imul, 1) := by decide +kernel
theorem dX11_draws_18 : decode cX11_draws 18 = .ok (.sipush 12345, 3) := by decide +kernel
theorem dX11_draws_21 : decode cX11_draws 21 = .ok (.iadd, 1) := by decide +kernel
theorem dX11_draws_22 : decode cX11_draws 22 = .ok (.iastore, 1) := by decide +kernel
theorem dX11_draws_23 : decode cX11_draws 23 = .ok (.aload_n 0, 1) := by decide +kernel
theorem dX11_draws_24 : decode cX11_draws 24 = .ok (.getfield 7, 3) := by decide +kernel
theorem dX11_draws_27 : decode cX11_draws 27 = .ok (.sipush 175, 3) := by decide +kernel
theorem dX11_draws_30 : decode cX11_draws 30 = .ok (.iaload, 1) := by decide +kernel
theorem dX11_draws_31 : decode cX11_draws 31 = .ok (.bipush 16, 2) := by decide +kernel
theorem dX11_draws_33 : decode cX11_draws 33 = .ok (.ishr, 1) := by decide +kernel
theorem dX11_draws_34 : decode cX11_draws 34 = .ok (.iconst 3, 1) := by decide +kernel
theorem dX11_draws_35 : decode cX11_draws 35 = .ok (.iand, 1) := by decide +kernel
theorem dX11_draws_36 : decode cX11_draws 36 = .ok (.ireturn, 1) := by decide +kernel
theorem dX11_thins_0 : decode cX11_thins 0 = .ok (.iload_n 2, 1) := by decide +kernel
theorem dX11_thins_1 : decode cX11_thins 1 = .ok (.aload_n 0, 1) := by decide +kernel
theorem dX11_thins_2 : decode cX11_thins 2 = .ok (.getfield 17, 3) := by decide +kernel
theorem dX11_thins_5 : decode cX11_thins 5 = .ok (.bipush 7, 2) := by decide +kernel
theorem dX11_thins_7 : decode cX11_thins 7 = .ok (.iaload, 1) := by decide +kernel
theorem dX11_thins_8 : decode cX11_thins 8 = .ok (.irem, 1) := by decide +kernel
theorem dX11_thins_9 : decode cX11_thins 9 = .ok (.ifCond .ne 25, 3) := by decide +kernel
theorem dX11_thins_12 : decode cX11_thins 12 = .ok (.iload_n 1, 1) := by decide +kernel
theorem dX11_thins_13 : decode cX11_thins 13 = .ok (.iload_n 1, 1) := by decide +kernel
theorem dX11_thins_14 : decode cX11_thins 14 = .ok (.aload_n 0, 1) := by decide +kernel
theorem dX11_thins_15 : decode cX11_thins 15 = .ok (.getfield 17, 3) := by decide +kernel
theorem dX11_thins_18 : decode cX11_thins 18 = .ok (.iconst 5, 1) := by decide +kernel
theorem dX11_thins_19 : decode cX11_thins 19 = .ok (.iaload, 1) := by decide +kernel
theorem dX11_thins_20 : decode cX11_thins 20 = .ok (.if_icmp .lt 7, 3) := by decide +kernel
theorem dX11_thins_23 : decode cX11_thins 23 = .ok (.iconst 2, 1) := by decide +kernel
theorem dX11_thins_24 : decode cX11_thins 24 = .ok (.goto 4, 3) := by decide +kernel
theorem dX11_thins_27 : decode cX11_thins 27 = .ok (.iconst 1, 1) := by decide +kernel
theorem dX11_thins_28 : decode cX11_thins 28 = .ok (.invokestatic 176, 3) := by decide +kernel
theorem dX11_thins_31 : decode cX11_thins 31 = .ok (.goto 4, 3) := by decide +kernel
theorem dX11_thins_34 : decode cX11_thins 34 = .ok (.iconst 0, 1) := by decide +kernel
theorem dX11_thins_35 : decode cX11_thins 35 = .ok (.ireturn, 1) := by decide +kernel
theorem dX11_hisses_0 : decode cX11_hisses 0 = .ok (.iload_n 1, 1) := by decide +kernel
theorem dX11_hisses_1 : decode cX11_hisses 1 = .ok (.iconst 1, 1) := by decide +kernel
theorem dX11_hisses_2 : decode cX11_hisses 2 = .ok (.iload_n 2, 1) := by decide +kernel
theorem dX11_hisses_3 : decode cX11_hisses 3 = .ok (.aload_n 0, 1) := by decide +kernel
theorem dX11_hisses_4 : decode cX11_hisses 4 = .ok (.getfield 17, 3) := by decide +kernel
theorem dX11_hisses_7 : decode cX11_hisses 7 = .ok (.bipush 6, 2) := by decide +kernel
theorem dX11_hisses_9 : decode cX11_hisses 9 = .ok (.iaload, 1) := by decide +kernel
theorem dX11_hisses_10 : decode cX11_hisses 10 = .ok (.idiv, 1) := by decide +kernel
theorem dX11_hisses_11 : decode cX11_hisses 11 = .ok (.iadd, 1) := by decide +kernel
theorem dX11_hisses_12 : decode cX11_hisses 12 = .ok (.invokestatic 176, 3) := by decide +kernel
theorem dX11_hisses_15 : decode cX11_hisses 15 = .ok (.ireturn, 1) := by decide +kernel
theorem dX11_ends_0 : decode cX11_ends 0 = .ok (.aload_n 0, 1) := by decide +kernel
theorem dX11_ends_1 : decode cX11_ends 1 = .ok (.getfield 7, 3) := by decide +kernel
theorem dX11_ends_4 : decode cX11_ends 4 = .ok (.sipush 132, 3) := by decide +kernel
theorem dX11_ends_7 : decode cX11_ends 7 = .ok (.iload_n 1, 1) := by decide +kernel
theorem dX11_ends_8 : decode cX11_ends 8 = .ok (.iadd, 1) := by decide +kernel
theorem dX11_ends_9 : decode cX11_ends 9 = .ok (.iload_n 2, 1) := by decide +kernel
theorem dX11_ends_10 : decode cX11_ends 10 = .ok (.iastore, 1) := by decide +kernel
theorem dX11_ends_11 : decode cX11_ends 11 = .ok (.aload_n 0, 1) := by decide +kernel
theorem dX11_ends_12 : decode cX11_ends 12 = .ok (.getfield 7, 3) := by decide +kernel
theorem dX11_ends_15 : decode cX11_ends 15 = .ok (.sipush 144, 3) := by decide +kernel
theorem dX11_ends_18 : decode cX11_ends 18 = .ok (.iload_n 1, 1) := by decide +kernel
theorem dX11_ends_19 : decode cX11_ends 19 = .ok (.iadd, 1) := by decide +kernel
theorem dX11_ends_20 : decode cX11_ends 20 = .ok (.aload_n 0, 1) := by decide +kernel
theorem dX11_ends_21 : decode cX11_ends 21 = .ok (.getfield 7, 3) := by decide +kernel
theorem dX11_ends_24 : decode cX11_ends 24 = .ok (.sipush 168, 3) := by decide +kernel
theorem dX11_ends_27 : decode cX11_ends 27 = .ok (.iaload, 1) := by decide +kernel
theorem dX11_ends_28 : decode cX11_ends 28 = .ok (.iastore, 1) := by decide +kernel
theorem dX11_ends_29 : decode cX11_ends 29 = .ok (.return_, 1) := by decide +kernel
theorem dX11_loses_0 : decode cX11_loses 0 = .ok (.aload_n 0, 1) := by decide +kernel
theorem dX11_loses_1 : decode cX11_loses 1 = .ok (.getfield 7, 3) := by decide +kernel
theorem dX11_loses_4 : decode cX11_loses 4 = .ok (.bipush 108, 2) := by decide +kernel
theorem dX11_loses_6 : decode cX11_loses 6 = .ok (.iload_n 1, 1) := by decide +kernel
theorem dX11_loses_7 : decode cX11_loses 7 = .ok (.iadd, 1) := by decide +kernel
theorem dX11_loses_8 : decode cX11_loses 8 = .ok (.dup2, 1) := by decide +kernel
theorem dX11_loses_9 : decode cX11_loses 9 = .ok (.iaload, 1) := by decide +kernel
theorem dX11_loses_10 : decode cX11_loses 10 = .ok (.iload_n 2, 1) := by decide +kernel
theorem dX11_loses_11 : decode cX11_loses 11 = .ok (.isub, 1) := by decide +kernel
theorem dX11_loses_12 : decode cX11_loses 12 = .ok (.iastore, 1) := by decide +kernel
theorem dX11_loses_13 : decode cX11_loses 13 = .ok (.aload_n 0, 1) := by decide +kernel
theorem dX11_loses_14 : decode cX11_loses 14 = .ok (.getfield 7, 3) := by decide +kernel
theorem dX11_loses_17 : decode cX11_loses 17 = .ok (.sipush 171, 3) := by decide +kernel
theorem dX11_loses_20 : decode cX11_loses 20 = .ok (.dup2, 1) := by decide +kernel
theorem dX11_loses_21 : decode cX11_loses 21 = .ok (.iaload, 1) := by decide +kernel
theorem dX11_loses_22 : decode cX11_loses 22 = .ok (.iload_n 2, 1) := by decide +kernel
theorem dX11_loses_23 : decode cX11_loses 23 = .ok (.iadd, 1) := by decide +kernel
theorem dX11_loses_24 : decode cX11_loses 24 = .ok (.iastore, 1) := by decide +kernel
theorem dX11_loses_25 : decode cX11_loses 25 = .ok (.aload_n 0, 1) := by decide +kernel
theorem dX11_loses_26 : decode cX11_loses 26 = .ok (.getfield 7, 3) := by decide +kernel
theorem dX11_loses_29 : decode cX11_loses 29 = .ok (.bipush 108, 2) := by decide +kernel
theorem dX11_loses_31 : decode cX11_loses 31 = .ok (.iload_n 1, 1) := by decide +kernel
theorem dX11_loses_32 : decode cX11_loses 32 = .ok (.iadd, 1) := by decide +kernel
theorem dX11_loses_33 : decode cX11_loses 33 = .ok (.iaload, 1) := by decide +kernel
theorem dX11_loses_34 : decode cX11_loses 34 = .ok (.ifCond .ne 9, 3) := by decide +kernel
theorem dX11_loses_37 : decode cX11_loses 37 = .ok (.aload_n 0, 1) := by decide +kernel
theorem dX11_loses_38 : decode cX11_loses 38 = .ok (.iload_n 1, 1) := by decide +kernel
theorem dX11_loses_39 : decode cX11_loses 39 = .ok (.iconst 1, 1) := by decide +kernel
theorem dX11_loses_40 : decode cX11_loses 40 = .ok (.invokevirtual 179, 3) := by decide +kernel
theorem dX11_loses_43 : decode cX11_loses 43 = .ok (.return_, 1) := by decide +kernel
theorem dX11_isTooth_0 : decode cX11_isTooth 0 = .ok (.aload_n 0, 1) := by decide +kernel
theorem dX11_isTooth_1 : decode cX11_isTooth 1 = .ok (.getfield 7, 3) := by decide +kernel
theorem dX11_isTooth_4 : decode cX11_isTooth 4 = .ok (.iload_n 1, 1) := by decide +kernel
theorem dX11_isTooth_5 : decode cX11_isTooth 5 = .ok (.iaload, 1) := by decide +kernel
theorem dX11_isTooth_6 : decode cX11_isTooth 6 = .ok (.iconst 4, 1) := by decide +kernel
theorem dX11_isTooth_7 : decode cX11_isTooth 7 = .ok (.if_icmp .ge 29, 3) := by decide +kernel
theorem dX11_isTooth_10 : decode cX11_isTooth 10 = .ok (.iload_n 2, 1) := by decide +kernel
theorem dX11_isTooth_11 : decode cX11_isTooth 11 = .ok (.i2l, 1) := by decide +kernel
theorem dX11_isTooth_12 : decode cX11_isTooth 12 = .ok (.aload_n 0, 1) := by decide +kernel
theorem dX11_isTooth_13 : decode cX11_isTooth 13 = .ok (.getfield 17, 3) := by decide +kernel
theorem dX11_isTooth_16 : decode cX11_isTooth 16 = .ok (.iconst 2, 1) := by decide +kernel
theorem dX11_isTooth_17 : decode cX11_isTooth 17 = .ok (.iaload, 1) := by decide +kernel
theorem dX11_isTooth_18 : decode cX11_isTooth 18 = .ok (.i2l, 1) := by decide +kernel
theorem dX11_isTooth_19 : decode cX11_isTooth 19 = .ok (.aload_n 0, 1) := by decide +kernel
theorem dX11_isTooth_20 : decode cX11_isTooth 20 = .ok (.getfield 17, 3) := by decide +kernel
theorem dX11_isTooth_23 : decode cX11_isTooth 23 = .ok (.iconst 3, 1) := by decide +kernel
theorem dX11_isTooth_24 : decode cX11_isTooth 24 = .ok (.iaload, 1) := by decide +kernel
theorem dX11_isTooth_25 : decode cX11_isTooth 25 = .ok (.i2l, 1) := by decide +kernel
theorem dX11_isTooth_26 : decode cX11_isTooth 26 = .ok (.invokestatic 72, 3) := by decide +kernel
theorem dX11_isTooth_29 : decode cX11_isTooth 29 = .ok (.ifCond .eq 7, 3) := by decide +kernel
theorem dX11_isTooth_32 : decode cX11_isTooth 32 = .ok (.iconst 1, 1) := by decide +kernel
theorem dX11_isTooth_33 : decode cX11_isTooth 33 = .ok (.goto 4, 3) := by decide +kernel
theorem dX11_isTooth_36 : decode cX11_isTooth 36 = .ok (.iconst 0, 1) := by decide +kernel
theorem dX11_isTooth_37 : decode cX11_isTooth 37 = .ok (.ireturn, 1) := by decide +kernel
theorem dX11_goesOn_0 : decode cX11_goesOn 0 = .ok (.aload_n 0, 1) := by decide +kernel
theorem dX11_goesOn_1 : decode cX11_goesOn 1 = .ok (.getfield 7, 3) := by decide +kernel
theorem dX11_goesOn_4 : decode cX11_goesOn 4 = .ok (.bipush 96, 2) := by decide +kernel
theorem dX11_goesOn_6 : decode cX11_goesOn 6 = .ok (.iload_n 1, 1) := by decide +kernel
theorem dX11_goesOn_7 : decode cX11_goesOn 7 = .ok (.iadd, 1) := by decide +kernel
theorem dX11_goesOn_8 : decode cX11_goesOn 8 = .ok (.iaload, 1) := by decide +kernel
theorem dX11_goesOn_9 : decode cX11_goesOn 9 = .ok (.istore_n 2, 1) := by decide +kernel
theorem dX11_goesOn_10 : decode cX11_goesOn 10 = .ok (.aload_n 0, 1) := by decide +kernel
theorem dX11_goesOn_11 : decode cX11_goesOn 11 = .ok (.getfield 7, 3) := by decide +kernel
theorem dX11_goesOn_14 : decode cX11_goesOn 14 = .ok (.bipush 108, 2) := by decide +kernel
theorem dX11_goesOn_16 : decode cX11_goesOn 16 = .ok (.iload_n 1, 1) := by decide +kernel
theorem dX11_goesOn_17 : decode cX11_goesOn 17 = .ok (.iadd, 1) := by decide +kernel
theorem dX11_goesOn_18 : decode cX11_goesOn 18 = .ok (.iaload, 1) := by decide +kernel
theorem dX11_goesOn_19 : decode cX11_goesOn 19 = .ok (.istore_n 3, 1) := by decide +kernel
theorem dX11_goesOn_20 : decode cX11_goesOn 20 = .ok (.aload_n 0, 1) := by decide +kernel
theorem dX11_goesOn_21 : decode cX11_goesOn 21 = .ok (.iload_n 2, 1) := by decide +kernel
theorem dX11_goesOn_22 : decode cX11_goesOn 22 = .ok (.iload_n 3, 1) := by decide +kernel
theorem dX11_goesOn_23 : decode cX11_goesOn 23 = .ok (.invokevirtual 183, 3) := by decide +kernel
theorem dX11_goesOn_26 : decode cX11_goesOn 26 = .ok (.ifCond .eq 12, 3) := by decide +kernel
theorem dX11_goesOn_29 : decode cX11_goesOn 29 = .ok (.aload_n 0, 1) := by decide +kernel
theorem dX11_goesOn_30 : decode cX11_goesOn 30 = .ok (.getfield 7, 3) := by decide +kernel
theorem dX11_goesOn_33 : decode cX11_goesOn 33 = .ok (.iload_n 2, 1) := by decide +kernel
theorem dX11_goesOn_34 : decode cX11_goesOn 34 = .ok (.iaload, 1) := by decide +kernel
theorem dX11_goesOn_35 : decode cX11_goesOn 35 = .ok (.goto 40, 3) := by decide +kernel
theorem dX11_goesOn_38 : decode cX11_goesOn 38 = .ok (.iload_n 3, 1) := by decide +kernel
theorem dX11_goesOn_39 : decode cX11_goesOn 39 = .ok (.aload_n 0, 1) := by decide +kernel
theorem dX11_goesOn_40 : decode cX11_goesOn 40 = .ok (.getfield 17, 3) := by decide +kernel
theorem dX11_goesOn_43 : decode cX11_goesOn 43 = .ok (.bipush 8, 2) := by decide +kernel
theorem dX11_goesOn_45 : decode cX11_goesOn 45 = .ok (.iaload, 1) := by decide +kernel
theorem dX11_goesOn_46 : decode cX11_goesOn 46 = .ok (.if_icmp .gt 20, 3) := by decide +kernel
theorem dX11_goesOn_49 : decode cX11_goesOn 49 = .ok (.aload_n 0, 1) := by decide +kernel
theorem dX11_goesOn_50 : decode cX11_goesOn 50 = .ok (.getfield 7, 3) := by decide +kernel
theorem dX11_goesOn_53 : decode cX11_goesOn 53 = .ok (.iload_n 2, 1) := by decide +kernel
theorem dX11_goesOn_54 : decode cX11_goesOn 54 = .ok (.iaload, 1) := by decide +kernel
theorem dX11_goesOn_55 : decode cX11_goesOn 55 = .ok (.iconst 4, 1) := by decide +kernel
theorem dX11_goesOn_56 : decode cX11_goesOn 56 = .ok (.if_icmp .lt 10, 3) := by decide +kernel
theorem dX11_goesOn_59 : decode cX11_goesOn 59 = .ok (.aload_n 0, 1) := by decide +kernel
theorem dX11_goesOn_60 : decode cX11_goesOn 60 = .ok (.invokevirtual 187, 3) := by decide +kernel
theorem dX11_goesOn_63 : decode cX11_goesOn 63 = .ok (.goto 12, 3) := by decide +kernel
theorem dX11_goesOn_66 : decode cX11_goesOn 66 = .ok (.aload_n 0, 1) := by decide +kernel
theorem dX11_goesOn_67 : decode cX11_goesOn 67 = .ok (.getfield 7, 3) := by decide +kernel
theorem dX11_goesOn_70 : decode cX11_goesOn 70 = .ok (.bipush 120, 2) := by decide +kernel
theorem dX11_goesOn_72 : decode cX11_goesOn 72 = .ok (.iload_n 1, 1) := by decide +kernel
theorem dX11_goesOn_73 : decode cX11_goesOn 73 = .ok (.iadd, 1) := by decide +kernel
theorem dX11_goesOn_74 : decode cX11_goesOn 74 = .ok (.iaload, 1) := by decide +kernel
theorem dX11_goesOn_75 : decode cX11_goesOn 75 = .ok (.istore 4, 2) := by decide +kernel
theorem dX11_goesOn_77 : decode cX11_goesOn 77 = .ok (.iload_n 2, 1) := by decide +kernel
theorem dX11_goesOn_78 : decode cX11_goesOn 78 = .ok (.iload 4, 2) := by decide +kernel
theorem dX11_goesOn_80 : decode cX11_goesOn 80 = .ok (.invokestatic 190, 3) := by decide +kernel
theorem dX11_goesOn_83 : decode cX11_goesOn 83 = .ok (.istore 5, 2) := by decide +kernel
theorem dX11_goesOn_85 : decode cX11_goesOn 85 = .ok (.aload_n 0, 1) := by decide +kernel
theorem dX11_goesOn_86 : decode cX11_goesOn 86 = .ok (.iload 5, 2) := by decide +kernel
theorem dX11_goesOn_88 : decode cX11_goesOn 88 = .ok (.invokevirtual 193, 3) := by decide +kernel
theorem dX11_goesOn_91 : decode cX11_goesOn 91 = .ok (.ifCond .eq 19, 3) := by decide +kernel
theorem dX11_goesOn_94 : decode cX11_goesOn 94 = .ok (.aload_n 0, 1) := by decide +kernel
theorem dX11_goesOn_95 : decode cX11_goesOn 95 = .ok (.getfield 7, 3) := by decide +kernel
theorem dX11_goesOn_98 : decode cX11_goesOn 98 = .ok (.bipush 120, 2) := by decide +kernel
theorem dX11_goesOn_100 : decode cX11_goesOn 100 = .ok (.iload_n 1, 1) := by decide +kernel
theorem dX11_goesOn_101 : decode cX11_goesOn 101 = .ok (.iadd, 1) := by decide +kernel
theorem dX11_goesOn_102 : decode cX11_goesOn 102 = .ok (.iload 4, 2) := by decide +kernel
theorem dX11_goesOn_104 : decode cX11_goesOn 104 = .ok (.iconst 1, 1) := by decide +kernel
theorem dX11_goesOn_105 : decode cX11_goesOn 105 = .ok (.iadd, 1) := by decide +kernel
theorem dX11_goesOn_106 : decode cX11_goesOn 106 = .ok (.iconst 4, 1) := by decide +kernel
theorem dX11_goesOn_107 : decode cX11_goesOn 107 = .ok (.irem, 1) := by decide +kernel
theorem dX11_goesOn_108 : decode cX11_goesOn 108 = .ok (.iastore, 1) := by decide +kernel
theorem dX11_goesOn_109 : decode cX11_goesOn 109 = .ok (.return_, 1) := by decide +kernel
theorem dX11_goesOn_110 : decode cX11_goesOn 110 = .ok (.aload_n 0, 1) := by decide +kernel
theorem dX11_goesOn_111 : decode cX11_goesOn 111 = .ok (.iload 5, 2) := by decide +kernel
theorem dX11_goesOn_113 : decode cX11_goesOn 113 = .ok (.iload_n 1, 1) := by decide +kernel
theorem dX11_goesOn_114 : decode cX11_goesOn 114 = .ok (.invokevirtual 160, 3) := by decide +kernel
theorem dX11_goesOn_117 : decode cX11_goesOn 117 = .ok (.istore 6, 2) := by decide +kernel
theorem dX11_goesOn_119 : decode cX11_goesOn 119 = .ok (.aload_n 0, 1) := by decide +kernel
theorem dX11_goesOn_120 : decode cX11_goesOn 120 = .ok (.getfield 7, 3) := by decide +kernel
theorem dX11_goesOn_123 : decode cX11_goesOn 123 = .ok (.bipush 96, 2) := by decide +kernel
theorem dX11_goesOn_125 : decode cX11_goesOn 125 = .ok (.iload_n 1, 1) := by decide +kernel
theorem dX11_goesOn_126 : decode cX11_goesOn 126 = .ok (.iadd, 1) := by decide +kernel
theorem dX11_goesOn_127 : decode cX11_goesOn 127 = .ok (.iload 5, 2) := by decide +kernel
theorem dX11_goesOn_129 : decode cX11_goesOn 129 = .ok (.iastore, 1) := by decide +kernel
theorem dX11_goesOn_130 : decode cX11_goesOn 130 = .ok (.aload_n 0, 1) := by decide +kernel
theorem dX11_goesOn_131 : decode cX11_goesOn 131 = .ok (.getfield 7, 3) := by decide +kernel
theorem dX11_goesOn_134 : decode cX11_goesOn 134 = .ok (.bipush 120, 2) := by decide +kernel
theorem dX11_goesOn_136 : decode cX11_goesOn 136 = .ok (.iload_n 1, 1) := by decide +kernel
theorem dX11_goesOn_137 : decode cX11_goesOn 137 = .ok (.iadd, 1) := by decide +kernel
theorem dX11_goesOn_138 : decode cX11_goesOn 138 = .ok (.iload 4, 2) := by decide +kernel
theorem dX11_goesOn_140 : decode cX11_goesOn 140 = .ok (.iastore, 1) := by decide +kernel
theorem dX11_goesOn_141 : decode cX11_goesOn 141 = .ok (.aload_n 0, 1) := by decide +kernel
theorem dX11_goesOn_142 : decode cX11_goesOn 142 = .ok (.getfield 7, 3) := by decide +kernel
theorem dX11_goesOn_145 : decode cX11_goesOn 145 = .ok (.iload 5, 2) := by decide +kernel
theorem dX11_goesOn_147 : decode cX11_goesOn 147 = .ok (.iaload, 1) := by decide +kernel
theorem dX11_goesOn_148 : decode cX11_goesOn 148 = .ok (.bipush 6, 2) := by decide +kernel
theorem dX11_goesOn_150 : decode cX11_goesOn 150 = .ok (.if_icmp .ne 24, 3) := by decide +kernel
theorem dX11_goesOn_153 : decode cX11_goesOn 153 = .ok (.aload_n 0, 1) := by decide +kernel
theorem dX11_goesOn_154 : decode cX11_goesOn 154 = .ok (.getfield 7, 3) := by decide +kernel
theorem dX11_goesOn_157 : decode cX11_goesOn 157 = .ok (.sipush 172, 3) := by decide +kernel
theorem dX11_goesOn_160 : decode cX11_goesOn 160 = .ok (.dup2, 1) := by decide +kernel
theorem dX11_goesOn_161 : decode cX11_goesOn 161 = .ok (.iaload, 1) := by decide +kernel
theorem dX11_goesOn_162 : decode cX11_goesOn 162 = .ok (.iload_n 3, 1) := by decide +kernel
theorem dX11_goesOn_163 : decode cX11_goesOn 163 = .ok (.iadd, 1) := by decide +kernel
theorem dX11_goesOn_164 : decode cX11_goesOn 164 = .ok (.iastore, 1) := by decide +kernel
theorem dX11_goesOn_165 : decode cX11_goesOn 165 = .ok (.aload_n 0, 1) := by decide +kernel
theorem dX11_goesOn_166 : decode cX11_goesOn 166 = .ok (.iload_n 1, 1) := by decide +kernel
theorem dX11_goesOn_167 : decode cX11_goesOn 167 = .ok (.iconst 2, 1) := by decide +kernel
theorem dX11_goesOn_168 : decode cX11_goesOn 168 = .ok (.invokevirtual 179, 3) := by decide +kernel
theorem dX11_goesOn_171 : decode cX11_goesOn 171 = .ok (.goto 42, 3) := by decide +kernel
theorem dX11_goesOn_174 : decode cX11_goesOn 174 = .ok (.iload 6, 2) := by decide +kernel
theorem dX11_goesOn_176 : decode cX11_goesOn 176 = .ok (.bipush (-4), 2) := by decide +kernel
theorem dX11_goesOn_178 : decode cX11_goesOn 178 = .ok (.if_icmp .eq 35, 3) := by decide +kernel
theorem dX11_goesOn_181 : decode cX11_goesOn 181 = .ok (.aload_n 0, 1) := by decide +kernel
theorem dX11_goesOn_182 : decode cX11_goesOn 182 = .ok (.getfield 7, 3) := by decide +kernel
theorem dX11_goesOn_185 : decode cX11_goesOn 185 = .ok (.bipush 108, 2) := by decide +kernel
theorem dX11_goesOn_187 : decode cX11_goesOn 187 = .ok (.iload 6, 2) := by decide +kernel
theorem dX11_goesOn_189 : decode cX11_goesOn 189 = .ok (.iadd, 1) := by decide +kernel
theorem dX11_goesOn_190 : decode cX11_goesOn 190 = .ok (.dup2, 1) := by decide +kernel
theorem dX11_goesOn_191 : decode cX11_goesOn 191 = .ok (.iaload, 1) := by decide +kernel
theorem dX11_goesOn_192 : decode cX11_goesOn 192 = .ok (.iload_n 3, 1) := by decide +kernel
theorem dX11_goesOn_193 : decode cX11_goesOn 193 = .ok (.iadd, 1) := by decide +kernel
theorem dX11_goesOn_194 : decode cX11_goesOn 194 = .ok (.iastore, 1) := by decide +kernel
theorem dX11_goesOn_195 : decode cX11_goesOn 195 = .ok (.aload_n 0, 1) := by decide +kernel
theorem dX11_goesOn_196 : decode cX11_goesOn 196 = .ok (.getfield 7, 3) := by decide +kernel
theorem dX11_goesOn_199 : decode cX11_goesOn 199 = .ok (.sipush 156, 3) := by decide +kernel
theorem dX11_goesOn_202 : decode cX11_goesOn 202 = .ok (.iload_n 1, 1) := by decide +kernel
theorem dX11_goesOn_203 : decode cX11_goesOn 203 = .ok (.iadd, 1) := by decide +kernel
theorem dX11_goesOn_204 : decode cX11_goesOn 204 = .ok (.iload 6, 2) := by decide +kernel
theorem dX11_goesOn_206 : decode cX11_goesOn 206 = .ok (.iastore, 1) := by decide +kernel
theorem dX11_goesOn_207 : decode cX11_goesOn 207 = .ok (.aload_n 0, 1) := by decide +kernel
theorem dX11_goesOn_208 : decode cX11_goesOn 208 = .ok (.iload_n 1, 1) := by decide +kernel
theorem dX11_goesOn_209 : decode cX11_goesOn 209 = .ok (.iconst 4, 1) := by decide +kernel
theorem dX11_goesOn_210 : decode cX11_goesOn 210 = .ok (.invokevirtual 179, 3) := by decide +kernel
theorem dX11_goesOn_213 : decode cX11_goesOn 213 = .ok (.return_, 1) := by decide +kernel
theorem dX11_touches_0 : decode cX11_touches 0 = .ok (.aload_n 0, 1) := by decide +kernel
theorem dX11_touches_1 : decode cX11_touches 1 = .ok (.getfield 7, 3) := by decide +kernel
theorem dX11_touches_4 : decode cX11_touches 4 = .ok (.sipush 170, 3) := by decide +kernel
theorem dX11_touches_7 : decode cX11_touches 7 = .ok (.iaload, 1) := by decide +kernel
theorem dX11_touches_8 : decode cX11_touches 8 = .ok (.ifCond .eq 22, 3) := by decide +kernel
theorem dX11_touches_11 : decode cX11_touches 11 = .ok (.aload_n 0, 1) := by decide +kernel
theorem dX11_touches_12 : decode cX11_touches 12 = .ok (.getfield 7, 3) := by decide +kernel
theorem dX11_touches_15 : decode cX11_touches 15 = .ok (.aload_n 0, 1) := by decide +kernel
theorem dX11_touches_16 : decode cX11_touches 16 = .ok (.getfield 7, 3) := by decide +kernel
theorem dX11_touches_19 : decode cX11_touches 19 = .ok (.bipush 96, 2) := by decide +kernel
theorem dX11_touches_21 : decode cX11_touches 21 = .ok (.iload_n 1, 1) := by decide +kernel
theorem dX11_touches_22 : decode cX11_touches 22 = .ok (.iadd, 1) := by decide +kernel
theorem dX11_touches_23 : decode cX11_touches 23 = .ok (.iaload, 1) := by decide +kernel
theorem dX11_touches_24 : decode cX11_touches 24 = .ok (.iaload, 1) := by decide +kernel
theorem dX11_touches_25 : decode cX11_touches 25 = .ok (.bipush 7, 2) := by decide +kernel
theorem dX11_touches_27 : decode cX11_touches 27 = .ok (.if_icmp .ne 7, 3) := by decide +kernel
theorem dX11_touches_30 : decode cX11_touches 30 = .ok (.iconst 1, 1) := by decide +kernel
theorem dX11_touches_31 : decode cX11_touches 31 = .ok (.goto 4, 3) := by decide +kernel
theorem dX11_touches_34 : decode cX11_touches 34 = .ok (.iconst 0, 1) := by decide +kernel
theorem dX11_touches_35 : decode cX11_touches 35 = .ok (.ireturn, 1) := by decide +kernel
theorem dX11_acts_0 : decode cX11_acts 0 = .ok (.aload_n 0, 1) := by decide +kernel
theorem dX11_acts_1 : decode cX11_acts 1 = .ok (.iload_n 1, 1) := by decide +kernel
theorem dX11_acts_2 : decode cX11_acts 2 = .ok (.invokevirtual 196, 3) := by decide +kernel
theorem dX11_acts_5 : decode cX11_acts 5 = .ok (.ifCond .eq 30, 3) := by decide +kernel
theorem dX11_acts_8 : decode cX11_acts 8 = .ok (.aload_n 0, 1) := by decide +kernel
theorem dX11_acts_9 : decode cX11_acts 9 = .ok (.iload_n 1, 1) := by decide +kernel
theorem dX11_acts_10 : decode cX11_acts 10 = .ok (.aload_n 0, 1) := by decide +kernel
theorem dX11_acts_11 : decode cX11_acts 11 = .ok (.aload_n 0, 1) := by decide +kernel
theorem dX11_acts_12 : decode cX11_acts 12 = .ok (.getfield 7, 3) := by decide +kernel
theorem dX11_acts_15 : decode cX11_acts 15 = .ok (.bipush 108, 2) := by decide +kernel
theorem dX11_acts_17 : decode cX11_acts 17 = .ok (.iload_n 1, 1) := by decide +kernel
theorem dX11_acts_18 : decode cX11_acts 18 = .ok (.iadd, 1) := by decide +kernel
theorem dX11_acts_19 : decode cX11_acts 19 = .ok (.iaload, 1) := by decide +kernel
theorem dX11_acts_20 : decode cX11_acts 20 = .ok (.aload_n 0, 1) := by decide +kernel
theorem dX11_acts_21 : decode cX11_acts 21 = .ok (.getfield 7, 3) := by decide +kernel
theorem dX11_acts_24 : decode cX11_acts 24 = .ok (.sipush 169, 3) := by decide +kernel
theorem dX11_acts_27 : decode cX11_acts 27 = .ok (.iaload, 1) := by decide +kernel
theorem dX11_acts_28 : decode cX11_acts 28 = .ok (.invokevirtual 199, 3) := by decide +kernel
theorem dX11_acts_31 : decode cX11_acts 31 = .ok (.invokevirtual 202, 3) := by decide +kernel
theorem dX11_acts_34 : decode cX11_acts 34 = .ok (.return_, 1) := by decide +kernel
theorem dX11_acts_35 : decode cX11_acts 35 = .ok (.aload_n 0, 1) := by decide +kernel
theorem dX11_acts_36 : decode cX11_acts 36 = .ok (.iload_n 1, 1) := by decide +kernel
theorem dX11_acts_37 : decode cX11_acts 37 = .ok (.aload_n 0, 1) := by decide +kernel
theorem dX11_acts_38 : decode cX11_acts 38 = .ok (.aload_n 0, 1) := by decide +kernel
theorem dX11_acts_39 : decode cX11_acts 39 = .ok (.getfield 7, 3) := by decide +kernel
theorem dX11_acts_42 : decode cX11_acts 42 = .ok (.bipush 108, 2) := by decide +kernel
theorem dX11_acts_44 : decode cX11_acts 44 = .ok (.iload_n 1, 1) := by decide +kernel
theorem dX11_acts_45 : decode cX11_acts 45 = .ok (.iadd, 1) := by decide +kernel
theorem dX11_acts_46 : decode cX11_acts 46 = .ok (.iaload, 1) := by decide +kernel
theorem dX11_acts_47 : decode cX11_acts 47 = .ok (.aload_n 0, 1) := by decide +kernel
theorem dX11_acts_48 : decode cX11_acts 48 = .ok (.getfield 7, 3) := by decide +kernel
theorem dX11_acts_51 : decode cX11_acts 51 = .ok (.sipush 168, 3) := by decide +kernel
theorem dX11_acts_54 : decode cX11_acts 54 = .ok (.iaload, 1) := by decide +kernel
theorem dX11_acts_55 : decode cX11_acts 55 = .ok (.invokevirtual 205, 3) := by decide +kernel
theorem dX11_acts_58 : decode cX11_acts 58 = .ok (.invokevirtual 202, 3) := by decide +kernel
theorem dX11_acts_61 : decode cX11_acts 61 = .ok (.aload_n 0, 1) := by decide +kernel
theorem dX11_acts_62 : decode cX11_acts 62 = .ok (.iload_n 1, 1) := by decide +kernel
theorem dX11_acts_63 : decode cX11_acts 63 = .ok (.invokevirtual 152, 3) := by decide +kernel
theorem dX11_acts_66 : decode cX11_acts 66 = .ok (.ifCond .ne 4, 3) := by decide +kernel
theorem dX11_acts_69 : decode cX11_acts 69 = .ok (.return_, 1) := by decide +kernel
theorem dX11_acts_70 : decode cX11_acts 70 = .ok (.aload_n 0, 1) := by decide +kernel
theorem dX11_acts_71 : decode cX11_acts 71 = .ok (.getfield 7, 3) := by decide +kernel
theorem dX11_acts_74 : decode cX11_acts 74 = .ok (.bipush 108, 2) := by decide +kernel
theorem dX11_acts_76 : decode cX11_acts 76 = .ok (.iload_n 1, 1) := by decide +kernel
theorem dX11_acts_77 : decode cX11_acts 77 = .ok (.iadd, 1) := by decide +kernel
theorem dX11_acts_78 : decode cX11_acts 78 = .ok (.iaload, 1) := by decide +kernel
theorem dX11_acts_79 : decode cX11_acts 79 = .ok (.aload_n 0, 1) := by decide +kernel
theorem dX11_acts_80 : decode cX11_acts 80 = .ok (.getfield 17, 3) := by decide +kernel
theorem dX11_acts_83 : decode cX11_acts 83 = .ok (.iconst 4, 1) := by decide +kernel
theorem dX11_acts_84 : decode cX11_acts 84 = .ok (.iaload, 1) := by decide +kernel
theorem dX11_acts_85 : decode cX11_acts 85 = .ok (.if_icmp .gt 32, 3) := by decide +kernel
theorem dX11_acts_88 : decode cX11_acts 88 = .ok (.aload_n 0, 1) := by decide +kernel
theorem dX11_acts_89 : decode cX11_acts 89 = .ok (.getfield 7, 3) := by decide +kernel
theorem dX11_acts_92 : decode cX11_acts 92 = .ok (.sipush 173, 3) := by decide +kernel
theorem dX11_acts_95 : decode cX11_acts 95 = .ok (.dup2, 1) := by decide +kernel
theorem dX11_acts_96 : decode cX11_acts 96 = .ok (.iaload, 1) := by decide +kernel
theorem dX11_acts_97 : decode cX11_acts 97 = .ok (.aload_n 0, 1) := by decide +kernel
theorem dX11_acts_98 : decode cX11_acts 98 = .ok (.getfield 7, 3) := by decide +kernel
theorem dX11_acts_101 : decode cX11_acts 101 = .ok (.bipush 108, 2) := by decide +kernel
theorem dX11_acts_103 : decode cX11_acts 103 = .ok (.iload_n 1, 1) := by decide +kernel
theorem dX11_acts_104 : decode cX11_acts 104 = .ok (.iadd, 1) := by decide +kernel
theorem dX11_acts_105 : decode cX11_acts 105 = .ok (.iaload, 1) := by decide +kernel
theorem dX11_acts_106 : decode cX11_acts 106 = .ok (.iadd, 1) := by decide +kernel
theorem dX11_acts_107 : decode cX11_acts 107 = .ok (.iastore, 1) := by decide +kernel
theorem dX11_acts_108 : decode cX11_acts 108 = .ok (.aload_n 0, 1) := by decide +kernel
theorem dX11_acts_109 : decode cX11_acts 109 = .ok (.iload_n 1, 1) := by decide +kernel
theorem dX11_acts_110 : decode cX11_acts 110 = .ok (.iconst 3, 1) := by decide +kernel
theorem dX11_acts_111 : decode cX11_acts 111 = .ok (.invokevirtual 179, 3) := by decide +kernel
theorem dX11_acts_114 : decode cX11_acts 114 = .ok (.goto 8, 3) := by decide +kernel
theorem dX11_acts_117 : decode cX11_acts 117 = .ok (.aload_n 0, 1) := by decide +kernel
theorem dX11_acts_118 : decode cX11_acts 118 = .ok (.iload_n 1, 1) := by decide +kernel
theorem dX11_acts_119 : decode cX11_acts 119 = .ok (.invokevirtual 208, 3) := by decide +kernel
theorem dX11_acts_122 : decode cX11_acts 122 = .ok (.return_, 1) := by decide +kernel
theorem dX11_thereMany_0 : decode cX11_thereMany 0 = .ok (.iconst 0, 1) := by decide +kernel
theorem dX11_thereMany_1 : decode cX11_thereMany 1 = .ok (.istore_n 1, 1) := by decide +kernel
theorem dX11_thereMany_2 : decode cX11_thereMany 2 = .ok (.iconst 0, 1) := by decide +kernel
theorem dX11_thereMany_3 : decode cX11_thereMany 3 = .ok (.istore_n 2, 1) := by decide +kernel
theorem dX11_thereMany_4 : decode cX11_thereMany 4 = .ok (.iload_n 2, 1) := by decide +kernel
theorem dX11_thereMany_5 : decode cX11_thereMany 5 = .ok (.aload_n 0, 1) := by decide +kernel
theorem dX11_thereMany_6 : decode cX11_thereMany 6 = .ok (.getfield 7, 3) := by decide +kernel
theorem dX11_thereMany_9 : decode cX11_thereMany 9 = .ok (.sipush 176, 3) := by decide +kernel
theorem dX11_thereMany_12 : decode cX11_thereMany 12 = .ok (.iaload, 1) := by decide +kernel
theorem dX11_thereMany_13 : decode cX11_thereMany 13 = .ok (.if_icmp .ge 20, 3) := by decide +kernel
theorem dX11_thereMany_16 : decode cX11_thereMany 16 = .ok (.iload_n 1, 1) := by decide +kernel
theorem dX11_thereMany_17 : decode cX11_thereMany 17 = .ok (.aload_n 0, 1) := by decide +kernel
theorem dX11_thereMany_18 : decode cX11_thereMany 18 = .ok (.iload_n 2, 1) := by decide +kernel
theorem dX11_thereMany_19 : decode cX11_thereMany 19 = .ok (.invokevirtual 152, 3) := by decide +kernel
theorem dX11_thereMany_22 : decode cX11_thereMany 22 = .ok (.invokestatic 120, 3) := by decide +kernel
theorem dX11_thereMany_25 : decode cX11_thereMany 25 = .ok (.iadd, 1) := by decide +kernel
theorem dX11_thereMany_26 : decode cX11_thereMany 26 = .ok (.istore_n 1, 1) := by decide +kernel
theorem dX11_thereMany_27 : decode cX11_thereMany 27 = .ok (.iinc 2 1, 3) := by decide +kernel
theorem dX11_thereMany_30 : decode cX11_thereMany 30 = .ok (.goto (-26), 3) := by decide +kernel
theorem dX11_thereMany_33 : decode cX11_thereMany 33 = .ok (.iload_n 1, 1) := by decide +kernel
theorem dX11_thereMany_34 : decode cX11_thereMany 34 = .ok (.ireturn, 1) := by decide +kernel
theorem dX11_go_0 : decode cX11_go 0 = .ok (.iload_n 1, 1) := by decide +kernel
theorem dX11_go_1 : decode cX11_go 1 = .ok (.i2l, 1) := by decide +kernel
theorem dX11_go_2 : decode cX11_go 2 = .ok (.lconst 1, 1) := by decide +kernel
theorem dX11_go_3 : decode cX11_go 3 = .ok (.ldc2_w 212, 3) := by decide +kernel
theorem dX11_go_6 : decode cX11_go 6 = .ok (.invokestatic 72, 3) := by decide +kernel
theorem dX11_go_9 : decode cX11_go 9 = .ok (.ifCond .ne 5, 3) := by decide +kernel
theorem dX11_go_12 : decode cX11_go 12 = .ok (.iconst (-1), 1) := by decide +kernel
theorem dX11_go_13 : decode cX11_go 13 = .ok (.ireturn, 1) := by decide +kernel
theorem dX11_go_14 : decode cX11_go 14 = .ok (.iconst 0, 1) := by decide +kernel
theorem dX11_go_15 : decode cX11_go 15 = .ok (.istore_n 2, 1) := by decide +kernel
theorem dX11_go_16 : decode cX11_go 16 = .ok (.iload_n 2, 1) := by decide +kernel
theorem dX11_go_17 : decode cX11_go 17 = .ok (.iload_n 1, 1) := by decide +kernel
theorem dX11_go_18 : decode cX11_go 18 = .ok (.if_icmp .ge 54, 3) := by decide +kernel
theorem dX11_go_21 : decode cX11_go 21 = .ok (.iconst 0, 1) := by decide +kernel
theorem dX11_go_22 : decode cX11_go 22 = .ok (.istore_n 3, 1) := by decide +kernel
theorem dX11_go_23 : decode cX11_go 23 = .ok (.iload_n 3, 1) := by decide +kernel
theorem dX11_go_24 : decode cX11_go 24 = .ok (.aload_n 0, 1) := by decide +kernel
theorem dX11_go_25 : decode cX11_go 25 = .ok (.getfield 7, 3) := by decide +kernel
theorem dX11_go_28 : decode cX11_go 28 = .ok (.sipush 176, 3) := by decide +kernel
theorem dX11_go_31 : decode cX11_go 31 = .ok (.iaload, 1) := by decide +kernel
theorem dX11_go_32 : decode cX11_go 32 = .ok (.if_icmp .ge 22, 3) := by decide +kernel
theorem dX11_go_35 : decode cX11_go 35 = .ok (.aload_n 0, 1) := by decide +kernel
theorem dX11_go_36 : decode cX11_go 36 = .ok (.iload_n 3, 1) := by decide +kernel
theorem dX11_go_37 : decode cX11_go 37 = .ok (.invokevirtual 152, 3) := by decide +kernel
theorem dX11_go_40 : decode cX11_go 40 = .ok (.ifCond .eq 8, 3) := by decide +kernel
theorem dX11_go_43 : decode cX11_go 43 = .ok (.aload_n 0, 1) := by decide +kernel
theorem dX11_go_44 : decode cX11_go 44 = .ok (.iload_n 3, 1) := by decide +kernel
theorem dX11_go_45 : decode cX11_go 45 = .ok (.invokevirtual 214, 3) := by decide +kernel
theorem dX11_go_48 : decode cX11_go 48 = .ok (.iinc 3 1, 3) := by decide +kernel
theorem dX11_go_51 : decode cX11_go 51 = .ok (.goto (-28), 3) := by decide +kernel
theorem dX11_go_54 : decode cX11_go 54 = .ok (.aload_n 0, 1) := by decide +kernel
theorem dX11_go_55 : decode cX11_go 55 = .ok (.getfield 7, 3) := by decide +kernel
theorem dX11_go_58 : decode cX11_go 58 = .ok (.sipush 168, 3) := by decide +kernel
theorem dX11_go_61 : decode cX11_go 61 = .ok (.dup2, 1) := by decide +kernel
theorem dX11_go_62 : decode cX11_go 62 = .ok (.iaload, 1) := by decide +kernel
theorem dX11_go_63 : decode cX11_go 63 = .ok (.iconst 1, 1) := by decide +kernel
theorem dX11_go_64 : decode cX11_go 64 = .ok (.iadd, 1) := by decide +kernel
theorem dX11_go_65 : decode cX11_go 65 = .ok (.iastore, 1) := by decide +kernel
theorem dX11_go_66 : decode cX11_go 66 = .ok (.iinc 2 1, 3) := by decide +kernel
theorem dX11_go_69 : decode cX11_go 69 = .ok (.goto (-53), 3) := by decide +kernel
theorem dX11_go_72 : decode cX11_go 72 = .ok (.aload_n 0, 1) := by decide +kernel
theorem dX11_go_73 : decode cX11_go 73 = .ok (.invokevirtual 217, 3) := by decide +kernel
theorem dX11_go_76 : decode cX11_go 76 = .ok (.ireturn, 1) := by decide +kernel
theorem dX11_seed_0 : decode cX11_seed 0 = .ok (.aload_n 0, 1) := by decide +kernel
theorem dX11_seed_1 : decode cX11_seed 1 = .ok (.getfield 7, 3) := by decide +kernel
theorem dX11_seed_4 : decode cX11_seed 4 = .ok (.sipush 175, 3) := by decide +kernel
theorem dX11_seed_7 : decode cX11_seed 7 = .ok (.iaload, 1) := by decide +kernel
theorem dX11_seed_8 : decode cX11_seed 8 = .ok (.istore_n 2, 1) := by decide +kernel
theorem dX11_seed_9 : decode cX11_seed 9 = .ok (.aload_n 0, 1) := by decide +kernel
theorem dX11_seed_10 : decode cX11_seed 10 = .ok (.getfield 7, 3) := by decide +kernel
theorem dX11_seed_13 : decode cX11_seed 13 = .ok (.sipush 175, 3) := by decide +kernel
theorem dX11_seed_16 : decode cX11_seed 16 = .ok (.iload_n 1, 1) := by decide +kernel
theorem dX11_seed_17 : decode cX11_seed 17 = .ok (.iastore, 1) := by decide +kernel
theorem dX11_seed_18 : decode cX11_seed 18 = .ok (.iload_n 2, 1) := by decide +kernel
theorem dX11_seed_19 : decode cX11_seed 19 = .ok (.ireturn, 1) := by decide +kernel
theorem dX11_of_0 : decode cX11_of 0 = .ok (.iload_n 1, 1) := by decide +kernel
theorem dX11_of_1 : decode cX11_of 1 = .ok (.i2l, 1) := by decide +kernel
theorem dX11_of_2 : decode cX11_of 2 = .ok (.lconst 0, 1) := by decide +kernel
theorem dX11_of_3 : decode cX11_of 3 = .ok (.aload_n 0, 1) := by decide +kernel
theorem dX11_of_4 : decode cX11_of 4 = .ok (.getfield 7, 3) := by decide +kernel
theorem dX11_of_7 : decode cX11_of 7 = .ok (.sipush 176, 3) := by decide +kernel
theorem dX11_of_10 : decode cX11_of 10 = .ok (.iaload, 1) := by decide +kernel
theorem dX11_of_11 : decode cX11_of 11 = .ok (.iconst 1, 1) := by decide +kernel
theorem dX11_of_12 : decode cX11_of 12 = .ok (.isub, 1) := by decide +kernel
theorem dX11_of_13 : decode cX11_of 13 = .ok (.i2l, 1) := by decide +kernel
theorem dX11_of_14 : decode cX11_of 14 = .ok (.invokestatic 72, 3) := by decide +kernel
theorem dX11_of_17 : decode cX11_of 17 = .ok (.ifCond .ne 5, 3) := by decide +kernel
theorem dX11_of_20 : decode cX11_of 20 = .ok (.iconst (-1), 1) := by decide +kernel
theorem dX11_of_21 : decode cX11_of 21 = .ok (.ireturn, 1) := by decide +kernel
theorem dX11_of_22 : decode cX11_of 22 = .ok (.iload_n 2, 1) := by decide +kernel
theorem dX11_of_23 : decode cX11_of 23 = .ok (.tableswitch 100 0 5 #[37, 47, 57, 67, 78, 89], 37) := by decide +kernel
theorem dX11_of_60 : decode cX11_of 60 = .ok (.aload_n 0, 1) := by decide +kernel
theorem dX11_of_61 : decode cX11_of 61 = .ok (.getfield 7, 3) := by decide +kernel
theorem dX11_of_64 : decode cX11_of 64 = .ok (.bipush 96, 2) := by decide +kernel
theorem dX11_of_66 : decode cX11_of 66 = .ok (.iload_n 1, 1) := by decide +kernel
theorem dX11_of_67 : decode cX11_of 67 = .ok (.iadd, 1) := by decide +kernel
theorem dX11_of_68 : decode cX11_of 68 = .ok (.iaload, 1) := by decide +kernel
theorem dX11_of_69 : decode cX11_of 69 = .ok (.ireturn, 1) := by decide +kernel
theorem dX11_of_70 : decode cX11_of 70 = .ok (.aload_n 0, 1) := by decide +kernel
theorem dX11_of_71 : decode cX11_of 71 = .ok (.getfield 7, 3) := by decide +kernel
theorem dX11_of_74 : decode cX11_of 74 = .ok (.bipush 108, 2) := by decide +kernel
theorem dX11_of_76 : decode cX11_of 76 = .ok (.iload_n 1, 1) := by decide +kernel
theorem dX11_of_77 : decode cX11_of 77 = .ok (.iadd, 1) := by decide +kernel
theorem dX11_of_78 : decode cX11_of 78 = .ok (.iaload, 1) := by decide +kernel
theorem dX11_of_79 : decode cX11_of 79 = .ok (.ireturn, 1) := by decide +kernel
theorem dX11_of_80 : decode cX11_of 80 = .ok (.aload_n 0, 1) := by decide +kernel
theorem dX11_of_81 : decode cX11_of 81 = .ok (.getfield 7, 3) := by decide +kernel
theorem dX11_of_84 : decode cX11_of 84 = .ok (.bipush 120, 2) := by decide +kernel
theorem dX11_of_86 : decode cX11_of 86 = .ok (.iload_n 1, 1) := by decide +kernel
theorem dX11_of_87 : decode cX11_of 87 = .ok (.iadd, 1) := by decide +kernel
theorem dX11_of_88 : decode cX11_of 88 = .ok (.iaload, 1) := by decide +kernel
theorem dX11_of_89 : decode cX11_of 89 = .ok (.ireturn, 1) := by decide +kernel
theorem dX11_of_90 : decode cX11_of 90 = .ok (.aload_n 0, 1) := by decide +kernel
theorem dX11_of_91 : decode cX11_of 91 = .ok (.getfield 7, 3) := by decide +kernel
theorem dX11_of_94 : decode cX11_of 94 = .ok (.sipush 132, 3) := by decide +kernel
theorem dX11_of_97 : decode cX11_of 97 = .ok (.iload_n 1, 1) := by decide +kernel
theorem dX11_of_98 : decode cX11_of 98 = .ok (.iadd, 1) := by decide +kernel
theorem dX11_of_99 : decode cX11_of 99 = .ok (.iaload, 1) := by decide +kernel
theorem dX11_of_100 : decode cX11_of 100 = .ok (.ireturn, 1) := by decide +kernel
theorem dX11_of_101 : decode cX11_of 101 = .ok (.aload_n 0, 1) := by decide +kernel
theorem dX11_of_102 : decode cX11_of 102 = .ok (.getfield 7, 3) := by decide +kernel
theorem dX11_of_105 : decode cX11_of 105 = .ok (.sipush 144, 3) := by decide +kernel
theorem dX11_of_108 : decode cX11_of 108 = .ok (.iload_n 1, 1) := by decide +kernel
theorem dX11_of_109 : decode cX11_of 109 = .ok (.iadd, 1) := by decide +kernel
theorem dX11_of_110 : decode cX11_of 110 = .ok (.iaload, 1) := by decide +kernel
theorem dX11_of_111 : decode cX11_of 111 = .ok (.ireturn, 1) := by decide +kernel
theorem dX11_of_112 : decode cX11_of 112 = .ok (.aload_n 0, 1) := by decide +kernel
theorem dX11_of_113 : decode cX11_of 113 = .ok (.getfield 7, 3) := by decide +kernel
theorem dX11_of_116 : decode cX11_of 116 = .ok (.sipush 156, 3) := by decide +kernel
theorem dX11_of_119 : decode cX11_of 119 = .ok (.iload_n 1, 1) := by decide +kernel
theorem dX11_of_120 : decode cX11_of 120 = .ok (.iadd, 1) := by decide +kernel
theorem dX11_of_121 : decode cX11_of 121 = .ok (.iaload, 1) := by decide +kernel
theorem dX11_of_122 : decode cX11_of 122 = .ok (.ireturn, 1) := by decide +kernel
theorem dX11_of_123 : decode cX11_of 123 = .ok (.iconst (-1), 1) := by decide +kernel
theorem dX11_of_124 : decode cX11_of 124 = .ok (.ireturn, 1) := by decide +kernel
theorem dX11_at_0 : decode cX11_at 0 = .ok (.iload_n 1, 1) := by decide +kernel
theorem dX11_at_1 : decode cX11_at 1 = .ok (.invokestatic 148, 3) := by decide +kernel
theorem dX11_at_4 : decode cX11_at 4 = .ok (.ifCond .eq 13, 3) := by decide +kernel
theorem dX11_at_7 : decode cX11_at 7 = .ok (.aload_n 0, 1) := by decide +kernel
theorem dX11_at_8 : decode cX11_at 8 = .ok (.iload_n 1, 1) := by decide +kernel
theorem dX11_at_9 : decode cX11_at 9 = .ok (.bipush (-4), 2) := by decide +kernel
theorem dX11_at_11 : decode cX11_at 11 = .ok (.invokevirtual 160, 3) := by decide +kernel
theorem dX11_at_14 : decode cX11_at 14 = .ok (.goto 4, 3) := by decide +kernel
theorem dX11_at_17 : decode cX11_at 17 = .ok (.iconst (-1), 1) := by decide +kernel
theorem dX11_at_18 : decode cX11_at 18 = .ok (.ireturn, 1) := by decide +kernel
theorem dX11_now_0 : decode cX11_now 0 = .ok (.iconst 0, 1) := by decide +kernel
theorem dX11_now_1 : decode cX11_now 1 = .ok (.istore_n 2, 1) := by decide +kernel
theorem dX11_now_2 : decode cX11_now 2 = .ok (.iconst 0, 1) := by decide +kernel
theorem dX11_now_3 : decode cX11_now 3 = .ok (.istore_n 3, 1) := by decide +kernel
theorem dX11_now_4 : decode cX11_now 4 = .ok (.iload_n 3, 1) := by decide +kernel
theorem dX11_now_5 : decode cX11_now 5 = .ok (.aload_n 0, 1) := by decide +kernel
theorem dX11_now_6 : decode cX11_now 6 = .ok (.getfield 7, 3) := by decide +kernel
theorem dX11_now_9 : decode cX11_now 9 = .ok (.sipush 176, 3) := by decide +kernel
theorem dX11_now_12 : decode cX11_now 12 = .ok (.iaload, 1) := by decide +kernel
theorem dX11_now_13 : decode cX11_now 13 = .ok (.if_icmp .ge 33, 3) := by decide +kernel
theorem dX11_now_16 : decode cX11_now 16 = .ok (.iload_n 2, 1) := by decide +kernel
theorem dX11_now_17 : decode cX11_now 17 = .ok (.aload_n 0, 1) := by decide +kernel
theorem dX11_now_18 : decode cX11_now 18 = .ok (.iload_n 3, 1) := by decide +kernel
theorem dX11_now_19 : decode cX11_now 19 = .ok (.invokevirtual 152, 3) := by decide +kernel
theorem dX11_now_22 : decode cX11_now 22 = .ok (.ifCond .eq 15, 3) := by decide +kernel
theorem dX11_now_25 : decode cX11_now 25 = .ok (.aload_n 0, 1) := by decide +kernel
theorem dX11_now_26 : decode cX11_now 26 = .ok (.getfield 7, 3) := by decide +kernel
theorem dX11_now_29 : decode cX11_now 29 = .ok (.bipush 108, 2) := by decide +kernel
theorem dX11_now_31 : decode cX11_now 31 = .ok (.iload_n 3, 1) := by decide +kernel
theorem dX11_now_32 : decode cX11_now 32 = .ok (.iadd, 1) := by decide +kernel
theorem dX11_now_33 : decode cX11_now 33 = .ok (.iaload, 1) := by decide +kernel
theorem dX11_now_34 : decode cX11_now 34 = .ok (.goto 4, 3) := by decide +kernel
theorem dX11_now_37 : decode cX11_now 37 = .ok (.iconst 0, 1) := by decide +kernel
theorem dX11_now_38 : decode cX11_now 38 = .ok (.iadd, 1) := by decide +kernel
theorem dX11_now_39 : decode cX11_now 39 = .ok (.istore_n 2, 1) := by decide +kernel
theorem dX11_now_40 : decode cX11_now 40 = .ok (.iinc 3 1, 3) := by decide +kernel
theorem dX11_now_43 : decode cX11_now 43 = .ok (.goto (-39), 3) := by decide +kernel
theorem dX11_now_46 : decode cX11_now 46 = .ok (.iload_n 1, 1) := by decide +kernel
theorem dX11_now_47 : decode cX11_now 47 = .ok (.tableswitch 110 0 7 #[45, 54, 63, 72, 74, 83, 92, 101], 45) := by decide +kernel
theorem dX11_now_92 : decode cX11_now 92 = .ok (.aload_n 0, 1) := by decide +kernel
theorem dX11_now_93 : decode cX11_now 93 = .ok (.getfield 7, 3) := by decide +kernel
