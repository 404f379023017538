theorem dX0_init_0 : decode cX0_init 0 = .ok (.aload_n 0, 1) := by decide +kernel
theorem dX0_init_1 : decode cX0_init 1 = .ok (.invokespecial 3, 3) := by decide +kernel
theorem dX0_init_4 : decode cX0_init 4 = .ok (.aload_n 0, 1) := by decide +kernel
theorem dX0_init_5 : decode cX0_init 5 = .ok (.iconst 0, 1) := by decide +kernel
theorem dX0_init_6 : decode cX0_init 6 = .ok (.putfield 9, 3) := by decide +kernel
theorem dX0_init_9 : decode cX0_init 9 = .ok (.aload_n 0, 1) := by decide +kernel
theorem dX0_init_10 : decode cX0_init 10 = .ok (.iconst 0, 1) := by decide +kernel
theorem dX0_init_11 : decode cX0_init 11 = .ok (.putfield 15, 3) := by decide +kernel
theorem dX0_init_14 : decode cX0_init 14 = .ok (.aload_n 0, 1) := by decide +kernel
theorem dX0_init_15 : decode cX0_init 15 = .ok (.iconst 0, 1) := by decide +kernel
theorem dX0_init_16 : decode cX0_init 16 = .ok (.putfield 18, 3) := by decide +kernel
theorem dX0_init_19 : decode cX0_init 19 = .ok (.aload_n 0, 1) := by decide +kernel
theorem dX0_init_20 : decode cX0_init 20 = .ok (.iconst 0, 1) := by decide +kernel
theorem dX0_init_21 : decode cX0_init 21 = .ok (.putfield 21, 3) := by decide +kernel
theorem dX0_init_24 : decode cX0_init 24 = .ok (.aload_n 0, 1) := by decide +kernel
theorem dX0_init_25 : decode cX0_init 25 = .ok (.bipush (-4), 2) := by decide +kernel
theorem dX0_init_27 : decode cX0_init 27 = .ok (.putfield 24, 3) := by decide +kernel
theorem dX0_init_30 : decode cX0_init 30 = .ok (.aload_n 0, 1) := by decide +kernel
theorem dX0_init_31 : decode cX0_init 31 = .ok (.bipush (-4), 2) := by decide +kernel
theorem dX0_init_33 : decode cX0_init 33 = .ok (.putfield 27, 3) := by decide +kernel
theorem dX0_init_36 : decode cX0_init 36 = .ok (.return_, 1) := by decide +kernel
theorem dX0_begin_0 : decode cX0_begin 0 = .ok (.aload_n 0, 1) := by decide +kernel
theorem dX0_begin_1 : decode cX0_begin 1 = .ok (.iload_n 1, 1) := by decide +kernel
theorem dX0_begin_2 : decode cX0_begin 2 = .ok (.putfield 9, 3) := by decide +kernel
theorem dX0_begin_5 : decode cX0_begin 5 = .ok (.aload_n 0, 1) := by decide +kernel
theorem dX0_begin_6 : decode cX0_begin 6 = .ok (.iload_n 2, 1) := by decide +kernel
theorem dX0_begin_7 : decode cX0_begin 7 = .ok (.putfield 15, 3) := by decide +kernel
theorem dX0_begin_10 : decode cX0_begin 10 = .ok (.aload_n 0, 1) := by decide +kernel
theorem dX0_begin_11 : decode cX0_begin 11 = .ok (.iload_n 3, 1) := by decide +kernel
theorem dX0_begin_12 : decode cX0_begin 12 = .ok (.putfield 18, 3) := by decide +kernel
theorem dX0_begin_15 : decode cX0_begin 15 = .ok (.aload_n 0, 1) := by decide +kernel
theorem dX0_begin_16 : decode cX0_begin 16 = .ok (.iconst 0, 1) := by decide +kernel
theorem dX0_begin_17 : decode cX0_begin 17 = .ok (.putfield 21, 3) := by decide +kernel
theorem dX0_begin_20 : decode cX0_begin 20 = .ok (.aload_n 0, 1) := by decide +kernel
theorem dX0_begin_21 : decode cX0_begin 21 = .ok (.bipush (-4), 2) := by decide +kernel
theorem dX0_begin_23 : decode cX0_begin 23 = .ok (.putfield 24, 3) := by decide +kernel
theorem dX0_begin_26 : decode cX0_begin 26 = .ok (.aload_n 0, 1) := by decide +kernel
theorem dX0_begin_27 : decode cX0_begin 27 = .ok (.bipush (-4), 2) := by decide +kernel
theorem dX0_begin_29 : decode cX0_begin 29 = .ok (.putfield 27, 3) := by decide +kernel
theorem dX0_begin_32 : decode cX0_begin 32 = .ok (.return_, 1) := by decide +kernel
theorem dX0_takeAll_0 : decode cX0_takeAll 0 = .ok (.aload_n 0, 1) := by decide +kernel
theorem dX0_takeAll_1 : decode cX0_takeAll 1 = .ok (.aload_n 1, 1) := by decide +kernel
theorem dX0_takeAll_2 : decode cX0_takeAll 2 = .ok (.getfield 9, 3) := by decide +kernel
theorem dX0_takeAll_5 : decode cX0_takeAll 5 = .ok (.putfield 9, 3) := by decide +kernel
theorem dX0_takeAll_8 : decode cX0_takeAll 8 = .ok (.aload_n 0, 1) := by decide +kernel
theorem dX0_takeAll_9 : decode cX0_takeAll 9 = .ok (.aload_n 1, 1) := by decide +kernel
theorem dX0_takeAll_10 : decode cX0_takeAll 10 = .ok (.getfield 15, 3) := by decide +kernel
theorem dX0_takeAll_13 : decode cX0_takeAll 13 = .ok (.putfield 15, 3) := by decide +kernel
theorem dX0_takeAll_16 : decode cX0_takeAll 16 = .ok (.aload_n 0, 1) := by decide +kernel
theorem dX0_takeAll_17 : decode cX0_takeAll 17 = .ok (.aload_n 1, 1) := by decide +kernel
theorem dX0_takeAll_18 : decode cX0_takeAll 18 = .ok (.getfield 18, 3) := by decide +kernel
theorem dX0_takeAll_21 : decode cX0_takeAll 21 = .ok (.putfield 18, 3) := by decide +kernel
theorem dX0_takeAll_24 : decode cX0_takeAll 24 = .ok (.aload_n 0, 1) := by decide +kernel
theorem dX0_takeAll_25 : decode cX0_takeAll 25 = .ok (.aload_n 1, 1) := by decide +kernel
theorem dX0_takeAll_26 : decode cX0_takeAll 26 = .ok (.getfield 21, 3) := by decide +kernel
theorem dX0_takeAll_29 : decode cX0_takeAll 29 = .ok (.putfield 21, 3) := by decide +kernel
theorem dX0_takeAll_32 : decode cX0_takeAll 32 = .ok (.aload_n 0, 1) := by decide +kernel
theorem dX0_takeAll_33 : decode cX0_takeAll 33 = .ok (.aload_n 1, 1) := by decide +kernel
theorem dX0_takeAll_34 : decode cX0_takeAll 34 = .ok (.getfield 24, 3) := by decide +kernel
theorem dX0_takeAll_37 : decode cX0_takeAll 37 = .ok (.putfield 24, 3) := by decide +kernel
theorem dX0_takeAll_40 : decode cX0_takeAll 40 = .ok (.aload_n 0, 1) := by decide +kernel
theorem dX0_takeAll_41 : decode cX0_takeAll 41 = .ok (.aload_n 1, 1) := by decide +kernel
theorem dX0_takeAll_42 : decode cX0_takeAll 42 = .ok (.getfield 27, 3) := by decide +kernel
theorem dX0_takeAll_45 : decode cX0_takeAll 45 = .ok (.putfield 27, 3) := by decide +kernel
theorem dX0_takeAll_48 : decode cX0_takeAll 48 = .ok (.return_, 1) := by decide +kernel
theorem dX1_init_0 : decode cX1_init 0 = .ok (.aload_n 0, 1) := by decide +kernel
theorem dX1_init_1 : decode cX1_init 1 = .ok (.invokespecial 1, 3) := by decide +kernel
theorem dX1_init_4 : decode cX1_init 4 = .ok (.aload_n 0, 1) := by decide +kernel
theorem dX1_init_5 : decode cX1_init 5 = .ok (.new 7, 3) := by decide +kernel
theorem dX1_init_8 : decode cX1_init 8 = .ok (.dup, 1) := by decide +kernel
theorem dX1_init_9 : decode cX1_init 9 = .ok (.invokespecial 9, 3) := by decide +kernel
theorem dX1_init_12 : decode cX1_init 12 = .ok (.putfield 10, 3) := by decide +kernel
theorem dX1_init_15 : decode cX1_init 15 = .ok (.aload_n 0, 1) := by decide +kernel
theorem dX1_init_16 : decode cX1_init 16 = .ok (.iconst 0, 1) := by decide +kernel
theorem dX1_init_17 : decode cX1_init 17 = .ok (.putfield 16, 3) := by decide +kernel
theorem dX1_init_20 : decode cX1_init 20 = .ok (.return_, 1) := by decide +kernel
theorem dX2_init_0 : decode cX2_init 0 = .ok (.aload_n 0, 1) := by decide +kernel
theorem dX2_init_1 : decode cX2_init 1 = .ok (.invokespecial 3, 3) := by decide +kernel
theorem dX2_init_4 : decode cX2_init 4 = .ok (.aload_n 0, 1) := by decide +kernel
theorem dX2_init_5 : decode cX2_init 5 = .ok (.new 9, 3) := by decide +kernel
theorem dX2_init_8 : decode cX2_init 8 = .ok (.dup, 1) := by decide +kernel
theorem dX2_init_9 : decode cX2_init 9 = .ok (.invokespecial 11, 3) := by decide +kernel
theorem dX2_init_12 : decode cX2_init 12 = .ok (.putfield 12, 3) := by decide +kernel
theorem dX2_init_15 : decode cX2_init 15 = .ok (.aload_n 0, 1) := by decide +kernel
theorem dX2_init_16 : decode cX2_init 16 = .ok (.bipush 96, 2) := by decide +kernel
theorem dX2_init_18 : decode cX2_init 18 = .ok (.newarray .int, 2) := by decide +kernel
theorem dX2_init_20 : decode cX2_init 20 = .ok (.putfield 18, 3) := by decide +kernel
theorem dX2_init_23 : decode cX2_init 23 = .ok (.aload_n 0, 1) := by decide +kernel
theorem dX2_init_24 : decode cX2_init 24 = .ok (.bipush 96, 2) := by decide +kernel
theorem dX2_init_26 : decode cX2_init 26 = .ok (.newarray .int, 2) := by decide +kernel
theorem dX2_init_28 : decode cX2_init 28 = .ok (.putfield 22, 3) := by decide +kernel
theorem dX2_init_31 : decode cX2_init 31 = .ok (.aload_n 0, 1) := by decide +kernel
theorem dX2_init_32 : decode cX2_init 32 = .ok (.iconst 0, 1) := by decide +kernel
theorem dX2_init_33 : decode cX2_init 33 = .ok (.putfield 25, 3) := by decide +kernel
theorem dX2_init_36 : decode cX2_init 36 = .ok (.aload_n 0, 1) := by decide +kernel
theorem dX2_init_37 : decode cX2_init 37 = .ok (.iconst 0, 1) := by decide +kernel
theorem dX2_init_38 : decode cX2_init 38 = .ok (.putfield 29, 3) := by decide +kernel
theorem dX2_init_41 : decode cX2_init 41 = .ok (.aload_n 0, 1) := by decide +kernel
theorem dX2_init_42 : decode cX2_init 42 = .ok (.iconst 0, 1) := by decide +kernel
theorem dX2_init_43 : decode cX2_init 43 = .ok (.putfield 32, 3) := by decide +kernel
theorem dX2_init_46 : decode cX2_init 46 = .ok (.aload_n 0, 1) := by decide +kernel
theorem dX2_init_47 : decode cX2_init 47 = .ok (.iconst 0, 1) := by decide +kernel
theorem dX2_init_48 : decode cX2_init 48 = .ok (.putfield 35, 3) := by decide +kernel
theorem dX2_init_51 : decode cX2_init 51 = .ok (.aload_n 0, 1) := by decide +kernel
theorem dX2_init_52 : decode cX2_init 52 = .ok (.bipush (-4), 2) := by decide +kernel
theorem dX2_init_54 : decode cX2_init 54 = .ok (.putfield 38, 3) := by decide +kernel
theorem dX2_init_57 : decode cX2_init 57 = .ok (.aload_n 0, 1) := by decide +kernel
theorem dX2_init_58 : decode cX2_init 58 = .ok (.bipush (-4), 2) := by decide +kernel
theorem dX2_init_60 : decode cX2_init 60 = .ok (.putfield 41, 3) := by decide +kernel
theorem dX2_init_63 : decode cX2_init 63 = .ok (.return_, 1) := by decide +kernel
theorem dX2_begin_0 : decode cX2_begin 0 = .ok (.aload_n 0, 1) := by decide +kernel
theorem dX2_begin_1 : decode cX2_begin 1 = .ok (.getfield 12, 3) := by decide +kernel
theorem dX2_begin_4 : decode cX2_begin 4 = .ok (.aload_n 1, 1) := by decide +kernel
theorem dX2_begin_5 : decode cX2_begin 5 = .ok (.iload_n 2, 1) := by decide +kernel
theorem dX2_begin_6 : decode cX2_begin 6 = .ok (.iload_n 3, 1) := by decide +kernel
theorem dX2_begin_7 : decode cX2_begin 7 = .ok (.iload 4, 2) := by decide +kernel
theorem dX2_begin_9 : decode cX2_begin 9 = .ok (.invokevirtual 44, 3) := by decide +kernel
theorem dX2_begin_12 : decode cX2_begin 12 = .ok (.aload_n 0, 1) := by decide +kernel
theorem dX2_begin_13 : decode cX2_begin 13 = .ok (.iload_n 2, 1) := by decide +kernel
theorem dX2_begin_14 : decode cX2_begin 14 = .ok (.putfield 25, 3) := by decide +kernel
theorem dX2_begin_17 : decode cX2_begin 17 = .ok (.aload_n 0, 1) := by decide +kernel
theorem dX2_begin_18 : decode cX2_begin 18 = .ok (.iload_n 3, 1) := by decide +kernel
theorem dX2_begin_19 : decode cX2_begin 19 = .ok (.putfield 29, 3) := by decide +kernel
theorem dX2_begin_22 : decode cX2_begin 22 = .ok (.aload_n 0, 1) := by decide +kernel
theorem dX2_begin_23 : decode cX2_begin 23 = .ok (.iload 4, 2) := by decide +kernel
theorem dX2_begin_25 : decode cX2_begin 25 = .ok (.putfield 32, 3) := by decide +kernel
theorem dX2_begin_28 : decode cX2_begin 28 = .ok (.return_, 1) := by decide +kernel
theorem dX2_runOn_0 : decode cX2_runOn 0 = .ok (.iconst 0, 1) := by decide +kernel
theorem dX2_runOn_1 : decode cX2_runOn 1 = .ok (.istore_n 3, 1) := by decide +kernel
theorem dX2_runOn_2 : decode cX2_runOn 2 = .ok (.iload_n 3, 1) := by decide +kernel
theorem dX2_runOn_3 : decode cX2_runOn 3 = .ok (.iload_n 2, 1) := by decide +kernel
theorem dX2_runOn_4 : decode cX2_runOn 4 = .ok (.if_icmp .ge 18, 3) := by decide +kernel
theorem dX2_runOn_7 : decode cX2_runOn 7 = .ok (.aload_n 0, 1) := by decide +kernel
theorem dX2_runOn_8 : decode cX2_runOn 8 = .ok (.getfield 12, 3) := by decide +kernel
theorem dX2_runOn_11 : decode cX2_runOn 11 = .ok (.aload_n 1, 1) := by decide +kernel
theorem dX2_runOn_12 : decode cX2_runOn 12 = .ok (.iconst 0, 1) := by decide +kernel
theorem dX2_runOn_13 : decode cX2_runOn 13 = .ok (.invokevirtual 48, 3) := by decide +kernel
theorem dX2_runOn_16 : decode cX2_runOn 16 = .ok (.iinc 3 1, 3) := by decide +kernel
theorem dX2_runOn_19 : decode cX2_runOn 19 = .ok (.goto (-17), 3) := by decide +kernel
theorem dX2_runOn_22 : decode cX2_runOn 22 = .ok (.aload_n 0, 1) := by decide +kernel
theorem dX2_runOn_23 : decode cX2_runOn 23 = .ok (.getfield 12, 3) := by decide +kernel
theorem dX2_runOn_26 : decode cX2_runOn 26 = .ok (.getfield 52, 3) := by decide +kernel
theorem dX2_runOn_29 : decode cX2_runOn 29 = .ok (.iconst 0, 1) := by decide +kernel
theorem dX2_runOn_30 : decode cX2_runOn 30 = .ok (.aaload, 1) := by decide +kernel
theorem dX2_runOn_31 : decode cX2_runOn 31 = .ok (.areturn, 1) := by decide +kernel
theorem dX2_ticksTill_0 : decode cX2_ticksTill 0 = .ok (.aload_n 0, 1) := by decide +kernel
theorem dX2_ticksTill_1 : decode cX2_ticksTill 1 = .ok (.getfield 12, 3) := by decide +kernel
theorem dX2_ticksTill_4 : decode cX2_ticksTill 4 = .ok (.getfield 52, 3) := by decide +kernel
theorem dX2_ticksTill_7 : decode cX2_ticksTill 7 = .ok (.iconst 0, 1) := by decide +kernel
theorem dX2_ticksTill_8 : decode cX2_ticksTill 8 = .ok (.aaload, 1) := by decide +kernel
theorem dX2_ticksTill_9 : decode cX2_ticksTill 9 = .ok (.astore 4, 2) := by decide +kernel
theorem dX2_ticksTill_11 : decode cX2_ticksTill 11 = .ok (.iconst 0, 1) := by decide +kernel
theorem dX2_ticksTill_12 : decode cX2_ticksTill 12 = .ok (.istore 5, 2) := by decide +kernel
theorem dX2_ticksTill_14 : decode cX2_ticksTill 14 = .ok (.iload 5, 2) := by decide +kernel
theorem dX2_ticksTill_16 : decode cX2_ticksTill 16 = .ok (.iload_n 3, 1) := by decide +kernel
theorem dX2_ticksTill_17 : decode cX2_ticksTill 17 = .ok (.if_icmp .gt 63, 3) := by decide +kernel
theorem dX2_ticksTill_20 : decode cX2_ticksTill 20 = .ok (.aload 4, 2) := by decide +kernel
theorem dX2_ticksTill_22 : decode cX2_ticksTill 22 = .ok (.getfield 56, 3) := by decide +kernel
theorem dX2_ticksTill_25 : decode cX2_ticksTill 25 = .ok (.invokestatic 61, 3) := by decide +kernel
theorem dX2_ticksTill_28 : decode cX2_ticksTill 28 = .ok (.ifCond .eq 14, 3) := by decide +kernel
theorem dX2_ticksTill_31 : decode cX2_ticksTill 31 = .ok (.aload_n 0, 1) := by decide +kernel
theorem dX2_ticksTill_32 : decode cX2_ticksTill 32 = .ok (.getfield 18, 3) := by decide +kernel
theorem dX2_ticksTill_35 : decode cX2_ticksTill 35 = .ok (.aload 4, 2) := by decide +kernel
theorem dX2_ticksTill_37 : decode cX2_ticksTill 37 = .ok (.getfield 56, 3) := by decide +kernel
theorem dX2_ticksTill_40 : decode cX2_ticksTill 40 = .ok (.iconst 1, 1) := by decide +kernel
theorem dX2_ticksTill_41 : decode cX2_ticksTill 41 = .ok (.iastore, 1) := by decide +kernel
theorem dX2_ticksTill_42 : decode cX2_ticksTill 42 = .ok (.aload 4, 2) := by decide +kernel
theorem dX2_ticksTill_44 : decode cX2_ticksTill 44 = .ok (.getfield 56, 3) := by decide +kernel
theorem dX2_ticksTill_47 : decode cX2_ticksTill 47 = .ok (.iload_n 2, 1) := by decide +kernel
theorem dX2_ticksTill_48 : decode cX2_ticksTill 48 = .ok (.if_icmp .ne 6, 3) := by decide +kernel
theorem dX2_ticksTill_51 : decode cX2_ticksTill 51 = .ok (.iload 5, 2) := by decide +kernel
theorem dX2_ticksTill_53 : decode cX2_ticksTill 53 = .ok (.ireturn, 1) := by decide +kernel
theorem dX2_ticksTill_54 : decode cX2_ticksTill 54 = .ok (.aload 4, 2) := by decide +kernel
theorem dX2_ticksTill_56 : decode cX2_ticksTill 56 = .ok (.getfield 65, 3) := by decide +kernel
theorem dX2_ticksTill_59 : decode cX2_ticksTill 59 = .ok (.ifCond .eq 6, 3) := by decide +kernel
theorem dX2_ticksTill_62 : decode cX2_ticksTill 62 = .ok (.bipush (-4), 2) := by decide +kernel
theorem dX2_ticksTill_64 : decode cX2_ticksTill 64 = .ok (.ireturn, 1) := by decide +kernel
theorem dX2_ticksTill_65 : decode cX2_ticksTill 65 = .ok (.aload_n 0, 1) := by decide +kernel
theorem dX2_ticksTill_66 : decode cX2_ticksTill 66 = .ok (.getfield 12, 3) := by decide +kernel
theorem dX2_ticksTill_69 : decode cX2_ticksTill 69 = .ok (.aload_n 1, 1) := by decide +kernel
theorem dX2_ticksTill_70 : decode cX2_ticksTill 70 = .ok (.iconst 0, 1) := by decide +kernel
theorem dX2_ticksTill_71 : decode cX2_ticksTill 71 = .ok (.invokevirtual 48, 3) := by decide +kernel
theorem dX2_ticksTill_74 : decode cX2_ticksTill 74 = .ok (.iinc 5 1, 3) := by decide +kernel
theorem dX2_ticksTill_77 : decode cX2_ticksTill 77 = .ok (.goto (-63), 3) := by decide +kernel
theorem dX2_ticksTill_80 : decode cX2_ticksTill 80 = .ok (.bipush (-4), 2) := by decide +kernel
theorem dX2_ticksTill_82 : decode cX2_ticksTill 82 = .ok (.ireturn, 1) := by decide +kernel
theorem dX2_findMend_0 : decode cX2_findMend 0 = .ok (.aload_n 0, 1) := by decide +kernel
theorem dX2_findMend_1 : decode cX2_findMend 1 = .ok (.getfield 18, 3) := by decide +kernel
theorem dX2_findMend_4 : decode cX2_findMend 4 = .ok (.iconst 0, 1) := by decide +kernel
theorem dX2_findMend_5 : decode cX2_findMend 5 = .ok (.invokestatic 68, 3) := by decide +kernel
theorem dX2_findMend_8 : decode cX2_findMend 8 = .ok (.aload_n 0, 1) := by decide +kernel
theorem dX2_findMend_9 : decode cX2_findMend 9 = .ok (.aload_n 1, 1) := by decide +kernel
theorem dX2_findMend_10 : decode cX2_findMend 10 = .ok (.iload_n 2, 1) := by decide +kernel
theorem dX2_findMend_11 : decode cX2_findMend 11 = .ok (.sipush 400, 3) := by decide +kernel
theorem dX2_findMend_14 : decode cX2_findMend 14 = .ok (.invokevirtual 74, 3) := by decide +kernel
theorem dX2_findMend_17 : decode cX2_findMend 17 = .ok (.istore_n 3, 1) := by decide +kernel
theorem dX2_findMend_18 : decode cX2_findMend 18 = .ok (.aload_n 0, 1) := by decide +kernel
theorem dX2_findMend_19 : decode cX2_findMend 19 = .ok (.getfield 18, 3) := by decide +kernel
theorem dX2_findMend_22 : decode cX2_findMend 22 = .ok (.iconst 0, 1) := by decide +kernel
theorem dX2_findMend_23 : decode cX2_findMend 23 = .ok (.aload_n 0, 1) := by decide +kernel
theorem dX2_findMend_24 : decode cX2_findMend 24 = .ok (.getfield 22, 3) := by decide +kernel
theorem dX2_findMend_27 : decode cX2_findMend 27 = .ok (.iconst 0, 1) := by decide +kernel
theorem dX2_findMend_28 : decode cX2_findMend 28 = .ok (.bipush 96, 2) := by decide +kernel
theorem dX2_findMend_30 : decode cX2_findMend 30 = .ok (.invokestatic 78, 3) := by decide +kernel
theorem dX2_findMend_33 : decode cX2_findMend 33 = .ok (.aload_n 0, 1) := by decide +kernel
theorem dX2_findMend_34 : decode cX2_findMend 34 = .ok (.iload_n 3, 1) := by decide +kernel
theorem dX2_findMend_35 : decode cX2_findMend 35 = .ok (.bipush (-4), 2) := by decide +kernel
theorem dX2_findMend_37 : decode cX2_findMend 37 = .ok (.if_icmp .ne 9, 3) := by decide +kernel
theorem dX2_findMend_40 : decode cX2_findMend 40 = .ok (.sipush 401, 3) := by decide +kernel
theorem dX2_findMend_43 : decode cX2_findMend 43 = .ok (.goto 4, 3) := by decide +kernel
theorem dX2_findMend_46 : decode cX2_findMend 46 = .ok (.iload_n 3, 1) := by decide +kernel
theorem dX2_findMend_47 : decode cX2_findMend 47 = .ok (.putfield 35, 3) := by decide +kernel
theorem dX2_findMend_50 : decode cX2_findMend 50 = .ok (.aload_n 0, 1) := by decide +kernel
theorem dX2_findMend_51 : decode cX2_findMend 51 = .ok (.bipush (-4), 2) := by decide +kernel
theorem dX2_findMend_53 : decode cX2_findMend 53 = .ok (.putfield 38, 3) := by decide +kernel
theorem dX2_findMend_56 : decode cX2_findMend 56 = .ok (.aload_n 0, 1) := by decide +kernel
theorem dX2_findMend_57 : decode cX2_findMend 57 = .ok (.bipush (-4), 2) := by decide +kernel
theorem dX2_findMend_59 : decode cX2_findMend 59 = .ok (.putfield 41, 3) := by decide +kernel
theorem dX2_findMend_62 : decode cX2_findMend 62 = .ok (.iconst 0, 1) := by decide +kernel
theorem dX2_findMend_63 : decode cX2_findMend 63 = .ok (.istore 4, 2) := by decide +kernel
theorem dX2_findMend_65 : decode cX2_findMend 65 = .ok (.iload 4, 2) := by decide +kernel
theorem dX2_findMend_67 : decode cX2_findMend 67 = .ok (.bipush 96, 2) := by decide +kernel
theorem dX2_findMend_69 : decode cX2_findMend 69 = .ok (.if_icmp .ge 154, 3) := by decide +kernel
theorem dX2_findMend_72 : decode cX2_findMend 72 = .ok (.aload_n 0, 1) := by decide +kernel
theorem dX2_findMend_73 : decode cX2_findMend 73 = .ok (.getfield 12, 3) := by decide +kernel
theorem dX2_findMend_76 : decode cX2_findMend 76 = .ok (.getfield 84, 3) := by decide +kernel
theorem dX2_findMend_79 : decode cX2_findMend 79 = .ok (.iload 4, 2) := by decide +kernel
theorem dX2_findMend_81 : decode cX2_findMend 81 = .ok (.iaload, 1) := by decide +kernel
theorem dX2_findMend_82 : decode cX2_findMend 82 = .ok (.istore 5, 2) := by decide +kernel
theorem dX2_findMend_84 : decode cX2_findMend 84 = .ok (.aload_n 0, 1) := by decide +kernel
theorem dX2_findMend_85 : decode cX2_findMend 85 = .ok (.getfield 22, 3) := by decide +kernel
theorem dX2_findMend_88 : decode cX2_findMend 88 = .ok (.iload 4, 2) := by decide +kernel
theorem dX2_findMend_90 : decode cX2_findMend 90 = .ok (.iaload, 1) := by decide +kernel
theorem dX2_findMend_91 : decode cX2_findMend 91 = .ok (.ifCond .eq 13, 3) := by decide +kernel
theorem dX2_findMend_94 : decode cX2_findMend 94 = .ok (.iload 5, 2) := by decide +kernel
theorem dX2_findMend_96 : decode cX2_findMend 96 = .ok (.iconst 4, 1) := by decide +kernel
theorem dX2_findMend_97 : decode cX2_findMend 97 = .ok (.if_icmp .gt 7, 3) := by decide +kernel
theorem dX2_findMend_100 : decode cX2_findMend 100 = .ok (.iconst 1, 1) := by decide +kernel
theorem dX2_findMend_101 : decode cX2_findMend 101 = .ok (.goto 4, 3) := by decide +kernel
theorem dX2_findMend_104 : decode cX2_findMend 104 = .ok (.iconst 0, 1) := by decide +kernel
theorem dX2_findMend_105 : decode cX2_findMend 105 = .ok (.istore 6, 2) := by decide +kernel
theorem dX2_findMend_107 : decode cX2_findMend 107 = .ok (.iconst 0, 1) := by decide +kernel
theorem dX2_findMend_108 : decode cX2_findMend 108 = .ok (.istore 7, 2) := by decide +kernel
theorem dX2_findMend_110 : decode cX2_findMend 110 = .ok (.iload 6, 2) := by decide +kernel
theorem dX2_findMend_112 : decode cX2_findMend 112 = .ok (.ifCond .eq 93, 3) := by decide +kernel
theorem dX2_findMend_115 : decode cX2_findMend 115 = .ok (.iload 7, 2) := by decide +kernel
theorem dX2_findMend_117 : decode cX2_findMend 117 = .ok (.iconst 4, 1) := by decide +kernel
theorem dX2_findMend_118 : decode cX2_findMend 118 = .ok (.if_icmp .gt 87, 3) := by decide +kernel
theorem dX2_findMend_121 : decode cX2_findMend 121 = .ok (.aload_n 0, 1) := by decide +kernel
theorem dX2_findMend_122 : decode cX2_findMend 122 = .ok (.getfield 12, 3) := by decide +kernel
theorem dX2_findMend_125 : decode cX2_findMend 125 = .ok (.getfield 84, 3) := by decide +kernel
theorem dX2_findMend_128 : decode cX2_findMend 128 = .ok (.iload 4, 2) := by decide +kernel
theorem dX2_findMend_130 : decode cX2_findMend 130 = .ok (.iload 7, 2) := by decide +kernel
theorem dX2_findMend_132 : decode cX2_findMend 132 = .ok (.iastore, 1) := by decide +kernel
theorem dX2_findMend_133 : decode cX2_findMend 133 = .ok (.aload_n 0, 1) := by decide +kernel
theorem dX2_findMend_134 : decode cX2_findMend 134 = .ok (.getfield 12, 3) := by decide +kernel
theorem dX2_findMend_137 : decode cX2_findMend 137 = .ok (.invokevirtual 87, 3) := by decide +kernel
theorem dX2_findMend_140 : decode cX2_findMend 140 = .ok (.aload_n 0, 1) := by decide +kernel
theorem dX2_findMend_141 : decode cX2_findMend 141 = .ok (.getfield 12, 3) := by decide +kernel
theorem dX2_findMend_144 : decode cX2_findMend 144 = .ok (.aload_n 0, 1) := by decide +kernel
theorem dX2_findMend_145 : decode cX2_findMend 145 = .ok (.getfield 25, 3) := by decide +kernel
theorem dX2_findMend_148 : decode cX2_findMend 148 = .ok (.aload_n 0, 1) := by decide +kernel
theorem dX2_findMend_149 : decode cX2_findMend 149 = .ok (.getfield 29, 3) := by decide +kernel
theorem dX2_findMend_152 : decode cX2_findMend 152 = .ok (.aload_n 0, 1) := by decide +kernel
theorem dX2_findMend_153 : decode cX2_findMend 153 = .ok (.getfield 32, 3) := by decide +kernel
theorem dX2_findMend_156 : decode cX2_findMend 156 = .ok (.invokevirtual 90, 3) := by decide +kernel
theorem dX2_findMend_159 : decode cX2_findMend 159 = .ok (.pop, 1) := by decide +kernel
theorem dX2_findMend_160 : decode cX2_findMend 160 = .ok (.aload_n 0, 1) := by decide +kernel
theorem dX2_findMend_161 : decode cX2_findMend 161 = .ok (.aload_n 1, 1) := by decide +kernel
theorem dX2_findMend_162 : decode cX2_findMend 162 = .ok (.iload_n 2, 1) := by decide +kernel
theorem dX2_findMend_163 : decode cX2_findMend 163 = .ok (.aload_n 0, 1) := by decide +kernel
theorem dX2_findMend_164 : decode cX2_findMend 164 = .ok (.getfield 35, 3) := by decide +kernel
theorem dX2_findMend_167 : decode cX2_findMend 167 = .ok (.iconst 1, 1) := by decide +kernel
theorem dX2_findMend_168 : decode cX2_findMend 168 = .ok (.isub, 1) := by decide +kernel
theorem dX2_findMend_169 : decode cX2_findMend 169 = .ok (.invokevirtual 74, 3) := by decide +kernel
theorem dX2_findMend_172 : decode cX2_findMend 172 = .ok (.istore 8, 2) := by decide +kernel
theorem dX2_findMend_174 : decode cX2_findMend 174 = .ok (.iload 8, 2) := by decide +kernel
theorem dX2_findMend_176 : decode cX2_findMend 176 = .ok (.bipush (-4), 2) := by decide +kernel
theorem dX2_findMend_178 : decode cX2_findMend 178 = .ok (.if_icmp .eq 21, 3) := by decide +kernel
theorem dX2_findMend_181 : decode cX2_findMend 181 = .ok (.aload_n 0, 1) := by decide +kernel
theorem dX2_findMend_182 : decode cX2_findMend 182 = .ok (.iload 8, 2) := by decide +kernel
theorem dX2_findMend_184 : decode cX2_findMend 184 = .ok (.putfield 35, 3) := by decide +kernel
theorem dX2_findMend_187 : decode cX2_findMend 187 = .ok (.aload_n 0, 1) := by decide +kernel
theorem dX2_findMend_188 : decode cX2_findMend 188 = .ok (.iload 4, 2) := by decide +kernel
theorem dX2_findMend_190 : decode cX2_findMend 190 = .ok (.putfield 38, 3) := by decide +kernel
theorem dX2_findMend_193 : decode cX2_findMend 193 = .ok (.aload_n 0, 1) := by decide +kernel
theorem dX2_findMend_194 : decode cX2_findMend 194 = .ok (.iload 7, 2) := by decide +kernel
theorem dX2_findMend_196 : decode cX2_findMend 196 = .ok (.putfield 41, 3) := by decide +kernel
theorem dX2_findMend_199 : decode cX2_findMend 199 = .ok (.iinc 7 1, 3) := by decide +kernel
theorem dX2_findMend_202 : decode cX2_findMend 202 = .ok (.goto (-92), 3) := by decide +kernel
theorem dX2_findMend_205 : decode cX2_findMend 205 = .ok (.aload_n 0, 1) := by decide +kernel
theorem dX2_findMend_206 : decode cX2_findMend 206 = .ok (.getfield 12, 3) := by decide +kernel
theorem dX2_findMend_209 : decode cX2_findMend 209 = .ok (.getfield 84, 3) := by decide +kernel
theorem dX2_findMend_212 : decode cX2_findMend 212 = .ok (.iload 4, 2) := by decide +kernel
theorem dX2_findMend_214 : decode cX2_findMend 214 = .ok (.iload 5, 2) := by decide +kernel
theorem dX2_findMend_216 : decode cX2_findMend 216 = .ok (.iastore, 1) := by decide +kernel
theorem dX2_findMend_217 : decode cX2_findMend 217 = .ok (.iinc 4 1, 3) := by decide +kernel
theorem dX2_findMend_220 : decode cX2_findMend 220 = .ok (.goto (-155), 3) := by decide +kernel
theorem dX2_findMend_223 : decode cX2_findMend 223 = .ok (.aload_n 0, 1) := by decide +kernel
theorem dX2_findMend_224 : decode cX2_findMend 224 = .ok (.getfield 38, 3) := by decide +kernel
theorem dX2_findMend_227 : decode cX2_findMend 227 = .ok (.bipush (-4), 2) := by decide +kernel
theorem dX2_findMend_229 : decode cX2_findMend 229 = .ok (.if_icmp .eq 7, 3) := by decide +kernel
theorem dX2_findMend_232 : decode cX2_findMend 232 = .ok (.iconst 1, 1) := by decide +kernel
theorem dX2_findMend_233 : decode cX2_findMend 233 = .ok (.goto 4, 3) := by decide +kernel
theorem dX2_findMend_236 : decode cX2_findMend 236 = .ok (.iconst 0, 1) := by decide +kernel
theorem dX2_findMend_237 : decode cX2_findMend 237 = .ok (.ireturn, 1) := by decide +kernel
theorem dX3_init_0 : decode cX3_init 0 = .ok (.aload_n 0, 1) := by decide +kernel
theorem dX3_init_1 : decode cX3_init 1 = .ok (.invokespecial 3, 3) := by decide +kernel
theorem dX3_init_4 : decode cX3_init 4 = .ok (.aload_n 0, 1) := by decide +kernel
theorem dX3_init_5 : decode cX3_init 5 = .ok (.new 9, 3) := by decide +kernel
theorem dX3_init_8 : decode cX3_init 8 = .ok (.dup, 1) := by decide +kernel
theorem dX3_init_9 : decode cX3_init 9 = .ok (.invokespecial 11, 3) := by decide +kernel
theorem dX3_init_12 : decode cX3_init 12 = .ok (.putfield 12, 3) := by decide +kernel
theorem dX3_init_15 : decode cX3_init 15 = .ok (.aload_n 0, 1) := by decide +kernel
theorem dX3_init_16 : decode cX3_init 16 = .ok (.sipush 384, 3) := by decide +kernel
theorem dX3_init_19 : decode cX3_init 19 = .ok (.newarray .int, 2) := by decide +kernel
theorem dX3_init_21 : decode cX3_init 21 = .ok (.putfield 18, 3) := by decide +kernel
theorem dX3_init_24 : decode cX3_init 24 = .ok (.aload_n 0, 1) := by decide +kernel
theorem dX3_init_25 : decode cX3_init 25 = .ok (.iconst 0, 1) := by decide +kernel
theorem dX3_init_26 : decode cX3_init 26 = .ok (.putfield 22, 3) := by decide +kernel
theorem dX3_init_29 : decode cX3_init 29 = .ok (.aload_n 0, 1) := by decide +kernel
theorem dX3_init_30 : decode cX3_init 30 = .ok (.iconst 0, 1) := by decide +kernel
theorem dX3_init_31 : decode cX3_init 31 = .ok (.putfield 26, 3) := by decide +kernel
theorem dX3_init_34 : decode cX3_init 34 = .ok (.return_, 1) := by decide +kernel
theorem dX3_follow_0 : decode cX3_follow 0 = .ok (.aload_n 0, 1) := by decide +kernel
theorem dX3_follow_1 : decode cX3_follow 1 = .ok (.getfield 18, 3) := by decide +kernel
theorem dX3_follow_4 : decode cX3_follow 4 = .ok (.bipush (-4), 2) := by decide +kernel
theorem dX3_follow_6 : decode cX3_follow 6 = .ok (.invokestatic 29, 3) := by decide +kernel
theorem dX3_follow_9 : decode cX3_follow 9 = .ok (.aload_n 0, 1) := by decide +kernel
theorem dX3_follow_10 : decode cX3_follow 10 = .ok (.getfield 12, 3) := by decide +kernel
theorem dX3_follow_13 : decode cX3_follow 13 = .ok (.iload_n 3, 1) := by decide +kernel
theorem dX3_follow_14 : decode cX3_follow 14 = .ok (.iload 4, 2) := by decide +kernel
theorem dX3_follow_16 : decode cX3_follow 16 = .ok (.iload 5, 2) := by decide +kernel
theorem dX3_follow_18 : decode cX3_follow 18 = .ok (.invokevirtual 35, 3) := by decide +kernel
theorem dX3_follow_21 : decode cX3_follow 21 = .ok (.iconst 0, 1) := by decide +kernel
theorem dX3_follow_22 : decode cX3_follow 22 = .ok (.istore 6, 2) := by decide +kernel
theorem dX3_follow_24 : decode cX3_follow 24 = .ok (.iload 6, 2) := by decide +kernel
theorem dX3_follow_26 : decode cX3_follow 26 = .ok (.sipush 384, 3) := by decide +kernel
theorem dX3_follow_29 : decode cX3_follow 29 = .ok (.if_icmp .gt 131, 3) := by decide +kernel
theorem dX3_follow_32 : decode cX3_follow 32 = .ok (.aload_n 0, 1) := by decide +kernel
theorem dX3_follow_33 : decode cX3_follow 33 = .ok (.getfield 12, 3) := by decide +kernel
theorem dX3_follow_36 : decode cX3_follow 36 = .ok (.getfield 39, 3) := by decide +kernel
theorem dX3_follow_39 : decode cX3_follow 39 = .ok (.iconst 4, 1) := by decide +kernel
theorem dX3_follow_40 : decode cX3_follow 40 = .ok (.imul, 1) := by decide +kernel
theorem dX3_follow_41 : decode cX3_follow 41 = .ok (.aload_n 0, 1) := by decide +kernel
theorem dX3_follow_42 : decode cX3_follow 42 = .ok (.getfield 12, 3) := by decide +kernel
theorem dX3_follow_45 : decode cX3_follow 45 = .ok (.getfield 42, 3) := by decide +kernel
theorem dX3_follow_48 : decode cX3_follow 48 = .ok (.iadd, 1) := by decide +kernel
theorem dX3_follow_49 : decode cX3_follow 49 = .ok (.istore 7, 2) := by decide +kernel
theorem dX3_follow_51 : decode cX3_follow 51 = .ok (.iload 7, 2) := by decide +kernel
theorem dX3_follow_53 : decode cX3_follow 53 = .ok (.iconst 0, 1) := by decide +kernel
theorem dX3_follow_54 : decode cX3_follow 54 = .ok (.sipush 383, 3) := by decide +kernel
theorem dX3_follow_57 : decode cX3_follow 57 = .ok (.invokestatic 45, 3) := by decide +kernel
theorem dX3_follow_60 : decode cX3_follow 60 = .ok (.ifCond .ne 6, 3) := by decide +kernel
theorem dX3_follow_63 : decode cX3_follow 63 = .ok (.bipush (-4), 2) := by decide +kernel
theorem dX3_follow_65 : decode cX3_follow 65 = .ok (.ireturn, 1) := by decide +kernel
theorem dX3_follow_66 : decode cX3_follow 66 = .ok (.aload_n 0, 1) := by decide +kernel
theorem dX3_follow_67 : decode cX3_follow 67 = .ok (.getfield 18, 3) := by decide +kernel
theorem dX3_follow_70 : decode cX3_follow 70 = .ok (.iload 7, 2) := by decide +kernel
theorem dX3_follow_72 : decode cX3_follow 72 = .ok (.iaload, 1) := by decide +kernel
theorem dX3_follow_73 : decode cX3_follow 73 = .ok (.bipush (-4), 2) := by decide +kernel
theorem dX3_follow_75 : decode cX3_follow 75 = .ok (.if_icmp .eq 28, 3) := by decide +kernel
theorem dX3_follow_78 : decode cX3_follow 78 = .ok (.aload_n 0, 1) := by decide +kernel
theorem dX3_follow_79 : decode cX3_follow 79 = .ok (.aload_n 0, 1) := by decide +kernel
theorem dX3_follow_80 : decode cX3_follow 80 = .ok (.getfield 18, 3) := by decide +kernel
theorem dX3_follow_83 : decode cX3_follow 83 = .ok (.iload 7, 2) := by decide +kernel
theorem dX3_follow_85 : decode cX3_follow 85 = .ok (.iaload, 1) := by decide +kernel
theorem dX3_follow_86 : decode cX3_follow 86 = .ok (.putfield 22, 3) := by decide +kernel
theorem dX3_follow_89 : decode cX3_follow 89 = .ok (.aload_n 0, 1) := by decide +kernel
theorem dX3_follow_90 : decode cX3_follow 90 = .ok (.iload 6, 2) := by decide +kernel
theorem dX3_follow_92 : decode cX3_follow 92 = .ok (.aload_n 0, 1) := by decide +kernel
theorem dX3_follow_93 : decode cX3_follow 93 = .ok (.getfield 22, 3) := by decide +kernel
theorem dX3_follow_96 : decode cX3_follow 96 = .ok (.isub, 1) := by decide +kernel
theorem dX3_follow_97 : decode cX3_follow 97 = .ok (.putfield 26, 3) := by decide +kernel
theorem dX3_follow_100 : decode cX3_follow 100 = .ok (.bipush (-4), 2) := by decide +kernel
theorem dX3_follow_102 : decode cX3_follow 102 = .ok (.ireturn, 1) := by decide +kernel
theorem dX3_follow_103 : decode cX3_follow 103 = .ok (.aload_n 0, 1) := by decide +kernel
theorem dX3_follow_104 : decode cX3_follow 104 = .ok (.getfield 18, 3) := by decide +kernel
theorem dX3_follow_107 : decode cX3_follow 107 = .ok (.iload 7, 2) := by decide +kernel
theorem dX3_follow_109 : decode cX3_follow 109 = .ok (.iload 6, 2) := by decide +kernel
theorem dX3_follow_111 : decode cX3_follow 111 = .ok (.iastore, 1) := by decide +kernel
theorem dX3_follow_112 : decode cX3_follow 112 = .ok (.aload_n 1, 1) := by decide +kernel
theorem dX3_follow_113 : decode cX3_follow 113 = .ok (.aload_n 0, 1) := by decide +kernel
theorem dX3_follow_114 : decode cX3_follow 114 = .ok (.getfield 12, 3) := by decide +kernel
theorem dX3_follow_117 : decode cX3_follow 117 = .ok (.aload_n 1, 1) := by decide +kernel
theorem dX3_follow_118 : decode cX3_follow 118 = .ok (.aload_n 0, 1) := by decide +kernel
theorem dX3_follow_119 : decode cX3_follow 119 = .ok (.getfield 12, 3) := by decide +kernel
theorem dX3_follow_122 : decode cX3_follow 122 = .ok (.aload_n 2, 1) := by decide +kernel
theorem dX3_follow_123 : decode cX3_follow 123 = .ok (.iconst 0, 1) := by decide +kernel
theorem dX3_follow_124 : decode cX3_follow 124 = .ok (.invokevirtual 49, 3) := by decide +kernel
theorem dX3_follow_127 : decode cX3_follow 127 = .ok (.invokevirtual 55, 3) := by decide +kernel
theorem dX3_follow_130 : decode cX3_follow 130 = .ok (.aload_n 1, 1) := by decide +kernel
theorem dX3_follow_131 : decode cX3_follow 131 = .ok (.aload_n 0, 1) := by decide +kernel
theorem dX3_follow_132 : decode cX3_follow 132 = .ok (.getfield 12, 3) := by decide +kernel
theorem dX3_follow_135 : decode cX3_follow 135 = .ok (.getfield 39, 3) := by decide +kernel
theorem dX3_follow_138 : decode cX3_follow 138 = .ok (.invokevirtual 59, 3) := by decide +kernel
theorem dX3_follow_141 : decode cX3_follow 141 = .ok (.bipush 6, 2) := by decide +kernel
theorem dX3_follow_143 : decode cX3_follow 143 = .ok (.if_icmp .ne 11, 3) := by decide +kernel
theorem dX3_follow_146 : decode cX3_follow 146 = .ok (.aload_n 0, 1) := by decide +kernel
theorem dX3_follow_147 : decode cX3_follow 147 = .ok (.getfield 12, 3) := by decide +kernel
theorem dX3_follow_150 : decode cX3_follow 150 = .ok (.getfield 39, 3) := by decide +kernel
theorem dX3_follow_153 : decode cX3_follow 153 = .ok (.ireturn, 1) := by decide +kernel
theorem dX3_follow_154 : decode cX3_follow 154 = .ok (.iinc 6 1, 3) := by decide +kernel
theorem dX3_follow_157 : decode cX3_follow 157 = .ok (.goto (-133), 3) := by decide +kernel
theorem dX3_follow_160 : decode cX3_follow 160 = .ok (.bipush (-4), 2) := by decide +kernel
theorem dX3_follow_162 : decode cX3_follow 162 = .ok (.ireturn, 1) := by decide +kernel
theorem dX3_cellsRound_0 : decode cX3_cellsRound 0 = .ok (.iconst 0, 1) := by decide +kernel
theorem dX3_cellsRound_1 : decode cX3_cellsRound 1 = .ok (.istore_n 1, 1) := by decide +kernel
theorem dX3_cellsRound_2 : decode cX3_cellsRound 2 = .ok (.iconst 0, 1) := by decide +kernel
theorem dX3_cellsRound_3 : decode cX3_cellsRound 3 = .ok (.istore_n 2, 1) := by decide +kernel
theorem dX3_cellsRound_4 : decode cX3_cellsRound 4 = .ok (.iload_n 2, 1) := by decide +kernel
theorem dX3_cellsRound_5 : decode cX3_cellsRound 5 = .ok (.bipush 96, 2) := by decide +kernel
theorem dX3_cellsRound_7 : decode cX3_cellsRound 7 = .ok (.if_icmp .ge 66, 3) := by decide +kernel
theorem dX3_cellsRound_10 : decode cX3_cellsRound 10 = .ok (.iconst 0, 1) := by decide +kernel
theorem dX3_cellsRound_11 : decode cX3_cellsRound 11 = .ok (.istore_n 3, 1) := by decide +kernel
theorem dX3_cellsRound_12 : decode cX3_cellsRound 12 = .ok (.iconst 0, 1) := by decide +kernel
theorem dX3_cellsRound_13 : decode cX3_cellsRound 13 = .ok (.istore 4, 2) := by decide +kernel
theorem dX3_cellsRound_15 : decode cX3_cellsRound 15 = .ok (.iload 4, 2) := by decide +kernel
theorem dX3_cellsRound_17 : decode cX3_cellsRound 17 = .ok (.iconst 4, 1) := by decide +kernel
theorem dX3_cellsRound_18 : decode cX3_cellsRound 18 = .ok (.if_icmp .ge 37, 3) := by decide +kernel
theorem dX3_cellsRound_21 : decode cX3_cellsRound 21 = .ok (.iload_n 3, 1) := by decide +kernel
theorem dX3_cellsRound_22 : decode cX3_cellsRound 22 = .ok (.ifCond .ne 21, 3) := by decide +kernel
theorem dX3_cellsRound_25 : decode cX3_cellsRound 25 = .ok (.aload_n 0, 1) := by decide +kernel
theorem dX3_cellsRound_26 : decode cX3_cellsRound 26 = .ok (.getfield 18, 3) := by decide +kernel
theorem dX3_cellsRound_29 : decode cX3_cellsRound 29 = .ok (.iload_n 2, 1) := by decide +kernel
theorem dX3_cellsRound_30 : decode cX3_cellsRound 30 = .ok (.iconst 4, 1) := by decide +kernel
theorem dX3_cellsRound_31 : decode cX3_cellsRound 31 = .ok (.imul, 1) := by decide +kernel
theorem dX3_cellsRound_32 : decode cX3_cellsRound 32 = .ok (.iload 4, 2) := by decide +kernel
theorem dX3_cellsRound_34 : decode cX3_cellsRound 34 = .ok (.iadd, 1) := by decide +kernel
theorem dX3_cellsRound_35 : decode cX3_cellsRound 35 = .ok (.iaload, 1) := by decide +kernel
theorem dX3_cellsRound_36 : decode cX3_cellsRound 36 = .ok (.aload_n 0, 1) := by decide +kernel
theorem dX3_cellsRound_37 : decode cX3_cellsRound 37 = .ok (.getfield 22, 3) := by decide +kernel
theorem dX3_cellsRound_40 : decode cX3_cellsRound 40 = .ok (.if_icmp .lt 7, 3) := by decide +kernel
theorem dX3_cellsRound_43 : decode cX3_cellsRound 43 = .ok (.iconst 1, 1) := by decide +kernel
theorem dX3_cellsRound_44 : decode cX3_cellsRound 44 = .ok (.goto 4, 3) := by decide +kernel
theorem dX3_cellsRound_47 : decode cX3_cellsRound 47 = .ok (.iconst 0, 1) := by decide +kernel
theorem dX3_cellsRound_48 : decode cX3_cellsRound 48 = .ok (.istore_n 3, 1) := by decide +kernel
theorem dX3_cellsRound_49 : decode cX3_cellsRound 49 = .ok (.iinc 4 1, 3) := by decide +kernel
theorem dX3_cellsRound_52 : decode cX3_cellsRound 52 = .ok (.goto (-37), 3) := by decide +kernel
theorem dX3_cellsRound_55 : decode cX3_cellsRound 55 = .ok (.iload_n 1, 1) := by decide +kernel
theorem dX3_cellsRound_56 : decode cX3_cellsRound 56 = .ok (.iload_n 3, 1) := by decide +kernel
theorem dX3_cellsRound_57 : decode cX3_cellsRound 57 = .ok (.ifCond .eq 7, 3) := by decide +kernel
theorem dX3_cellsRound_60 : decode cX3_cellsRound 60 = .ok (.iconst 1, 1) := by decide +kernel
theorem dX3_cellsRound_61 : decode cX3_cellsRound 61 = .ok (.goto 4, 3) := by decide +kernel
theorem dX3_cellsRound_64 : decode cX3_cellsRound 64 = .ok (.iconst 0, 1) := by decide +kernel
theorem dX3_cellsRound_65 : decode cX3_cellsRound 65 = .ok (.iadd, 1) := by decide +kernel
theorem dX3_cellsRound_66 : decode cX3_cellsRound 66 = .ok (.istore_n 1, 1) := by decide +kernel
theorem dX3_cellsRound_67 : decode cX3_cellsRound 67 = .ok (.iinc 2 1, 3) := by decide +kernel
theorem dX3_cellsRound_70 : decode cX3_cellsRound 70 = .ok (.goto (-66), 3) := by decide +kernel
theorem dX3_cellsRound_73 : decode cX3_cellsRound 73 = .ok (.iload_n 1, 1) := by decide +kernel
theorem dX3_cellsRound_74 : decode cX3_cellsRound 74 = .ok (.ireturn, 1) := by decide +kernel
theorem dX4_init_0 : decode cX4_init 0 = .ok (.aload_n 0, 1) := by decide +kernel
theorem dX4_init_1 : decode cX4_init 1 = .ok (.invokespecial 3, 3) := by decide +kernel
theorem dX4_init_4 : decode cX4_init 4 = .ok (.aload_n 0, 1) := by decide +kernel
theorem dX4_init_5 : decode cX4_init 5 = .ok (.bipush 96, 2) := by decide +kernel
theorem dX4_init_7 : decode cX4_init 7 = .ok (.newarray .long, 2) := by decide +kernel
theorem dX4_init_9 : decode cX4_init 9 = .ok (.putfield 9, 3) := by decide +kernel
theorem dX4_init_12 : decode cX4_init 12 = .ok (.aload_n 0, 1) := by decide +kernel
theorem dX4_init_13 : decode cX4_init 13 = .ok (.bipush 96, 2) := by decide +kernel
theorem dX4_init_15 : decode cX4_init 15 = .ok (.newarray .long, 2) := by decide +kernel
theorem dX4_init_17 : decode cX4_init 17 = .ok (.putfield 15, 3) := by decide +kernel
theorem dX4_init_20 : decode cX4_init 20 = .ok (.return_, 1) := by decide +kernel
theorem dX4_beenIn_0 : decode cX4_beenIn 0 = .ok (.iload_n 2, 1) := by decide +kernel
theorem dX4_beenIn_1 : decode cX4_beenIn 1 = .ok (.invokestatic 18, 3) := by decide +kernel
theorem dX4_beenIn_4 : decode cX4_beenIn 4 = .ok (.ifCond .eq 10, 3) := by decide +kernel
theorem dX4_beenIn_7 : decode cX4_beenIn 7 = .ok (.iload_n 3, 1) := by decide +kernel
theorem dX4_beenIn_8 : decode cX4_beenIn 8 = .ok (.invokestatic 18, 3) := by decide +kernel
theorem dX4_beenIn_11 : decode cX4_beenIn 11 = .ok (.ifCond .ne 5, 3) := by decide +kernel
theorem dX4_beenIn_14 : decode cX4_beenIn 14 = .ok (.lconst 0, 1) := by decide +kernel
theorem dX4_beenIn_15 : decode cX4_beenIn 15 = .ok (.lreturn, 1) := by decide +kernel
theorem dX4_beenIn_16 : decode cX4_beenIn 16 = .ok (.aload_n 0, 1) := by decide +kernel
theorem dX4_beenIn_17 : decode cX4_beenIn 17 = .ok (.getfield 9, 3) := by decide +kernel
theorem dX4_beenIn_20 : decode cX4_beenIn 20 = .ok (.lconst 0, 1) := by decide +kernel
theorem dX4_beenIn_21 : decode cX4_beenIn 21 = .ok (.invokestatic 22, 3) := by decide +kernel
theorem dX4_beenIn_24 : decode cX4_beenIn 24 = .ok (.aload_n 0, 1) := by decide +kernel
theorem dX4_beenIn_25 : decode cX4_beenIn 25 = .ok (.getfield 9, 3) := by decide +kernel
theorem dX4_beenIn_28 : decode cX4_beenIn 28 = .ok (.iload_n 2, 1) := by decide +kernel
theorem dX4_beenIn_29 : decode cX4_beenIn 29 = .ok (.lconst 1, 1) := by decide +kernel
theorem dX4_beenIn_30 : decode cX4_beenIn 30 = .ok (.lastore, 1) := by decide +kernel
theorem dX4_beenIn_31 : decode cX4_beenIn 31 = .ok (.lconst 0, 1) := by decide +kernel
theorem dX4_beenIn_32 : decode cX4_beenIn 32 = .ok (.lstore 5, 2) := by decide +kernel
theorem dX4_beenIn_34 : decode cX4_beenIn 34 = .ok (.iconst 0, 1) := by decide +kernel
theorem dX4_beenIn_35 : decode cX4_beenIn 35 = .ok (.istore 7, 2) := by decide +kernel
theorem dX4_beenIn_37 : decode cX4_beenIn 37 = .ok (.iload 7, 2) := by decide +kernel
theorem dX4_beenIn_39 : decode cX4_beenIn 39 = .ok (.iload 4, 2) := by decide +kernel
theorem dX4_beenIn_41 : decode cX4_beenIn 41 = .ok (.if_icmp .ge 28, 3) := by decide +kernel
theorem dX4_beenIn_44 : decode cX4_beenIn 44 = .ok (.ldc2_w 28, 3) := by decide +kernel
theorem dX4_beenIn_47 : decode cX4_beenIn 47 = .ok (.lload 5, 2) := by decide +kernel
theorem dX4_beenIn_49 : decode cX4_beenIn 49 = .ok (.aload_n 0, 1) := by decide +kernel
theorem dX4_beenIn_50 : decode cX4_beenIn 50 = .ok (.iload_n 3, 1) := by decide +kernel
theorem dX4_beenIn_51 : decode cX4_beenIn 51 = .ok (.invokevirtual 30, 3) := by decide +kernel
theorem dX4_beenIn_54 : decode cX4_beenIn 54 = .ok (.ladd, 1) := by decide +kernel
theorem dX4_beenIn_55 : decode cX4_beenIn 55 = .ok (.lmul, 1) := by decide +kernel
theorem dX4_beenIn_56 : decode cX4_beenIn 56 = .ok (.lstore 5, 2) := by decide +kernel
theorem dX4_beenIn_58 : decode cX4_beenIn 58 = .ok (.aload_n 0, 1) := by decide +kernel
theorem dX4_beenIn_59 : decode cX4_beenIn 59 = .ok (.aload_n 1, 1) := by decide +kernel
theorem dX4_beenIn_60 : decode cX4_beenIn 60 = .ok (.invokevirtual 34, 3) := by decide +kernel
theorem dX4_beenIn_63 : decode cX4_beenIn 63 = .ok (.iinc 7 1, 3) := by decide +kernel
theorem dX4_beenIn_66 : decode cX4_beenIn 66 = .ok (.goto (-29), 3) := by decide +kernel
theorem dX4_beenIn_69 : decode cX4_beenIn 69 = .ok (.lload 5, 2) := by decide +kernel
theorem dX4_beenIn_71 : decode cX4_beenIn 71 = .ok (.aload_n 0, 1) := by decide +kernel
theorem dX4_beenIn_72 : decode cX4_beenIn 72 = .ok (.iload_n 3, 1) := by decide +kernel
theorem dX4_beenIn_73 : decode cX4_beenIn 73 = .ok (.invokevirtual 30, 3) := by decide +kernel
theorem dX4_beenIn_76 : decode cX4_beenIn 76 = .ok (.ladd, 1) := by decide +kernel
theorem dX4_beenIn_77 : decode cX4_beenIn 77 = .ok (.lreturn, 1) := by decide +kernel
theorem dX4_takeOut_0 : decode cX4_takeOut 0 = .ok (.aload_n 0, 1) := by decide +kernel
theorem dX4_takeOut_1 : decode cX4_takeOut 1 = .ok (.getfield 9, 3) := by decide +kernel
theorem dX4_takeOut_4 : decode cX4_takeOut 4 = .ok (.iload_n 1, 1) := by decide +kernel
theorem dX4_takeOut_5 : decode cX4_takeOut 5 = .ok (.laload, 1) := by decide +kernel
theorem dX4_takeOut_6 : decode cX4_takeOut 6 = .ok (.lstore_n 2, 1) := by decide +kernel
theorem dX4_takeOut_7 : decode cX4_takeOut 7 = .ok (.aload_n 0, 1) := by decide +kernel
theorem dX4_takeOut_8 : decode cX4_takeOut 8 = .ok (.getfield 9, 3) := by decide +kernel
theorem dX4_takeOut_11 : decode cX4_takeOut 11 = .ok (.iload_n 1, 1) := by decide +kernel
theorem dX4_takeOut_12 : decode cX4_takeOut 12 = .ok (.lconst 0, 1) := by decide +kernel
theorem dX4_takeOut_13 : decode cX4_takeOut 13 = .ok (.lastore, 1) := by decide +kernel
theorem dX4_takeOut_14 : decode cX4_takeOut 14 = .ok (.lload_n 2, 1) := by decide +kernel
theorem dX4_takeOut_15 : decode cX4_takeOut 15 = .ok (.lreturn, 1) := by decide +kernel
theorem dX4_rollAll_0 : decode cX4_rollAll 0 = .ok (.aload_n 0, 1) := by decide +kernel
theorem dX4_rollAll_1 : decode cX4_rollAll 1 = .ok (.getfield 15, 3) := by decide +kernel
theorem dX4_rollAll_4 : decode cX4_rollAll 4 = .ok (.lconst 0, 1) := by decide +kernel
theorem dX4_rollAll_5 : decode cX4_rollAll 5 = .ok (.invokestatic 22, 3) := by decide +kernel
theorem dX4_rollAll_8 : decode cX4_rollAll 8 = .ok (.iconst 0, 1) := by decide +kernel
theorem dX4_rollAll_9 : decode cX4_rollAll 9 = .ok (.istore_n 2, 1) := by decide +kernel
theorem dX4_rollAll_10 : decode cX4_rollAll 10 = .ok (.iload_n 2, 1) := by decide +kernel
theorem dX4_rollAll_11 : decode cX4_rollAll 11 = .ok (.bipush 96, 2) := by decide +kernel
theorem dX4_rollAll_13 : decode cX4_rollAll 13 = .ok (.if_icmp .ge 69, 3) := by decide +kernel
theorem dX4_rollAll_16 : decode cX4_rollAll 16 = .ok (.aload_n 0, 1) := by decide +kernel
theorem dX4_rollAll_17 : decode cX4_rollAll 17 = .ok (.getfield 9, 3) := by decide +kernel
theorem dX4_rollAll_20 : decode cX4_rollAll 20 = .ok (.iload_n 2, 1) := by decide +kernel
theorem dX4_rollAll_21 : decode cX4_rollAll 21 = .ok (.laload, 1) := by decide +kernel
theorem dX4_rollAll_22 : decode cX4_rollAll 22 = .ok (.lconst 0, 1) := by decide +kernel
theorem dX4_rollAll_23 : decode cX4_rollAll 23 = .ok (.lcmp, 1) := by decide +kernel
theorem dX4_rollAll_24 : decode cX4_rollAll 24 = .ok (.ifCond .eq 52, 3) := by decide +kernel
theorem dX4_rollAll_27 : decode cX4_rollAll 27 = .ok (.iconst 0, 1) := by decide +kernel
theorem dX4_rollAll_28 : decode cX4_rollAll 28 = .ok (.istore_n 3, 1) := by decide +kernel
theorem dX4_rollAll_29 : decode cX4_rollAll 29 = .ok (.iload_n 3, 1) := by decide +kernel
theorem dX4_rollAll_30 : decode cX4_rollAll 30 = .ok (.iconst 4, 1) := by decide +kernel
theorem dX4_rollAll_31 : decode cX4_rollAll 31 = .ok (.if_icmp .ge 45, 3) := by decide +kernel
theorem dX4_rollAll_34 : decode cX4_rollAll 34 = .ok (.aload_n 1, 1) := by decide +kernel
theorem dX4_rollAll_35 : decode cX4_rollAll 35 = .ok (.iload_n 2, 1) := by decide +kernel
theorem dX4_rollAll_36 : decode cX4_rollAll 36 = .ok (.iload_n 3, 1) := by decide +kernel
theorem dX4_rollAll_37 : decode cX4_rollAll 37 = .ok (.invokestatic 38, 3) := by decide +kernel
theorem dX4_rollAll_40 : decode cX4_rollAll 40 = .ok (.istore 4, 2) := by decide +kernel
theorem dX4_rollAll_42 : decode cX4_rollAll 42 = .ok (.aload_n 0, 1) := by decide +kernel
theorem dX4_rollAll_43 : decode cX4_rollAll 43 = .ok (.getfield 15, 3) := by decide +kernel
theorem dX4_rollAll_46 : decode cX4_rollAll 46 = .ok (.iload 4, 2) := by decide +kernel
theorem dX4_rollAll_48 : decode cX4_rollAll 48 = .ok (.invokestatic 18, 3) := by decide +kernel
theorem dX4_rollAll_51 : decode cX4_rollAll 51 = .ok (.ifCond .eq 8, 3) := by decide +kernel
theorem dX4_rollAll_54 : decode cX4_rollAll 54 = .ok (.iload 4, 2) := by decide +kernel
theorem dX4_rollAll_56 : decode cX4_rollAll 56 = .ok (.goto 4, 3) := by decide +kernel
theorem dX4_rollAll_59 : decode cX4_rollAll 59 = .ok (.iload_n 2, 1) := by decide +kernel
theorem dX4_rollAll_60 : decode cX4_rollAll 60 = .ok (.dup2, 1) := by decide +kernel
theorem dX4_rollAll_61 : decode cX4_rollAll 61 = .ok (.laload, 1) := by decide +kernel
theorem dX4_rollAll_62 : decode cX4_rollAll 62 = .ok (.aload_n 0, 1) := by decide +kernel
theorem dX4_rollAll_63 : decode cX4_rollAll 63 = .ok (.getfield 9, 3) := by decide +kernel
theorem dX4_rollAll_66 : decode cX4_rollAll 66 = .ok (.iload_n 2, 1) := by decide +kernel
theorem dX4_rollAll_67 : decode cX4_rollAll 67 = .ok (.laload, 1) := by decide +kernel
theorem dX4_rollAll_68 : decode cX4_rollAll 68 = .ok (.ladd, 1) := by decide +kernel
theorem dX4_rollAll_69 : decode cX4_rollAll 69 = .ok (.lastore, 1) := by decide +kernel
theorem dX4_rollAll_70 : decode cX4_rollAll 70 = .ok (.iinc 3 1, 3) := by decide +kernel
theorem dX4_rollAll_73 : decode cX4_rollAll 73 = .ok (.goto (-44), 3) := by decide +kernel
theorem dX4_rollAll_76 : decode cX4_rollAll 76 = .ok (.iinc 2 1, 3) := by decide +kernel
theorem dX4_rollAll_79 : decode cX4_rollAll 79 = .ok (.goto (-69), 3) := by decide +kernel
theorem dX4_rollAll_82 : decode cX4_rollAll 82 = .ok (.aload_n 0, 1) := by decide +kernel
theorem dX4_rollAll_83 : decode cX4_rollAll 83 = .ok (.getfield 15, 3) := by decide +kernel
theorem dX4_rollAll_86 : decode cX4_rollAll 86 = .ok (.iconst 0, 1) := by decide +kernel
theorem dX4_rollAll_87 : decode cX4_rollAll 87 = .ok (.aload_n 0, 1) := by decide +kernel
theorem dX4_rollAll_88 : decode cX4_rollAll 88 = .ok (.getfield 9, 3) := by decide +kernel
theorem dX4_rollAll_91 : decode cX4_rollAll 91 = .ok (.iconst 0, 1) := by decide +kernel
theorem dX4_rollAll_92 : decode cX4_rollAll 92 = .ok (.bipush 96, 2) := by decide +kernel
theorem dX4_rollAll_94 : decode cX4_rollAll 94 = .ok (.invokestatic 42, 3) := by decide +kernel
theorem dX4_rollAll_97 : decode cX4_rollAll 97 = .ok (.return_, 1) := by decide +kernel
theorem dX4_rolledTo_0 : decode cX4_rolledTo 0 = .ok (.aload_n 0, 1) := by decide +kernel
theorem dX4_rolledTo_1 : decode cX4_rolledTo 1 = .ok (.iload_n 1, 1) := by decide +kernel
theorem dX4_rolledTo_2 : decode cX4_rolledTo 2 = .ok (.invokevirtual 48, 3) := by decide +kernel
theorem dX4_rolledTo_5 : decode cX4_rolledTo 5 = .ok (.istore_n 3, 1) := by decide +kernel
theorem dX4_rolledTo_6 : decode cX4_rolledTo 6 = .ok (.iload_n 3, 1) := by decide +kernel
theorem dX4_rolledTo_7 : decode cX4_rolledTo 7 = .ok (.bipush 6, 2) := by decide +kernel
theorem dX4_rolledTo_9 : decode cX4_rolledTo 9 = .ok (.if_icmp .ne 5, 3) := by decide +kernel
theorem dX4_rolledTo_12 : decode cX4_rolledTo 12 = .ok (.iload_n 1, 1) := by decide +kernel
theorem dX4_rolledTo_13 : decode cX4_rolledTo 13 = .ok (.ireturn, 1) := by decide +kernel
theorem dX4_rolledTo_14 : decode cX4_rolledTo 14 = .ok (.iload_n 1, 1) := by decide +kernel
theorem dX4_rolledTo_15 : decode cX4_rolledTo 15 = .ok (.iload_n 3, 1) := by decide +kernel
theorem dX4_rolledTo_16 : decode cX4_rolledTo 16 = .ok (.invokestatic 54, 3) := by decide +kernel
theorem dX4_rolledTo_19 : decode cX4_rolledTo 19 = .ok (.ifCond .eq 7, 3) := by decide +kernel
theorem dX4_rolledTo_22 : decode cX4_rolledTo 22 = .ok (.iload_n 3, 1) := by decide +kernel
theorem dX4_rolledTo_23 : decode cX4_rolledTo 23 = .ok (.goto 4, 3) := by decide +kernel
theorem dX4_rolledTo_26 : decode cX4_rolledTo 26 = .ok (.iload_n 2, 1) := by decide +kernel
theorem dX4_rolledTo_27 : decode cX4_rolledTo 27 = .ok (.invokestatic 57, 3) := by decide +kernel
theorem dX4_rolledTo_30 : decode cX4_rolledTo 30 = .ok (.istore 4, 2) := by decide +kernel
theorem dX4_rolledTo_32 : decode cX4_rolledTo 32 = .ok (.aload_n 0, 1) := by decide +kernel
theorem dX4_rolledTo_33 : decode cX4_rolledTo 33 = .ok (.iload 4, 2) := by decide +kernel
theorem dX4_rolledTo_35 : decode cX4_rolledTo 35 = .ok (.invokevirtual 48, 3) := by decide +kernel
theorem dX4_rolledTo_38 : decode cX4_rolledTo 38 = .ok (.iconst 5, 1) := by decide +kernel
theorem dX4_rolledTo_39 : decode cX4_rolledTo 39 = .ok (.if_icmp .ne 7, 3) := by decide +kernel
theorem dX4_rolledTo_42 : decode cX4_rolledTo 42 = .ok (.iload_n 1, 1) := by decide +kernel
theorem dX4_rolledTo_43 : decode cX4_rolledTo 43 = .ok (.goto 5, 3) := by decide +kernel
theorem dX4_rolledTo_46 : decode cX4_rolledTo 46 = .ok (.iload 4, 2) := by decide +kernel
theorem dX4_rolledTo_48 : decode cX4_rolledTo 48 = .ok (.ireturn, 1) := by decide +kernel
theorem dX5_init_0 : decode cX5_init 0 = .ok (.aload_n 0, 1) := by decide +kernel
theorem dX5_init_1 : decode cX5_init 1 = .ok (.invokespecial 3, 3) := by decide +kernel
theorem dX5_init_4 : decode cX5_init 4 = .ok (.aload_n 0, 1) := by decide +kernel
theorem dX5_init_5 : decode cX5_init 5 = .ok (.bipush 9, 2) := by decide +kernel
theorem dX5_init_7 : decode cX5_init 7 = .ok (.newarray .int, 2) := by decide +kernel
theorem dX5_init_9 : decode cX5_init 9 = .ok (.putfield 9, 3) := by decide +kernel
theorem dX5_init_12 : decode cX5_init 12 = .ok (.aload_n 0, 1) := by decide +kernel
theorem dX5_init_13 : decode cX5_init 13 = .ok (.invokevirtual 15, 3) := by decide +kernel
theorem dX5_init_16 : decode cX5_init 16 = .ok (.return_, 1) := by decide +kernel
theorem dX5_beginAnew_0 : decode cX5_beginAnew 0 = .ok (.getstatic 18, 3) := by decide +kernel
theorem dX5_beginAnew_3 : decode cX5_beginAnew 3 = .ok (.iconst 0, 1) := by decide +kernel
theorem dX5_beginAnew_4 : decode cX5_beginAnew 4 = .ok (.aload_n 0, 1) := by decide +kernel
theorem dX5_beginAnew_5 : decode cX5_beginAnew 5 = .ok (.getfield 9, 3) := by decide +kernel
theorem dX5_beginAnew_8 : decode cX5_beginAnew 8 = .ok (.iconst 0, 1) := by decide +kernel
theorem dX5_beginAnew_9 : decode cX5_beginAnew 9 = .ok (.bipush 9, 2) := by decide +kernel
theorem dX5_beginAnew_11 : decode cX5_beginAnew 11 = .ok (.invokestatic 21, 3) := by decide +kernel
theorem dX5_beginAnew_14 : decode cX5_beginAnew 14 = .ok (.return_, 1) := by decide +kernel
theorem dX5_takeAll_0 : decode cX5_takeAll 0 = .ok (.aload_n 1, 1) := by decide +kernel
theorem dX5_takeAll_1 : decode cX5_takeAll 1 = .ok (.getfield 9, 3) := by decide +kernel
theorem dX5_takeAll_4 : decode cX5_takeAll 4 = .ok (.iconst 0, 1) := by decide +kernel
theorem dX5_takeAll_5 : decode cX5_takeAll 5 = .ok (.aload_n 0, 1) := by decide +kernel
theorem dX5_takeAll_6 : decode cX5_takeAll 6 = .ok (.getfield 9, 3) := by decide +kernel
theorem dX5_takeAll_9 : decode cX5_takeAll 9 = .ok (.iconst 0, 1) := by decide +kernel
theorem dX5_takeAll_10 : decode cX5_takeAll 10 = .ok (.bipush 9, 2) := by decide +kernel
theorem dX5_takeAll_12 : decode cX5_takeAll 12 = .ok (.invokestatic 21, 3) := by decide +kernel
theorem dX5_takeAll_15 : decode cX5_takeAll 15 = .ok (.return_, 1) := by decide +kernel
theorem dX5_value_0 : decode cX5_value 0 = .ok (.iload_n 1, 1) := by decide +kernel
theorem dX5_value_1 : decode cX5_value 1 = .ok (.ifCond .lt 18, 3) := by decide +kernel
theorem dX5_value_4 : decode cX5_value 4 = .ok (.iload_n 1, 1) := by decide +kernel
theorem dX5_value_5 : decode cX5_value 5 = .ok (.bipush 9, 2) := by decide +kernel
theorem dX5_value_7 : decode cX5_value 7 = .ok (.if_icmp .ge 12, 3) := by decide +kernel
theorem dX5_value_10 : decode cX5_value 10 = .ok (.aload_n 0, 1) := by decide +kernel
theorem dX5_value_11 : decode cX5_value 11 = .ok (.getfield 9, 3) := by decide +kernel
theorem dX5_value_14 : decode cX5_value 14 = .ok (.iload_n 1, 1) := by decide +kernel
theorem dX5_value_15 : decode cX5_value 15 = .ok (.iaload, 1) := by decide +kernel
theorem dX5_value_16 : decode cX5_value 16 = .ok (.goto 4, 3) := by decide +kernel
theorem dX5_value_19 : decode cX5_value 19 = .ok (.iconst 0, 1) := by decide +kernel
theorem dX5_value_20 : decode cX5_value 20 = .ok (.ireturn, 1) := by decide +kernel
theorem dX5_become_0 : decode cX5_become 0 = .ok (.iload_n 1, 1) := by decide +kernel
theorem dX5_become_1 : decode cX5_become 1 = .ok (.ifCond .lt 16, 3) := by decide +kernel
theorem dX5_become_4 : decode cX5_become 4 = .ok (.iload_n 1, 1) := by decide +kernel
theorem dX5_become_5 : decode cX5_become 5 = .ok (.bipush 9, 2) := by decide +kernel
theorem dX5_become_7 : decode cX5_become 7 = .ok (.if_icmp .ge 10, 3) := by decide +kernel
theorem dX5_become_10 : decode cX5_become 10 = .ok (.aload_n 0, 1) := by decide +kernel
theorem dX5_become_11 : decode cX5_become 11 = .ok (.getfield 9, 3) := by decide +kernel
theorem dX5_become_14 : decode cX5_become 14 = .ok (.iload_n 1, 1) := by decide +kernel
theorem dX5_become_15 : decode cX5_become 15 = .ok (.iload_n 2, 1) := by decide +kernel
theorem dX5_become_16 : decode cX5_become 16 = .ok (.iastore, 1) := by decide +kernel
theorem dX5_become_17 : decode cX5_become 17 = .ok (.return_, 1) := by decide +kernel
theorem dX5_floatsAt_0 : decode cX5_floatsAt 0 = .ok (.iload_n 1, 1) := by decide +kernel
theorem dX5_floatsAt_1 : decode cX5_floatsAt 1 = .ok (.aload_n 0, 1) := by decide +kernel
theorem dX5_floatsAt_2 : decode cX5_floatsAt 2 = .ok (.getfield 9, 3) := by decide +kernel
theorem dX5_floatsAt_5 : decode cX5_floatsAt 5 = .ok (.iload_n 2, 1) := by decide +kernel
theorem dX5_floatsAt_6 : decode cX5_floatsAt 6 = .ok (.ifCond .eq 7, 3) := by decide +kernel
theorem dX5_floatsAt_9 : decode cX5_floatsAt 9 = .ok (.iconst 0, 1) := by decide +kernel
theorem dX5_floatsAt_10 : decode cX5_floatsAt 10 = .ok (.goto 4, 3) := by decide +kernel
theorem dX5_floatsAt_13 : decode cX5_floatsAt 13 = .ok (.iconst 1, 1) := by decide +kernel
theorem dX5_floatsAt_14 : decode cX5_floatsAt 14 = .ok (.iaload, 1) := by decide +kernel
theorem dX5_floatsAt_15 : decode cX5_floatsAt 15 = .ok (.if_icmp .lt 7, 3) := by decide +kernel
theorem dX5_floatsAt_18 : decode cX5_floatsAt 18 = .ok (.iconst 1, 1) := by decide +kernel
theorem dX5_floatsAt_19 : decode cX5_floatsAt 19 = .ok (.goto 4, 3) := by decide +kernel
theorem dX5_floatsAt_22 : decode cX5_floatsAt 22 = .ok (.iconst 0, 1) := by decide +kernel
theorem dX5_floatsAt_23 : decode cX5_floatsAt 23 = .ok (.ireturn, 1) := by decide +kernel
theorem dX5_teethSend_0 : decode cX5_teethSend 0 = .ok (.iload_n 1, 1) := by decide +kernel
theorem dX5_teethSend_1 : decode cX5_teethSend 1 = .ok (.aload_n 0, 1) := by decide +kernel
theorem dX5_teethSend_2 : decode cX5_teethSend 2 = .ok (.getfield 9, 3) := by decide +kernel
theorem dX5_teethSend_5 : decode cX5_teethSend 5 = .ok (.iconst 2, 1) := by decide +kernel
theorem dX5_teethSend_6 : decode cX5_teethSend 6 = .ok (.iaload, 1) := by decide +kernel
theorem dX5_teethSend_7 : decode cX5_teethSend 7 = .ok (.if_icmp .lt 17, 3) := by decide +kernel
theorem dX5_teethSend_10 : decode cX5_teethSend 10 = .ok (.iload_n 1, 1) := by decide +kernel
theorem dX5_teethSend_11 : decode cX5_teethSend 11 = .ok (.aload_n 0, 1) := by decide +kernel
theorem dX5_teethSend_12 : decode cX5_teethSend 12 = .ok (.getfield 9, 3) := by decide +kernel
theorem dX5_teethSend_15 : decode cX5_teethSend 15 = .ok (.iconst 3, 1) := by decide +kernel
theorem dX5_teethSend_16 : decode cX5_teethSend 16 = .ok (.iaload, 1) := by decide +kernel
theorem dX5_teethSend_17 : decode cX5_teethSend 17 = .ok (.if_icmp .gt 7, 3) := by decide +kernel
theorem dX5_teethSend_20 : decode cX5_teethSend 20 = .ok (.iconst 1, 1) := by decide +kernel
theorem dX5_teethSend_21 : decode cX5_teethSend 21 = .ok (.goto 4, 3) := by decide +kernel
theorem dX5_teethSend_24 : decode cX5_teethSend 24 = .ok (.iconst 0, 1) := by decide +kernel
theorem dX5_teethSend_25 : decode cX5_teethSend 25 = .ok (.ireturn, 1) := by decide +kernel
theorem dX5_hasChimney_0 : decode cX5_hasChimney 0 = .ok (.iload_n 1, 1) := by decide +kernel
theorem dX5_hasChimney_1 : decode cX5_hasChimney 1 = .ok (.aload_n 0, 1) := by decide +kernel
theorem dX5_hasChimney_2 : decode cX5_hasChimney 2 = .ok (.getfield 9, 3) := by decide +kernel
theorem dX5_hasChimney_5 : decode cX5_hasChimney 5 = .ok (.iconst 5, 1) := by decide +kernel
theorem dX5_hasChimney_6 : decode cX5_hasChimney 6 = .ok (.iaload, 1) := by decide +kernel
theorem dX5_hasChimney_7 : decode cX5_hasChimney 7 = .ok (.if_icmp .lt 7, 3) := by decide +kernel
theorem dX5_hasChimney_10 : decode cX5_hasChimney 10 = .ok (.iconst 1, 1) := by decide +kernel
theorem dX5_hasChimney_11 : decode cX5_hasChimney 11 = .ok (.goto 4, 3) := by decide +kernel
theorem dX5_hasChimney_14 : decode cX5_hasChimney 14 = .ok (.iconst 0, 1) := by decide +kernel
theorem dX5_hasChimney_15 : decode cX5_hasChimney 15 = .ok (.ireturn, 1) := by decide +kernel
theorem dX5_losesFloatingAt_0 : decode cX5_losesFloatingAt 0 = .ok (.aload_n 0, 1) := by decide +kernel
theorem dX5_losesFloatingAt_1 : decode cX5_losesFloatingAt 1 = .ok (.getfield 9, 3) := by decide +kernel
theorem dX5_losesFloatingAt_4 : decode cX5_losesFloatingAt 4 = .ok (.bipush 7, 2) := by decide +kernel
theorem dX5_losesFloatingAt_6 : decode cX5_losesFloatingAt 6 = .ok (.iaload, 1) := by decide +kernel
theorem dX5_losesFloatingAt_7 : decode cX5_losesFloatingAt 7 = .ok (.istore_n 2, 1) := by decide +kernel
theorem dX5_losesFloatingAt_8 : decode cX5_losesFloatingAt 8 = .ok (.iload_n 2, 1) := by decide +kernel
theorem dX5_losesFloatingAt_9 : decode cX5_losesFloatingAt 9 = .ok (.ifCond .le 13, 3) := by decide +kernel
theorem dX5_losesFloatingAt_12 : decode cX5_losesFloatingAt 12 = .ok (.iload_n 1, 1) := by decide +kernel
theorem dX5_losesFloatingAt_13 : decode cX5_losesFloatingAt 13 = .ok (.iload_n 2, 1) := by decide +kernel
theorem dX5_losesFloatingAt_14 : decode cX5_losesFloatingAt 14 = .ok (.irem, 1) := by decide +kernel
theorem dX5_losesFloatingAt_15 : decode cX5_losesFloatingAt 15 = .ok (.ifCond .ne 7, 3) := by decide +kernel
theorem dX5_losesFloatingAt_18 : decode cX5_losesFloatingAt 18 = .ok (.iconst 1, 1) := by decide +kernel
theorem dX5_losesFloatingAt_19 : decode cX5_losesFloatingAt 19 = .ok (.goto 4, 3) := by decide +kernel
theorem dX5_losesFloatingAt_22 : decode cX5_losesFloatingAt 22 = .ok (.iconst 0, 1) := by decide +kernel
theorem dX5_losesFloatingAt_23 : decode cX5_losesFloatingAt 23 = .ok (.ireturn, 1) := by decide +kernel
theorem dX5_lossFloating_0 : decode cX5_lossFloating 0 = .ok (.aload_n 0, 1) := by decide +kernel
theorem dX5_lossFloating_1 : decode cX5_lossFloating 1 = .ok (.iload_n 1, 1) := by decide +kernel
theorem dX5_lossFloating_2 : decode cX5_lossFloating 2 = .ok (.invokevirtual 27, 3) := by decide +kernel
theorem dX5_lossFloating_5 : decode cX5_lossFloating 5 = .ok (.ifCond .eq 7, 3) := by decide +kernel
theorem dX5_lossFloating_8 : decode cX5_lossFloating 8 = .ok (.iconst 2, 1) := by decide +kernel
theorem dX5_lossFloating_9 : decode cX5_lossFloating 9 = .ok (.goto 4, 3) := by decide +kernel
theorem dX5_lossFloating_12 : decode cX5_lossFloating 12 = .ok (.iconst 1, 1) := by decide +kernel
theorem dX5_lossFloating_13 : decode cX5_lossFloating 13 = .ok (.ireturn, 1) := by decide +kernel
theorem dX5_lossTouching_0 : decode cX5_lossTouching 0 = .ok (.aload_n 0, 1) := by decide +kernel
theorem dX5_lossTouching_1 : decode cX5_lossTouching 1 = .ok (.getfield 9, 3) := by decide +kernel
theorem dX5_lossTouching_4 : decode cX5_lossTouching 4 = .ok (.bipush 6, 2) := by decide +kernel
theorem dX5_lossTouching_6 : decode cX5_lossTouching 6 = .ok (.iaload, 1) := by decide +kernel
theorem dX5_lossTouching_7 : decode cX5_lossTouching 7 = .ok (.istore_n 2, 1) := by decide +kernel
theorem dX5_lossTouching_8 : decode cX5_lossTouching 8 = .ok (.iload_n 2, 1) := by decide +kernel
theorem dX5_lossTouching_9 : decode cX5_lossTouching 9 = .ok (.ifCond .le 11, 3) := by decide +kernel
theorem dX5_lossTouching_12 : decode cX5_lossTouching 12 = .ok (.iconst 1, 1) := by decide +kernel
theorem dX5_lossTouching_13 : decode cX5_lossTouching 13 = .ok (.iload_n 1, 1) := by decide +kernel
theorem dX5_lossTouching_14 : decode cX5_lossTouching 14 = .ok (.iload_n 2, 1) := by decide +kernel
theorem dX5_lossTouching_15 : decode cX5_lossTouching 15 = .ok (.idiv, 1) := by decide +kernel
theorem dX5_lossTouching_16 : decode cX5_lossTouching 16 = .ok (.iadd, 1) := by decide +kernel
theorem dX5_lossTouching_17 : decode cX5_lossTouching 17 = .ok (.goto 4, 3) := by decide +kernel
theorem dX5_lossTouching_20 : decode cX5_lossTouching 20 = .ok (.iconst 1, 1) := by decide +kernel
theorem dX5_lossTouching_21 : decode cX5_lossTouching 21 = .ok (.ireturn, 1) := by decide +kernel
theorem dX5_lifeOf_0 : decode cX5_lifeOf 0 = .ok (.aload_n 0, 1) := by decide +kernel
theorem dX5_lifeOf_1 : decode cX5_lifeOf 1 = .ok (.iload_n 1, 1) := by decide +kernel
theorem dX5_lifeOf_2 : decode cX5_lifeOf 2 = .ok (.iload_n 2, 1) := by decide +kernel
theorem dX5_lifeOf_3 : decode cX5_lifeOf 3 = .ok (.aload_n 0, 1) := by decide +kernel
theorem dX5_lifeOf_4 : decode cX5_lifeOf 4 = .ok (.iload_n 2, 1) := by decide +kernel
theorem dX5_lifeOf_5 : decode cX5_lifeOf 5 = .ok (.iload_n 3, 1) := by decide +kernel
theorem dX5_lifeOf_6 : decode cX5_lifeOf 6 = .ok (.invokevirtual 31, 3) := by decide +kernel
theorem dX5_lifeOf_9 : decode cX5_lifeOf 9 = .ok (.invokevirtual 35, 3) := by decide +kernel
theorem dX5_lifeOf_12 : decode cX5_lifeOf 12 = .ok (.ireturn, 1) := by decide +kernel
theorem dX5_lifeBy_0 : decode cX5_lifeBy 0 = .ok (.iload_n 3, 1) := by decide +kernel
theorem dX5_lifeBy_1 : decode cX5_lifeBy 1 = .ok (.ifCond .eq 11, 3) := by decide +kernel
theorem dX5_lifeBy_4 : decode cX5_lifeBy 4 = .ok (.aload_n 0, 1) := by decide +kernel
theorem dX5_lifeBy_5 : decode cX5_lifeBy 5 = .ok (.iload_n 1, 1) := by decide +kernel
theorem dX5_lifeBy_6 : decode cX5_lifeBy 6 = .ok (.invokevirtual 39, 3) := by decide +kernel
theorem dX5_lifeBy_9 : decode cX5_lifeBy 9 = .ok (.goto 9, 3) := by decide +kernel
theorem dX5_lifeBy_12 : decode cX5_lifeBy 12 = .ok (.aload_n 0, 1) := by decide +kernel
theorem dX5_lifeBy_13 : decode cX5_lifeBy 13 = .ok (.iload_n 1, 1) := by decide +kernel
theorem dX5_lifeBy_14 : decode cX5_lifeBy 14 = .ok (.iload_n 2, 1) := by decide +kernel
theorem dX5_lifeBy_15 : decode cX5_lifeBy 15 = .ok (.invokevirtual 43, 3) := by decide +kernel
theorem dX5_lifeBy_18 : decode cX5_lifeBy 18 = .ok (.ireturn, 1) := by decide +kernel
theorem dX5_lifeTouching_0 : decode cX5_lifeTouching 0 = .ok (.aload_n 0, 1) := by decide +kernel
theorem dX5_lifeTouching_1 : decode cX5_lifeTouching 1 = .ok (.iload_n 2, 1) := by decide +kernel
theorem dX5_lifeTouching_2 : decode cX5_lifeTouching 2 = .ok (.invokevirtual 47, 3) := by decide +kernel
theorem dX5_lifeTouching_5 : decode cX5_lifeTouching 5 = .ok (.istore_n 3, 1) := by decide +kernel
theorem dX5_lifeTouching_6 : decode cX5_lifeTouching 6 = .ok (.iload_n 3, 1) := by decide +kernel
theorem dX5_lifeTouching_7 : decode cX5_lifeTouching 7 = .ok (.ifCond .le 13, 3) := by decide +kernel
theorem dX5_lifeTouching_10 : decode cX5_lifeTouching 10 = .ok (.iload_n 1, 1) := by decide +kernel
theorem dX5_lifeTouching_11 : decode cX5_lifeTouching 11 = .ok (.iload_n 3, 1) := by decide +kernel
theorem dX5_lifeTouching_12 : decode cX5_lifeTouching 12 = .ok (.iadd, 1) := by decide +kernel
theorem dX5_lifeTouching_13 : decode cX5_lifeTouching 13 = .ok (.iconst 1, 1) := by decide +kernel
theorem dX5_lifeTouching_14 : decode cX5_lifeTouching 14 = .ok (.isub, 1) := by decide +kernel
theorem dX5_lifeTouching_15 : decode cX5_lifeTouching 15 = .ok (.iload_n 3, 1) := by decide +kernel
theorem dX5_lifeTouching_16 : decode cX5_lifeTouching 16 = .ok (.idiv, 1) := by decide +kernel
theorem dX5_lifeTouching_17 : decode cX5_lifeTouching 17 = .ok (.goto 4, 3) := by decide +kernel
theorem dX5_lifeTouching_20 : decode cX5_lifeTouching 20 = .ok (.iconst 0, 1) := by decide +kernel
theorem dX5_lifeTouching_21 : decode cX5_lifeTouching 21 = .ok (.ireturn, 1) := by decide +kernel
theorem dX5_lifeFloating_0 : decode cX5_lifeFloating 0 = .ok (.iload_n 1, 1) := by decide +kernel
theorem dX5_lifeFloating_1 : decode cX5_lifeFloating 1 = .ok (.istore_n 2, 1) := by decide +kernel
theorem dX5_lifeFloating_2 : decode cX5_lifeFloating 2 = .ok (.iconst 0, 1) := by decide +kernel
theorem dX5_lifeFloating_3 : decode cX5_lifeFloating 3 = .ok (.istore_n 3, 1) := by decide +kernel
theorem dX5_lifeFloating_4 : decode cX5_lifeFloating 4 = .ok (.iload_n 2, 1) := by decide +kernel
theorem dX5_lifeFloating_5 : decode cX5_lifeFloating 5 = .ok (.aload_n 0, 1) := by decide +kernel
theorem dX5_lifeFloating_6 : decode cX5_lifeFloating 6 = .ok (.iload_n 2, 1) := by decide +kernel
theorem dX5_lifeFloating_7 : decode cX5_lifeFloating 7 = .ok (.invokevirtual 50, 3) := by decide +kernel
theorem dX5_lifeFloating_10 : decode cX5_lifeFloating 10 = .ok (.isub, 1) := by decide +kernel
theorem dX5_lifeFloating_11 : decode cX5_lifeFloating 11 = .ok (.istore_n 2, 1) := by decide +kernel
theorem dX5_lifeFloating_12 : decode cX5_lifeFloating 12 = .ok (.iinc 3 1, 3) := by decide +kernel
theorem dX5_lifeFloating_15 : decode cX5_lifeFloating 15 = .ok (.iload_n 2, 1) := by decide +kernel
theorem dX5_lifeFloating_16 : decode cX5_lifeFloating 16 = .ok (.aload_n 0, 1) := by decide +kernel
theorem dX5_lifeFloating_17 : decode cX5_lifeFloating 17 = .ok (.getfield 9, 3) := by decide +kernel
theorem dX5_lifeFloating_20 : decode cX5_lifeFloating 20 = .ok (.iconst 4, 1) := by decide +kernel
theorem dX5_lifeFloating_21 : decode cX5_lifeFloating 21 = .ok (.iaload, 1) := by decide +kernel
theorem dX5_lifeFloating_22 : decode cX5_lifeFloating 22 = .ok (.if_icmp .le 9, 3) := by decide +kernel
theorem dX5_lifeFloating_25 : decode cX5_lifeFloating 25 = .ok (.iload_n 3, 1) := by decide +kernel
theorem dX5_lifeFloating_26 : decode cX5_lifeFloating 26 = .ok (.bipush 60, 2) := by decide +kernel
theorem dX5_lifeFloating_28 : decode cX5_lifeFloating 28 = .ok (.if_icmp .lt (-24), 3) := by decide +kernel
theorem dX5_lifeFloating_31 : decode cX5_lifeFloating 31 = .ok (.iload_n 3, 1) := by decide +kernel
theorem dX5_lifeFloating_32 : decode cX5_lifeFloating 32 = .ok (.iconst 1, 1) := by decide +kernel
theorem dX5_lifeFloating_33 : decode cX5_lifeFloating 33 = .ok (.isub, 1) := by decide +kernel
theorem dX5_lifeFloating_34 : decode cX5_lifeFloating 34 = .ok (.aload_n 0, 1) := by decide +kernel
theorem dX5_lifeFloating_35 : decode cX5_lifeFloating 35 = .ok (.getfield 9, 3) := by decide +kernel
theorem dX5_lifeFloating_38 : decode cX5_lifeFloating 38 = .ok (.bipush 7, 2) := by decide +kernel
theorem dX5_lifeFloating_40 : decode cX5_lifeFloating 40 = .ok (.iaload, 1) := by decide +kernel
theorem dX5_lifeFloating_41 : decode cX5_lifeFloating 41 = .ok (.imul, 1) := by decide +kernel
theorem dX5_lifeFloating_42 : decode cX5_lifeFloating 42 = .ok (.iconst 1, 1) := by decide +kernel
theorem dX5_lifeFloating_43 : decode cX5_lifeFloating 43 = .ok (.iadd, 1) := by decide +kernel
theorem dX5_lifeFloating_44 : decode cX5_lifeFloating 44 = .ok (.ireturn, 1) := by decide +kernel
theorem dX5_longestHeat_0 : decode cX5_longestHeat 0 = .ok (.iconst 0, 1) := by decide +kernel
theorem dX5_longestHeat_1 : decode cX5_longestHeat 1 = .ok (.istore_n 3, 1) := by decide +kernel
theorem dX5_longestHeat_2 : decode cX5_longestHeat 2 = .ok (.iconst 1, 1) := by decide +kernel
theorem dX5_longestHeat_3 : decode cX5_longestHeat 3 = .ok (.istore 4, 2) := by decide +kernel
theorem dX5_longestHeat_5 : decode cX5_longestHeat 5 = .ok (.iload 4, 2) := by decide +kernel
theorem dX5_longestHeat_7 : decode cX5_longestHeat 7 = .ok (.bipush 99, 2) := by decide +kernel
theorem dX5_longestHeat_9 : decode cX5_longestHeat 9 = .ok (.if_icmp .gt 30, 3) := by decide +kernel
theorem dX5_longestHeat_12 : decode cX5_longestHeat 12 = .ok (.aload_n 0, 1) := by decide +kernel
theorem dX5_longestHeat_13 : decode cX5_longestHeat 13 = .ok (.iload_n 1, 1) := by decide +kernel
theorem dX5_longestHeat_14 : decode cX5_longestHeat 14 = .ok (.iload 4, 2) := by decide +kernel
theorem dX5_longestHeat_16 : decode cX5_longestHeat 16 = .ok (.iload_n 2, 1) := by decide +kernel
theorem dX5_longestHeat_17 : decode cX5_longestHeat 17 = .ok (.invokevirtual 53, 3) := by decide +kernel
theorem dX5_longestHeat_20 : decode cX5_longestHeat 20 = .ok (.aload_n 0, 1) := by decide +kernel
theorem dX5_longestHeat_21 : decode cX5_longestHeat 21 = .ok (.iload_n 1, 1) := by decide +kernel
theorem dX5_longestHeat_22 : decode cX5_longestHeat 22 = .ok (.iload_n 3, 1) := by decide +kernel
theorem dX5_longestHeat_23 : decode cX5_longestHeat 23 = .ok (.iload_n 2, 1) := by decide +kernel
theorem dX5_longestHeat_24 : decode cX5_longestHeat 24 = .ok (.invokevirtual 53, 3) := by decide +kernel
theorem dX5_longestHeat_27 : decode cX5_longestHeat 27 = .ok (.if_icmp .le 6, 3) := by decide +kernel
theorem dX5_longestHeat_30 : decode cX5_longestHeat 30 = .ok (.iload 4, 2) := by decide +kernel
theorem dX5_longestHeat_32 : decode cX5_longestHeat 32 = .ok (.istore_n 3, 1) := by decide +kernel
theorem dX5_longestHeat_33 : decode cX5_longestHeat 33 = .ok (.iinc 4 1, 3) := by decide +kernel
theorem dX5_longestHeat_36 : decode cX5_longestHeat 36 = .ok (.goto (-31), 3) := by decide +kernel
theorem dX5_longestHeat_39 : decode cX5_longestHeat 39 = .ok (.iload_n 3, 1) := by decide +kernel
theorem dX5_longestHeat_40 : decode cX5_longestHeat 40 = .ok (.ireturn, 1) := by decide +kernel
theorem dX5_shortestLife_0 : decode cX5_shortestLife 0 = .ok (.aload_n 0, 1) := by decide +kernel
theorem dX5_shortestLife_1 : decode cX5_shortestLife 1 = .ok (.iload_n 1, 1) := by decide +kernel
theorem dX5_shortestLife_2 : decode cX5_shortestLife 2 = .ok (.iconst 1, 1) := by decide +kernel
theorem dX5_shortestLife_3 : decode cX5_shortestLife 3 = .ok (.iload_n 2, 1) := by decide +kernel
theorem dX5_shortestLife_4 : decode cX5_shortestLife 4 = .ok (.invokevirtual 53, 3) := by decide +kernel
theorem dX5_shortestLife_7 : decode cX5_shortestLife 7 = .ok (.istore_n 3, 1) := by decide +kernel
theorem dX5_shortestLife_8 : decode cX5_shortestLife 8 = .ok (.iconst 2, 1) := by decide +kernel
theorem dX5_shortestLife_9 : decode cX5_shortestLife 9 = .ok (.istore 4, 2) := by decide +kernel
theorem dX5_shortestLife_11 : decode cX5_shortestLife 11 = .ok (.iload 4, 2) := by decide +kernel
theorem dX5_shortestLife_13 : decode cX5_shortestLife 13 = .ok (.bipush 99, 2) := by decide +kernel
theorem dX5_shortestLife_15 : decode cX5_shortestLife 15 = .ok (.if_icmp .gt 22, 3) := by decide +kernel
theorem dX5_shortestLife_18 : decode cX5_shortestLife 18 = .ok (.iload_n 3, 1) := by decide +kernel
theorem dX5_shortestLife_19 : decode cX5_shortestLife 19 = .ok (.aload_n 0, 1) := by decide +kernel
theorem dX5_shortestLife_20 : decode cX5_shortestLife 20 = .ok (.iload_n 1, 1) := by decide +kernel
theorem dX5_shortestLife_21 : decode cX5_shortestLife 21 = .ok (.iload 4, 2) := by decide +kernel
theorem dX5_shortestLife_23 : decode cX5_shortestLife 23 = .ok (.iload_n 2, 1) := by decide +kernel
theorem dX5_shortestLife_24 : decode cX5_shortestLife 24 = .ok (.invokevirtual 53, 3) := by decide +kernel
theorem dX5_shortestLife_27 : decode cX5_shortestLife 27 = .ok (.invokestatic 56, 3) := by decide +kernel
theorem dX5_shortestLife_30 : decode cX5_shortestLife 30 = .ok (.istore_n 3, 1) := by decide +kernel
theorem dX5_shortestLife_31 : decode cX5_shortestLife 31 = .ok (.iinc 4 1, 3) := by decide +kernel
theorem dX5_shortestLife_34 : decode cX5_shortestLife 34 = .ok (.goto (-23), 3) := by decide +kernel
theorem dX5_shortestLife_37 : decode cX5_shortestLife 37 = .ok (.iload_n 3, 1) := by decide +kernel
theorem dX5_shortestLife_38 : decode cX5_shortestLife 38 = .ok (.ireturn, 1) := by decide +kernel
theorem dX5_firstLonger_0 : decode cX5_firstLonger 0 = .ok (.iconst 1, 1) := by decide +kernel
theorem dX5_firstLonger_1 : decode cX5_firstLonger 1 = .ok (.istore_n 3, 1) := by decide +kernel
theorem dX5_firstLonger_2 : decode cX5_firstLonger 2 = .ok (.iload_n 3, 1) := by decide +kernel
theorem dX5_firstLonger_3 : decode cX5_firstLonger 3 = .ok (.bipush 99, 2) := by decide +kernel
theorem dX5_firstLonger_5 : decode cX5_firstLonger 5 = .ok (.if_icmp .gt 30, 3) := by decide +kernel
theorem dX5_firstLonger_8 : decode cX5_firstLonger 8 = .ok (.aload_n 0, 1) := by decide +kernel
theorem dX5_firstLonger_9 : decode cX5_firstLonger 9 = .ok (.iload_n 1, 1) := by decide +kernel
theorem dX5_firstLonger_10 : decode cX5_firstLonger 10 = .ok (.iload_n 3, 1) := by decide +kernel
theorem dX5_firstLonger_11 : decode cX5_firstLonger 11 = .ok (.iload_n 2, 1) := by decide +kernel
theorem dX5_firstLonger_12 : decode cX5_firstLonger 12 = .ok (.invokevirtual 53, 3) := by decide +kernel
theorem dX5_firstLonger_15 : decode cX5_firstLonger 15 = .ok (.aload_n 0, 1) := by decide +kernel
theorem dX5_firstLonger_16 : decode cX5_firstLonger 16 = .ok (.iload_n 1, 1) := by decide +kernel
theorem dX5_firstLonger_17 : decode cX5_firstLonger 17 = .ok (.iload_n 3, 1) := by decide +kernel
theorem dX5_firstLonger_18 : decode cX5_firstLonger 18 = .ok (.iconst 1, 1) := by decide +kernel
theorem dX5_firstLonger_19 : decode cX5_firstLonger 19 = .ok (.isub, 1) := by decide +kernel
theorem dX5_firstLonger_20 : decode cX5_firstLonger 20 = .ok (.iload_n 2, 1) := by decide +kernel
theorem dX5_firstLonger_21 : decode cX5_firstLonger 21 = .ok (.invokevirtual 53, 3) := by decide +kernel
theorem dX5_firstLonger_24 : decode cX5_firstLonger 24 = .ok (.if_icmp .le 5, 3) := by decide +kernel
theorem dX5_firstLonger_27 : decode cX5_firstLonger 27 = .ok (.iload_n 3, 1) := by decide +kernel
theorem dX5_firstLonger_28 : decode cX5_firstLonger 28 = .ok (.ireturn, 1) := by decide +kernel
theorem dX5_firstLonger_29 : decode cX5_firstLonger 29 = .ok (.iinc 3 1, 3) := by decide +kernel
theorem dX5_firstLonger_32 : decode cX5_firstLonger 32 = .ok (.goto (-30), 3) := by decide +kernel
theorem dX5_firstLonger_35 : decode cX5_firstLonger 35 = .ok (.bipush (-4), 2) := by decide +kernel
theorem dX5_firstLonger_37 : decode cX5_firstLonger 37 = .ok (.ireturn, 1) := by decide +kernel
theorem dX6_init_0 : decode cX6_init 0 = .ok (.aload_n 0, 1) := by decide +kernel
theorem dX6_init_1 : decode cX6_init 1 = .ok (.invokespecial 3, 3) := by decide +kernel
theorem dX6_init_4 : decode cX6_init 4 = .ok (.aload_n 0, 1) := by decide +kernel
theorem dX6_init_5 : decode cX6_init 5 = .ok (.bipush 96, 2) := by decide +kernel
theorem dX6_init_7 : decode cX6_init 7 = .ok (.newarray .int, 2) := by decide +kernel
theorem dX6_init_9 : decode cX6_init 9 = .ok (.putfield 9, 3) := by decide +kernel
theorem dX6_init_12 : decode cX6_init 12 = .ok (.aload_n 0, 1) := by decide +kernel
theorem dX6_init_13 : decode cX6_init 13 = .ok (.bipush 12, 2) := by decide +kernel
theorem dX6_init_15 : decode cX6_init 15 = .ok (.anewarray 15, 3) := by decide +kernel
theorem dX6_init_18 : decode cX6_init 18 = .ok (.putfield 17, 3) := by decide +kernel
theorem dX6_init_21 : decode cX6_init 21 = .ok (.aload_n 0, 1) := by decide +kernel
theorem dX6_init_22 : decode cX6_init 22 = .ok (.iconst 0, 1) := by decide +kernel
theorem dX6_init_23 : decode cX6_init 23 = .ok (.putfield 21, 3) := by decide +kernel
theorem dX6_init_26 : decode cX6_init 26 = .ok (.aload_n 0, 1) := by decide +kernel
theorem dX6_init_27 : decode cX6_init 27 = .ok (.iconst 0, 1) := by decide +kernel
theorem dX6_init_28 : decode cX6_init 28 = .ok (.putfield 25, 3) := by decide +kernel
theorem dX6_init_31 : decode cX6_init 31 = .ok (.aload_n 0, 1) := by decide +kernel
theorem dX6_init_32 : decode cX6_init 32 = .ok (.iconst 0, 1) := by decide +kernel
theorem dX6_init_33 : decode cX6_init 33 = .ok (.putfield 28, 3) := by decide +kernel
theorem dX6_init_36 : decode cX6_init 36 = .ok (.aload_n 0, 1) := by decide +kernel
theorem dX6_init_37 : decode cX6_init 37 = .ok (.iconst 0, 1) := by decide +kernel
theorem dX6_init_38 : decode cX6_init 38 = .ok (.putfield 31, 3) := by decide +kernel
theorem dX6_init_41 : decode cX6_init 41 = .ok (.aload_n 0, 1) := by decide +kernel
theorem dX6_init_42 : decode cX6_init 42 = .ok (.iconst 0, 1) := by decide +kernel
theorem dX6_init_43 : decode cX6_init 43 = .ok (.putfield 34, 3) := by decide +kernel
theorem dX6_init_46 : decode cX6_init 46 = .ok (.aload_n 0, 1) := by decide +kernel
theorem dX6_init_47 : decode cX6_init 47 = .ok (.iconst 0, 1) := by decide +kernel
theorem dX6_init_48 : decode cX6_init 48 = .ok (.putfield 38, 3) := by decide +kernel
theorem dX6_init_51 : decode cX6_init 51 = .ok (.aload_n 0, 1) := by decide +kernel
theorem dX6_init_52 : decode cX6_init 52 = .ok (.iconst 0, 1) := by decide +kernel
theorem dX6_init_53 : decode cX6_init 53 = .ok (.putfield 41, 3) := by decide +kernel
theorem dX6_init_56 : decode cX6_init 56 = .ok (.aload_n 0, 1) := by decide +kernel
theorem dX6_init_57 : decode cX6_init 57 = .ok (.iconst 0, 1) := by decide +kernel
theorem dX6_init_58 : decode cX6_init 58 = .ok (.putfield 44, 3) := by decide +kernel
theorem dX6_init_61 : decode cX6_init 61 = .ok (.aload_n 0, 1) := by decide +kernel
theorem dX6_init_62 : decode cX6_init 62 = .ok (.iconst 0, 1) := by decide +kernel
theorem dX6_init_63 : decode cX6_init 63 = .ok (.putfield 47, 3) := by decide +kernel
theorem dX6_init_66 : decode cX6_init 66 = .ok (.aload_n 0, 1) := by decide +kernel
theorem dX6_init_67 : decode cX6_init 67 = .ok (.getfield 9, 3) := by decide +kernel
theorem dX6_init_70 : decode cX6_init 70 = .ok (.iconst 4, 1) := by decide +kernel
theorem dX6_init_71 : decode cX6_init 71 = .ok (.invokestatic 50, 3) := by decide +kernel
theorem dX6_init_74 : decode cX6_init 74 = .ok (.iconst 0, 1) := by decide +kernel
theorem dX6_init_75 : decode cX6_init 75 = .ok (.istore_n 1, 1) := by decide +kernel
theorem dX6_init_76 : decode cX6_init 76 = .ok (.iload_n 1, 1) := by decide +kernel
theorem dX6_init_77 : decode cX6_init 77 = .ok (.bipush 12, 2) := by decide +kernel
theorem dX6_init_79 : decode cX6_init 79 = .ok (.if_icmp .ge 22, 3) := by decide +kernel
theorem dX6_init_82 : decode cX6_init 82 = .ok (.aload_n 0, 1) := by decide +kernel
theorem dX6_init_83 : decode cX6_init 83 = .ok (.getfield 17, 3) := by decide +kernel
theorem dX6_init_86 : decode cX6_init 86 = .ok (.iload_n 1, 1) := by decide +kernel
theorem dX6_init_87 : decode cX6_init 87 = .ok (.new 15, 3) := by decide +kernel
theorem dX6_init_90 : decode cX6_init 90 = .ok (.dup, 1) := by decide +kernel
theorem dX6_init_91 : decode cX6_init 91 = .ok (.invokespecial 56, 3) := by decide +kernel
theorem dX6_init_94 : decode cX6_init 94 = .ok (.aastore, 1) := by decide +kernel
theorem dX6_init_95 : decode cX6_init 95 = .ok (.iinc 1 1, 3) := by decide +kernel
theorem dX6_init_98 : decode cX6_init 98 = .ok (.goto (-22), 3) := by decide +kernel
theorem dX6_init_101 : decode cX6_init 101 = .ok (.return_, 1) := by decide +kernel
theorem dX6_takeAll_0 : decode cX6_takeAll 0 = .ok (.aload_n 1, 1) := by decide +kernel
theorem dX6_takeAll_1 : decode cX6_takeAll 1 = .ok (.getfield 9, 3) := by decide +kernel
theorem dX6_takeAll_4 : decode cX6_takeAll 4 = .ok (.iconst 0, 1) := by decide +kernel
theorem dX6_takeAll_5 : decode cX6_takeAll 5 = .ok (.aload_n 0, 1) := by decide +kernel
theorem dX6_takeAll_6 : decode cX6_takeAll 6 = .ok (.getfield 9, 3) := by decide +kernel
theorem dX6_takeAll_9 : decode cX6_takeAll 9 = .ok (.iconst 0, 1) := by decide +kernel
theorem dX6_takeAll_10 : decode cX6_takeAll 10 = .ok (.bipush 96, 2) := by decide +kernel
theorem dX6_takeAll_12 : decode cX6_takeAll 12 = .ok (.invokestatic 57, 3) := by decide +kernel
theorem dX6_takeAll_15 : decode cX6_takeAll 15 = .ok (.iconst 0, 1) := by decide +kernel
theorem dX6_takeAll_16 : decode cX6_takeAll 16 = .ok (.istore_n 2, 1) := by decide +kernel
theorem dX6_takeAll_17 : decode cX6_takeAll 17 = .ok (.iload_n 2, 1) := by decide +kernel
theorem dX6_takeAll_18 : decode cX6_takeAll 18 = .ok (.bipush 12, 2) := by decide +kernel
theorem dX6_takeAll_20 : decode cX6_takeAll 20 = .ok (.if_icmp .ge 24, 3) := by decide +kernel
theorem dX6_takeAll_23 : decode cX6_takeAll 23 = .ok (.aload_n 0, 1) := by decide +kernel
theorem dX6_takeAll_24 : decode cX6_takeAll 24 = .ok (.getfield 17, 3) := by decide +kernel
theorem dX6_takeAll_27 : decode cX6_takeAll 27 = .ok (.iload_n 2, 1) := by decide +kernel
theorem dX6_takeAll_28 : decode cX6_takeAll 28 = .ok (.aaload, 1) := by decide +kernel
theorem dX6_takeAll_29 : decode cX6_takeAll 29 = .ok (.aload_n 1, 1) := by decide +kernel
theorem dX6_takeAll_30 : decode cX6_takeAll 30 = .ok (.getfield 17, 3) := by decide +kernel
theorem dX6_takeAll_33 : decode cX6_takeAll 33 = .ok (.iload_n 2, 1) := by decide +kernel
theorem dX6_takeAll_34 : decode cX6_takeAll 34 = .ok (.aaload, 1) := by decide +kernel
theorem dX6_takeAll_35 : decode cX6_takeAll 35 = .ok (.invokevirtual 63, 3) := by decide +kernel
theorem dX6_takeAll_38 : decode cX6_takeAll 38 = .ok (.iinc 2 1, 3) := by decide +kernel
theorem dX6_takeAll_41 : decode cX6_takeAll 41 = .ok (.goto (-24), 3) := by decide +kernel
theorem dX6_takeAll_44 : decode cX6_takeAll 44 = .ok (.aload_n 0, 1) := by decide +kernel
theorem dX6_takeAll_45 : decode cX6_takeAll 45 = .ok (.aload_n 1, 1) := by decide +kernel
theorem dX6_takeAll_46 : decode cX6_takeAll 46 = .ok (.getfield 21, 3) := by decide +kernel
theorem dX6_takeAll_49 : decode cX6_takeAll 49 = .ok (.putfield 21, 3) := by decide +kernel
theorem dX6_takeAll_52 : decode cX6_takeAll 52 = .ok (.aload_n 0, 1) := by decide +kernel
theorem dX6_takeAll_53 : decode cX6_takeAll 53 = .ok (.aload_n 1, 1) := by decide +kernel
theorem dX6_takeAll_54 : decode cX6_takeAll 54 = .ok (.getfield 25, 3) := by decide +kernel
theorem dX6_takeAll_57 : decode cX6_takeAll 57 = .ok (.putfield 25, 3) := by decide +kernel
theorem dX6_takeAll_60 : decode cX6_takeAll 60 = .ok (.aload_n 0, 1) := by decide +kernel
theorem dX6_takeAll_61 : decode cX6_takeAll 61 = .ok (.aload_n 1, 1) := by decide +kernel
theorem dX6_takeAll_62 : decode cX6_takeAll 62 = .ok (.getfield 28, 3) := by decide +kernel
theorem dX6_takeAll_65 : decode cX6_takeAll 65 = .ok (.putfield 28, 3) := by decide +kernel
theorem dX6_takeAll_68 : decode cX6_takeAll 68 = .ok (.aload_n 0, 1) := by decide +kernel
theorem dX6_takeAll_69 : decode cX6_takeAll 69 = .ok (.aload_n 1, 1) := by decide +kernel
theorem dX6_takeAll_70 : decode cX6_takeAll 70 = .ok (.getfield 31, 3) := by decide +kernel
theorem dX6_takeAll_73 : decode cX6_takeAll 73 = .ok (.putfield 31, 3) := by decide +kernel
theorem dX6_takeAll_76 : decode cX6_takeAll 76 = .ok (.aload_n 0, 1) := by decide +kernel
theorem dX6_takeAll_77 : decode cX6_takeAll 77 = .ok (.aload_n 1, 1) := by decide +kernel
theorem dX6_takeAll_78 : decode cX6_takeAll 78 = .ok (.getfield 34, 3) := by decide +kernel
theorem dX6_takeAll_81 : decode cX6_takeAll 81 = .ok (.putfield 34, 3) := by decide +kernel
theorem dX6_takeAll_84 : decode cX6_takeAll 84 = .ok (.aload_n 0, 1) := by decide +kernel
theorem dX6_takeAll_85 : decode cX6_takeAll 85 = .ok (.aload_n 1, 1) := by decide +kernel
theorem dX6_takeAll_86 : decode cX6_takeAll 86 = .ok (.getfield 38, 3) := by decide +kernel
theorem dX6_takeAll_89 : decode cX6_takeAll 89 = .ok (.putfield 38, 3) := by decide +kernel
theorem dX6_takeAll_92 : decode cX6_takeAll 92 = .ok (.aload_n 0, 1) := by decide +kernel
theorem dX6_takeAll_93 : decode cX6_takeAll 93 = .ok (.aload_n 1, 1) := by decide +kernel
theorem dX6_takeAll_94 : decode cX6_takeAll 94 = .ok (.getfield 41, 3) := by decide +kernel
theorem dX6_takeAll_97 : decode cX6_takeAll 97 = .ok (.putfield 41, 3) := by decide +kernel
theorem dX6_takeAll_100 : decode cX6_takeAll 100 = .ok (.aload_n 0, 1) := by decide +kernel
theorem dX6_takeAll_101 : decode cX6_takeAll 101 = .ok (.aload_n 1, 1) := by decide +kernel
theorem dX6_takeAll_102 : decode cX6_takeAll 102 = .ok (.getfield 44, 3) := by decide +kernel
theorem dX6_takeAll_105 : decode cX6_takeAll 105 = .ok (.putfield 44, 3) := by decide +kernel
theorem dX6_takeAll_108 : decode cX6_takeAll 108 = .ok (.aload_n 0, 1) := by decide +kernel
theorem dX6_takeAll_109 : decode cX6_takeAll 109 = .ok (.aload_n 1, 1) := by decide +kernel
theorem dX6_takeAll_110 : decode cX6_takeAll 110 = .ok (.getfield 47, 3) := by decide +kernel
theorem dX6_takeAll_113 : decode cX6_takeAll 113 = .ok (.putfield 47, 3) := by decide +kernel
theorem dX6_takeAll_116 : decode cX6_takeAll 116 = .ok (.return_, 1) := by decide +kernel
theorem dX6_beginAnew_0 : decode cX6_beginAnew 0 = .ok (.aload_n 1, 1) := by decide +kernel
theorem dX6_beginAnew_1 : decode cX6_beginAnew 1 = .ok (.iconst 0, 1) := by decide +kernel
theorem dX6_beginAnew_2 : decode cX6_beginAnew 2 = .ok (.aload_n 0, 1) := by decide +kernel
theorem dX6_beginAnew_3 : decode cX6_beginAnew 3 = .ok (.getfield 9, 3) := by decide +kernel
theorem dX6_beginAnew_6 : decode cX6_beginAnew 6 = .ok (.iconst 0, 1) := by decide +kernel
theorem dX6_beginAnew_7 : decode cX6_beginAnew 7 = .ok (.bipush 96, 2) := by decide +kernel
theorem dX6_beginAnew_9 : decode cX6_beginAnew 9 = .ok (.aload_n 1, 1) := by decide +kernel
theorem dX6_beginAnew_10 : decode cX6_beginAnew 10 = .ok (.arraylength, 1) := by decide +kernel
theorem dX6_beginAnew_11 : decode cX6_beginAnew 11 = .ok (.invokestatic 67, 3) := by decide +kernel
theorem dX6_beginAnew_14 : decode cX6_beginAnew 14 = .ok (.invokestatic 57, 3) := by decide +kernel
theorem dX6_beginAnew_17 : decode cX6_beginAnew 17 = .ok (.aload_n 0, 1) := by decide +kernel
theorem dX6_beginAnew_18 : decode cX6_beginAnew 18 = .ok (.iconst 0, 1) := by decide +kernel
theorem dX6_beginAnew_19 : decode cX6_beginAnew 19 = .ok (.putfield 25, 3) := by decide +kernel
theorem dX6_beginAnew_22 : decode cX6_beginAnew 22 = .ok (.aload_n 0, 1) := by decide +kernel
theorem dX6_beginAnew_23 : decode cX6_beginAnew 23 = .ok (.iconst 0, 1) := by decide +kernel
theorem dX6_beginAnew_24 : decode cX6_beginAnew 24 = .ok (.putfield 34, 3) := by decide +kernel
theorem dX6_beginAnew_27 : decode cX6_beginAnew 27 = .ok (.aload_n 0, 1) := by decide +kernel
theorem dX6_beginAnew_28 : decode cX6_beginAnew 28 = .ok (.invokevirtual 73, 3) := by decide +kernel
theorem dX6_beginAnew_31 : decode cX6_beginAnew 31 = .ok (.return_, 1) := by decide +kernel
theorem dX6_beginAlone_0 : decode cX6_beginAlone 0 = .ok (.aload_n 1, 1) := by decide +kernel
theorem dX6_beginAlone_1 : decode cX6_beginAlone 1 = .ok (.getfield 9, 3) := by decide +kernel
theorem dX6_beginAlone_4 : decode cX6_beginAlone 4 = .ok (.iconst 0, 1) := by decide +kernel
theorem dX6_beginAlone_5 : decode cX6_beginAlone 5 = .ok (.aload_n 0, 1) := by decide +kernel
theorem dX6_beginAlone_6 : decode cX6_beginAlone 6 = .ok (.getfield 9, 3) := by decide +kernel
theorem dX6_beginAlone_9 : decode cX6_beginAlone 9 = .ok (.iconst 0, 1) := by decide +kernel
theorem dX6_beginAlone_10 : decode cX6_beginAlone 10 = .ok (.bipush 96, 2) := by decide +kernel
theorem dX6_beginAlone_12 : decode cX6_beginAlone 12 = .ok (.invokestatic 57, 3) := by decide +kernel
theorem dX6_beginAlone_15 : decode cX6_beginAlone 15 = .ok (.aload_n 0, 1) := by decide +kernel
theorem dX6_beginAlone_16 : decode cX6_beginAlone 16 = .ok (.aload_n 1, 1) := by decide +kernel
theorem dX6_beginAlone_17 : decode cX6_beginAlone 17 = .ok (.getfield 25, 3) := by decide +kernel
theorem dX6_beginAlone_20 : decode cX6_beginAlone 20 = .ok (.putfield 25, 3) := by decide +kernel
theorem dX6_beginAlone_23 : decode cX6_beginAlone 23 = .ok (.aload_n 0, 1) := by decide +kernel
theorem dX6_beginAlone_24 : decode cX6_beginAlone 24 = .ok (.aload_n 1, 1) := by decide +kernel
theorem dX6_beginAlone_25 : decode cX6_beginAlone 25 = .ok (.getfield 34, 3) := by decide +kernel
theorem dX6_beginAlone_28 : decode cX6_beginAlone 28 = .ok (.putfield 34, 3) := by decide +kernel
theorem dX6_beginAlone_31 : decode cX6_beginAlone 31 = .ok (.aload_n 0, 1) := by decide +kernel
theorem dX6_beginAlone_32 : decode cX6_beginAlone 32 = .ok (.invokevirtual 73, 3) := by decide +kernel
theorem dX6_beginAlone_35 : decode cX6_beginAlone 35 = .ok (.aload_n 0, 1) := by decide +kernel
theorem dX6_beginAlone_36 : decode cX6_beginAlone 36 = .ok (.iload_n 2, 1) := by decide +kernel
theorem dX6_beginAlone_37 : decode cX6_beginAlone 37 = .ok (.iload_n 3, 1) := by decide +kernel
theorem dX6_beginAlone_38 : decode cX6_beginAlone 38 = .ok (.iload 4, 2) := by decide +kernel
theorem dX6_beginAlone_40 : decode cX6_beginAlone 40 = .ok (.invokevirtual 76, 3) := by decide +kernel
theorem dX6_beginAlone_43 : decode cX6_beginAlone 43 = .ok (.pop, 1) := by decide +kernel
theorem dX6_beginAlone_44 : decode cX6_beginAlone 44 = .ok (.return_, 1) := by decide +kernel
theorem dX6_clearDrops_0 : decode cX6_clearDrops 0 = .ok (.aload_n 0, 1) := by decide +kernel
theorem dX6_clearDrops_1 : decode cX6_clearDrops 1 = .ok (.iconst 0, 1) := by decide +kernel
theorem dX6_clearDrops_2 : decode cX6_clearDrops 2 = .ok (.putfield 21, 3) := by decide +kernel
theorem dX6_clearDrops_5 : decode cX6_clearDrops 5 = .ok (.aload_n 0, 1) := by decide +kernel
theorem dX6_clearDrops_6 : decode cX6_clearDrops 6 = .ok (.iconst 0, 1) := by decide +kernel
theorem dX6_clearDrops_7 : decode cX6_clearDrops 7 = .ok (.putfield 28, 3) := by decide +kernel
theorem dX6_clearDrops_10 : decode cX6_clearDrops 10 = .ok (.aload_n 0, 1) := by decide +kernel
theorem dX6_clearDrops_11 : decode cX6_clearDrops 11 = .ok (.iconst 0, 1) := by decide +kernel
theorem dX6_clearDrops_12 : decode cX6_clearDrops 12 = .ok (.putfield 38, 3) := by decide +kernel
theorem dX6_clearDrops_15 : decode cX6_clearDrops 15 = .ok (.aload_n 0, 1) := by decide +kernel
theorem dX6_clearDrops_16 : decode cX6_clearDrops 16 = .ok (.iconst 0, 1) := by decide +kernel
theorem dX6_clearDrops_17 : decode cX6_clearDrops 17 = .ok (.putfield 41, 3) := by decide +kernel
theorem dX6_clearDrops_20 : decode cX6_clearDrops 20 = .ok (.aload_n 0, 1) := by decide +kernel
theorem dX6_clearDrops_21 : decode cX6_clearDrops 21 = .ok (.iconst 0, 1) := by decide +kernel
theorem dX6_clearDrops_22 : decode cX6_clearDrops 22 = .ok (.putfield 44, 3) := by decide +kernel
theorem dX6_clearDrops_25 : decode cX6_clearDrops 25 = .ok (.aload_n 0, 1) := by decide +kernel
theorem dX6_clearDrops_26 : decode cX6_clearDrops 26 = .ok (.iconst 0, 1) := by decide +kernel
theorem dX6_clearDrops_27 : decode cX6_clearDrops 27 = .ok (.putfield 47, 3) := by decide +kernel
theorem dX6_clearDrops_30 : decode cX6_clearDrops 30 = .ok (.return_, 1) := by decide +kernel
theorem dX6_addDrop_0 : decode cX6_addDrop 0 = .ok (.aload_n 0, 1) := by decide +kernel
theorem dX6_addDrop_1 : decode cX6_addDrop 1 = .ok (.getfield 21, 3) := by decide +kernel
theorem dX6_addDrop_4 : decode cX6_addDrop 4 = .ok (.bipush 12, 2) := by decide +kernel
theorem dX6_addDrop_6 : decode cX6_addDrop 6 = .ok (.if_icmp .lt 6, 3) := by decide +kernel
theorem dX6_addDrop_9 : decode cX6_addDrop 9 = .ok (.bipush (-3), 2) := by decide +kernel
theorem dX6_addDrop_11 : decode cX6_addDrop 11 = .ok (.ireturn, 1) := by decide +kernel
theorem dX6_addDrop_12 : decode cX6_addDrop 12 = .ok (.aload_n 0, 1) := by decide +kernel
theorem dX6_addDrop_13 : decode cX6_addDrop 13 = .ok (.getfield 17, 3) := by decide +kernel
theorem dX6_addDrop_16 : decode cX6_addDrop 16 = .ok (.aload_n 0, 1) := by decide +kernel
theorem dX6_addDrop_17 : decode cX6_addDrop 17 = .ok (.getfield 21, 3) := by decide +kernel
theorem dX6_addDrop_20 : decode cX6_addDrop 20 = .ok (.aaload, 1) := by decide +kernel
theorem dX6_addDrop_21 : decode cX6_addDrop 21 = .ok (.iload_n 1, 1) := by decide +kernel
theorem dX6_addDrop_22 : decode cX6_addDrop 22 = .ok (.iload_n 2, 1) := by decide +kernel
theorem dX6_addDrop_23 : decode cX6_addDrop 23 = .ok (.iload_n 3, 1) := by decide +kernel
theorem dX6_addDrop_24 : decode cX6_addDrop 24 = .ok (.invokevirtual 80, 3) := by decide +kernel
theorem dX6_addDrop_27 : decode cX6_addDrop 27 = .ok (.aload_n 0, 1) := by decide +kernel
theorem dX6_addDrop_28 : decode cX6_addDrop 28 = .ok (.dup, 1) := by decide +kernel
theorem dX6_addDrop_29 : decode cX6_addDrop 29 = .ok (.getfield 47, 3) := by decide +kernel
theorem dX6_addDrop_32 : decode cX6_addDrop 32 = .ok (.iload_n 2, 1) := by decide +kernel
theorem dX6_addDrop_33 : decode cX6_addDrop 33 = .ok (.iadd, 1) := by decide +kernel
theorem dX6_addDrop_34 : decode cX6_addDrop 34 = .ok (.putfield 47, 3) := by decide +kernel
theorem dX6_addDrop_37 : decode cX6_addDrop 37 = .ok (.aload_n 0, 1) := by decide +kernel
theorem dX6_addDrop_38 : decode cX6_addDrop 38 = .ok (.dup, 1) := by decide +kernel
theorem dX6_addDrop_39 : decode cX6_addDrop 39 = .ok (.getfield 21, 3) := by decide +kernel
theorem dX6_addDrop_42 : decode cX6_addDrop 42 = .ok (.iconst 1, 1) := by decide +kernel
theorem dX6_addDrop_43 : decode cX6_addDrop 43 = .ok (.iadd, 1) := by decide +kernel
theorem dX6_addDrop_44 : decode cX6_addDrop 44 = .ok (.putfield 21, 3) := by decide +kernel
theorem dX6_addDrop_47 : decode cX6_addDrop 47 = .ok (.aload_n 0, 1) := by decide +kernel
theorem dX6_addDrop_48 : decode cX6_addDrop 48 = .ok (.getfield 21, 3) := by decide +kernel
theorem dX6_addDrop_51 : decode cX6_addDrop 51 = .ok (.iconst 1, 1) := by decide +kernel
theorem dX6_addDrop_52 : decode cX6_addDrop 52 = .ok (.isub, 1) := by decide +kernel
theorem dX6_addDrop_53 : decode cX6_addDrop 53 = .ok (.ireturn, 1) := by decide +kernel
theorem dX6_kindAt_0 : decode cX6_kindAt 0 = .ok (.iload_n 1, 1) := by decide +kernel
theorem dX6_kindAt_1 : decode cX6_kindAt 1 = .ok (.ifCond .lt 18, 3) := by decide +kernel
theorem dX6_kindAt_4 : decode cX6_kindAt 4 = .ok (.iload_n 1, 1) := by decide +kernel
theorem dX6_kindAt_5 : decode cX6_kindAt 5 = .ok (.bipush 96, 2) := by decide +kernel
theorem dX6_kindAt_7 : decode cX6_kindAt 7 = .ok (.if_icmp .ge 12, 3) := by decide +kernel
theorem dX6_kindAt_10 : decode cX6_kindAt 10 = .ok (.aload_n 0, 1) := by decide +kernel
theorem dX6_kindAt_11 : decode cX6_kindAt 11 = .ok (.getfield 9, 3) := by decide +kernel
theorem dX6_kindAt_14 : decode cX6_kindAt 14 = .ok (.iload_n 1, 1) := by decide +kernel
theorem dX6_kindAt_15 : decode cX6_kindAt 15 = .ok (.iaload, 1) := by decide +kernel
theorem dX6_kindAt_16 : decode cX6_kindAt 16 = .ok (.goto 4, 3) := by decide +kernel
theorem dX6_kindAt_19 : decode cX6_kindAt 19 = .ok (.iconst 5, 1) := by decide +kernel
theorem dX6_kindAt_20 : decode cX6_kindAt 20 = .ok (.ireturn, 1) := by decide +kernel
theorem dX6_isOpen_0 : decode cX6_isOpen 0 = .ok (.aload_n 0, 1) := by decide +kernel
theorem dX6_isOpen_1 : decode cX6_isOpen 1 = .ok (.iload_n 1, 1) := by decide +kernel
theorem dX6_isOpen_2 : decode cX6_isOpen 2 = .ok (.invokevirtual 84, 3) := by decide +kernel
theorem dX6_isOpen_5 : decode cX6_isOpen 5 = .ok (.istore_n 2, 1) := by decide +kernel
theorem dX6_isOpen_6 : decode cX6_isOpen 6 = .ok (.iload_n 2, 1) := by decide +kernel
theorem dX6_isOpen_7 : decode cX6_isOpen 7 = .ok (.iconst 5, 1) := by decide +kernel
theorem dX6_isOpen_8 : decode cX6_isOpen 8 = .ok (.if_icmp .eq 13, 3) := by decide +kernel
theorem dX6_isOpen_11 : decode cX6_isOpen 11 = .ok (.iload_n 2, 1) := by decide +kernel
theorem dX6_isOpen_12 : decode cX6_isOpen 12 = .ok (.bipush 6, 2) := by decide +kernel
theorem dX6_isOpen_14 : decode cX6_isOpen 14 = .ok (.if_icmp .eq 7, 3) := by decide +kernel
theorem dX6_isOpen_17 : decode cX6_isOpen 17 = .ok (.iconst 1, 1) := by decide +kernel
theorem dX6_isOpen_18 : decode cX6_isOpen 18 = .ok (.goto 4, 3) := by decide +kernel
theorem dX6_isOpen_21 : decode cX6_isOpen 21 = .ok (.iconst 0, 1) := by decide +kernel
theorem dX6_isOpen_22 : decode cX6_isOpen 22 = .ok (.ireturn, 1) := by decide +kernel
theorem dX6_isDrop_0 : decode cX6_isDrop 0 = .ok (.iload_n 1, 1) := by decide +kernel
theorem dX6_isDrop_1 : decode cX6_isDrop 1 = .ok (.ifCond .lt 15, 3) := by decide +kernel
theorem dX6_isDrop_4 : decode cX6_isDrop 4 = .ok (.iload_n 1, 1) := by decide +kernel
theorem dX6_isDrop_5 : decode cX6_isDrop 5 = .ok (.aload_n 0, 1) := by decide +kernel
theorem dX6_isDrop_6 : decode cX6_isDrop 6 = .ok (.getfield 21, 3) := by decide +kernel
theorem dX6_isDrop_9 : decode cX6_isDrop 9 = .ok (.if_icmp .ge 7, 3) := by decide +kernel
theorem dX6_isDrop_12 : decode cX6_isDrop 12 = .ok (.iconst 1, 1) := by decide +kernel
theorem dX6_isDrop_13 : decode cX6_isDrop 13 = .ok (.goto 4, 3) := by decide +kernel
theorem dX6_isDrop_16 : decode cX6_isDrop 16 = .ok (.iconst 0, 1) := by decide +kernel
theorem dX6_isDrop_17 : decode cX6_isDrop 17 = .ok (.ireturn, 1) := by decide +kernel
theorem dX6_dropAt_0 : decode cX6_dropAt 0 = .ok (.iconst 0, 1) := by decide +kernel
theorem dX6_dropAt_1 : decode cX6_dropAt 1 = .ok (.istore_n 2, 1) := by decide +kernel
theorem dX6_dropAt_2 : decode cX6_dropAt 2 = .ok (.iload_n 2, 1) := by decide +kernel
theorem dX6_dropAt_3 : decode cX6_dropAt 3 = .ok (.aload_n 0, 1) := by decide +kernel
theorem dX6_dropAt_4 : decode cX6_dropAt 4 = .ok (.getfield 21, 3) := by decide +kernel
theorem dX6_dropAt_7 : decode cX6_dropAt 7 = .ok (.if_icmp .ge 36, 3) := by decide +kernel
theorem dX6_dropAt_10 : decode cX6_dropAt 10 = .ok (.aload_n 0, 1) := by decide +kernel
theorem dX6_dropAt_11 : decode cX6_dropAt 11 = .ok (.getfield 17, 3) := by decide +kernel
theorem dX6_dropAt_14 : decode cX6_dropAt 14 = .ok (.iload_n 2, 1) := by decide +kernel
theorem dX6_dropAt_15 : decode cX6_dropAt 15 = .ok (.aaload, 1) := by decide +kernel
theorem dX6_dropAt_16 : decode cX6_dropAt 16 = .ok (.getfield 88, 3) := by decide +kernel
theorem dX6_dropAt_19 : decode cX6_dropAt 19 = .ok (.ifCond .ne 18, 3) := by decide +kernel
theorem dX6_dropAt_22 : decode cX6_dropAt 22 = .ok (.aload_n 0, 1) := by decide +kernel
theorem dX6_dropAt_23 : decode cX6_dropAt 23 = .ok (.getfield 17, 3) := by decide +kernel
theorem dX6_dropAt_26 : decode cX6_dropAt 26 = .ok (.iload_n 2, 1) := by decide +kernel
theorem dX6_dropAt_27 : decode cX6_dropAt 27 = .ok (.aaload, 1) := by decide +kernel
theorem dX6_dropAt_28 : decode cX6_dropAt 28 = .ok (.getfield 91, 3) := by decide +kernel
theorem dX6_dropAt_31 : decode cX6_dropAt 31 = .ok (.iload_n 1, 1) := by decide +kernel
theorem dX6_dropAt_32 : decode cX6_dropAt 32 = .ok (.if_icmp .ne 5, 3) := by decide +kernel
theorem dX6_dropAt_35 : decode cX6_dropAt 35 = .ok (.iload_n 2, 1) := by decide +kernel
theorem dX6_dropAt_36 : decode cX6_dropAt 36 = .ok (.ireturn, 1) := by decide +kernel
theorem dX6_dropAt_37 : decode cX6_dropAt 37 = .ok (.iinc 2 1, 3) := by decide +kernel
theorem dX6_dropAt_40 : decode cX6_dropAt 40 = .ok (.goto (-38), 3) := by decide +kernel
theorem dX6_dropAt_43 : decode cX6_dropAt 43 = .ok (.bipush (-4), 2) := by decide +kernel
theorem dX6_dropAt_45 : decode cX6_dropAt 45 = .ok (.ireturn, 1) := by decide +kernel
theorem dX6_howManyThere_0 : decode cX6_howManyThere 0 = .ok (.iconst 0, 1) := by decide +kernel
theorem dX6_howManyThere_1 : decode cX6_howManyThere 1 = .ok (.istore_n 1, 1) := by decide +kernel
theorem dX6_howManyThere_2 : decode cX6_howManyThere 2 = .ok (.iconst 0, 1) := by decide +kernel
theorem dX6_howManyThere_3 : decode cX6_howManyThere 3 = .ok (.istore_n 2, 1) := by decide +kernel
theorem dX6_howManyThere_4 : decode cX6_howManyThere 4 = .ok (.iload_n 2, 1) := by decide +kernel
theorem dX6_howManyThere_5 : decode cX6_howManyThere 5 = .ok (.aload_n 0, 1) := by decide +kernel
theorem dX6_howManyThere_6 : decode cX6_howManyThere 6 = .ok (.getfield 21, 3) := by decide +kernel
theorem dX6_howManyThere_9 : decode cX6_howManyThere 9 = .ok (.if_icmp .ge 29, 3) := by decide +kernel
theorem dX6_howManyThere_12 : decode cX6_howManyThere 12 = .ok (.iload_n 1, 1) := by decide +kernel
theorem dX6_howManyThere_13 : decode cX6_howManyThere 13 = .ok (.aload_n 0, 1) := by decide +kernel
theorem dX6_howManyThere_14 : decode cX6_howManyThere 14 = .ok (.getfield 17, 3) := by decide +kernel
theorem dX6_howManyThere_17 : decode cX6_howManyThere 17 = .ok (.iload_n 2, 1) := by decide +kernel
theorem dX6_howManyThere_18 : decode cX6_howManyThere 18 = .ok (.aaload, 1) := by decide +kernel
theorem dX6_howManyThere_19 : decode cX6_howManyThere 19 = .ok (.getfield 88, 3) := by decide +kernel
theorem dX6_howManyThere_22 : decode cX6_howManyThere 22 = .ok (.ifCond .ne 7, 3) := by decide +kernel
theorem dX6_howManyThere_25 : decode cX6_howManyThere 25 = .ok (.iconst 1, 1) := by decide +kernel
theorem dX6_howManyThere_26 : decode cX6_howManyThere 26 = .ok (.goto 4, 3) := by decide +kernel
theorem dX6_howManyThere_29 : decode cX6_howManyThere 29 = .ok (.iconst 0, 1) := by decide +kernel
theorem dX6_howManyThere_30 : decode cX6_howManyThere 30 = .ok (.iadd, 1) := by decide +kernel
theorem dX6_howManyThere_31 : decode cX6_howManyThere 31 = .ok (.istore_n 1, 1) := by decide +kernel
theorem dX6_howManyThere_32 : decode cX6_howManyThere 32 = .ok (.iinc 2 1, 3) := by decide +kernel
theorem dX6_howManyThere_35 : decode cX6_howManyThere 35 = .ok (.goto (-31), 3) := by decide +kernel
theorem dX6_howManyThere_38 : decode cX6_howManyThere 38 = .ok (.iload_n 1, 1) := by decide +kernel
theorem dX6_howManyThere_39 : decode cX6_howManyThere 39 = .ok (.ireturn, 1) := by decide +kernel
theorem dX6_sizesThere_0 : decode cX6_sizesThere 0 = .ok (.iconst 0, 1) := by decide +kernel
theorem dX6_sizesThere_1 : decode cX6_sizesThere 1 = .ok (.istore_n 1, 1) := by decide +kernel
theorem dX6_sizesThere_2 : decode cX6_sizesThere 2 = .ok (.iconst 0, 1) := by decide +kernel
theorem dX6_sizesThere_3 : decode cX6_sizesThere 3 = .ok (.istore_n 2, 1) := by decide +kernel
theorem dX6_sizesThere_4 : decode cX6_sizesThere 4 = .ok (.iload_n 2, 1) := by decide +kernel
theorem dX6_sizesThere_5 : decode cX6_sizesThere 5 = .ok (.aload_n 0, 1) := by decide +kernel
theorem dX6_sizesThere_6 : decode cX6_sizesThere 6 = .ok (.getfield 21, 3) := by decide +kernel
theorem dX6_sizesThere_9 : decode cX6_sizesThere 9 = .ok (.if_icmp .ge 37, 3) := by decide +kernel
theorem dX6_sizesThere_12 : decode cX6_sizesThere 12 = .ok (.iload_n 1, 1) := by decide +kernel
theorem dX6_sizesThere_13 : decode cX6_sizesThere 13 = .ok (.aload_n 0, 1) := by decide +kernel
theorem dX6_sizesThere_14 : decode cX6_sizesThere 14 = .ok (.getfield 17, 3) := by decide +kernel
theorem dX6_sizesThere_17 : decode cX6_sizesThere 17 = .ok (.iload_n 2, 1) := by decide +kernel
theorem dX6_sizesThere_18 : decode cX6_sizesThere 18 = .ok (.aaload, 1) := by decide +kernel
theorem dX6_sizesThere_19 : decode cX6_sizesThere 19 = .ok (.getfield 88, 3) := by decide +kernel
theorem dX6_sizesThere_22 : decode cX6_sizesThere 22 = .ok (.ifCond .ne 15, 3) := by decide +kernel
theorem dX6_sizesThere_25 : decode cX6_sizesThere 25 = .ok (.aload_n 0, 1) := by decide +kernel
theorem dX6_sizesThere_26 : decode cX6_sizesThere 26 = .ok (.getfield 17, 3) := by decide +kernel
theorem dX6_sizesThere_29 : decode cX6_sizesThere 29 = .ok (.iload_n 2, 1) := by decide +kernel
theorem dX6_sizesThere_30 : decode cX6_sizesThere 30 = .ok (.aaload, 1) := by decide +kernel
theorem dX6_sizesThere_31 : decode cX6_sizesThere 31 = .ok (.getfield 94, 3) := by decide +kernel
theorem dX6_sizesThere_34 : decode cX6_sizesThere 34 = .ok (.goto 4, 3) := by decide +kernel
theorem dX6_sizesThere_37 : decode cX6_sizesThere 37 = .ok (.iconst 0, 1) := by decide +kernel
theorem dX6_sizesThere_38 : decode cX6_sizesThere 38 = .ok (.iadd, 1) := by decide +kernel
theorem dX6_sizesThere_39 : decode cX6_sizesThere 39 = .ok (.istore_n 1, 1) := by decide +kernel
theorem dX6_sizesThere_40 : decode cX6_sizesThere 40 = .ok (.iinc 2 1, 3) := by decide +kernel
theorem dX6_sizesThere_43 : decode cX6_sizesThere 43 = .ok (.goto (-39), 3) := by decide +kernel
theorem dX6_sizesThere_46 : decode cX6_sizesThere 46 = .ok (.iload_n 1, 1) := by decide +kernel
theorem dX6_sizesThere_47 : decode cX6_sizesThere 47 = .ok (.ireturn, 1) := by decide +kernel
theorem dX6_howManyHoles_0 : decode cX6_howManyHoles 0 = .ok (.iconst 0, 1) := by decide +kernel
theorem dX6_howManyHoles_1 : decode cX6_howManyHoles 1 = .ok (.istore_n 1, 1) := by decide +kernel
theorem dX6_howManyHoles_2 : decode cX6_howManyHoles 2 = .ok (.iconst 0, 1) := by decide +kernel
theorem dX6_howManyHoles_3 : decode cX6_howManyHoles 3 = .ok (.istore_n 2, 1) := by decide +kernel
theorem dX6_howManyHoles_4 : decode cX6_howManyHoles 4 = .ok (.iload_n 2, 1) := by decide +kernel
theorem dX6_howManyHoles_5 : decode cX6_howManyHoles 5 = .ok (.bipush 96, 2) := by decide +kernel
theorem dX6_howManyHoles_7 : decode cX6_howManyHoles 7 = .ok (.if_icmp .ge 28, 3) := by decide +kernel
theorem dX6_howManyHoles_10 : decode cX6_howManyHoles 10 = .ok (.iload_n 1, 1) := by decide +kernel
theorem dX6_howManyHoles_11 : decode cX6_howManyHoles 11 = .ok (.aload_n 0, 1) := by decide +kernel
theorem dX6_howManyHoles_12 : decode cX6_howManyHoles 12 = .ok (.getfield 9, 3) := by decide +kernel
theorem dX6_howManyHoles_15 : decode cX6_howManyHoles 15 = .ok (.iload_n 2, 1) := by decide +kernel
theorem dX6_howManyHoles_16 : decode cX6_howManyHoles 16 = .ok (.iaload, 1) := by decide +kernel
theorem dX6_howManyHoles_17 : decode cX6_howManyHoles 17 = .ok (.bipush 6, 2) := by decide +kernel
theorem dX6_howManyHoles_19 : decode cX6_howManyHoles 19 = .ok (.if_icmp .ne 7, 3) := by decide +kernel
theorem dX6_howManyHoles_22 : decode cX6_howManyHoles 22 = .ok (.iconst 1, 1) := by decide +kernel
theorem dX6_howManyHoles_23 : decode cX6_howManyHoles 23 = .ok (.goto 4, 3) := by decide +kernel
theorem dX6_howManyHoles_26 : decode cX6_howManyHoles 26 = .ok (.iconst 0, 1) := by decide +kernel
theorem dX6_howManyHoles_27 : decode cX6_howManyHoles 27 = .ok (.iadd, 1) := by decide +kernel
theorem dX6_howManyHoles_28 : decode cX6_howManyHoles 28 = .ok (.istore_n 1, 1) := by decide +kernel
theorem dX6_howManyHoles_29 : decode cX6_howManyHoles 29 = .ok (.iinc 2 1, 3) := by decide +kernel
theorem dX6_howManyHoles_32 : decode cX6_howManyHoles 32 = .ok (.goto (-28), 3) := by decide +kernel
theorem dX6_howManyHoles_35 : decode cX6_howManyHoles 35 = .ok (.iload_n 1, 1) := by decide +kernel
theorem dX6_howManyHoles_36 : decode cX6_howManyHoles 36 = .ok (.ireturn, 1) := by decide +kernel
theorem dX6_touches_0 : decode cX6_touches 0 = .ok (.aload_n 0, 1) := by decide +kernel
theorem dX6_touches_1 : decode cX6_touches 1 = .ok (.getfield 34, 3) := by decide +kernel
theorem dX6_touches_4 : decode cX6_touches 4 = .ok (.ifCond .eq 16, 3) := by decide +kernel
theorem dX6_touches_7 : decode cX6_touches 7 = .ok (.aload_n 0, 1) := by decide +kernel
theorem dX6_touches_8 : decode cX6_touches 8 = .ok (.aload_n 1, 1) := by decide +kernel
theorem dX6_touches_9 : decode cX6_touches 9 = .ok (.getfield 91, 3) := by decide +kernel
theorem dX6_touches_12 : decode cX6_touches 12 = .ok (.invokevirtual 84, 3) := by decide +kernel
theorem dX6_touches_15 : decode cX6_touches 15 = .ok (.bipush 7, 2) := by decide +kernel
theorem dX6_touches_17 : decode cX6_touches 17 = .ok (.if_icmp .ne 7, 3) := by decide +kernel
theorem dX6_touches_20 : decode cX6_touches 20 = .ok (.iconst 1, 1) := by decide +kernel
theorem dX6_touches_21 : decode cX6_touches 21 = .ok (.goto 4, 3) := by decide +kernel
theorem dX6_touches_24 : decode cX6_touches 24 = .ok (.iconst 0, 1) := by decide +kernel
theorem dX6_touches_25 : decode cX6_touches 25 = .ok (.ireturn, 1) := by decide +kernel
theorem dX6_passTick_0 : decode cX6_passTick 0 = .ok (.iconst 0, 1) := by decide +kernel
theorem dX6_passTick_1 : decode cX6_passTick 1 = .ok (.istore_n 3, 1) := by decide +kernel
theorem dX6_passTick_2 : decode cX6_passTick 2 = .ok (.iload_n 3, 1) := by decide +kernel
theorem dX6_passTick_3 : decode cX6_passTick 3 = .ok (.aload_n 0, 1) := by decide +kernel
theorem dX6_passTick_4 : decode cX6_passTick 4 = .ok (.getfield 21, 3) := by decide +kernel
theorem dX6_passTick_7 : decode cX6_passTick 7 = .ok (.if_icmp .ge 59, 3) := by decide +kernel
theorem dX6_passTick_10 : decode cX6_passTick 10 = .ok (.aload_n 0, 1) := by decide +kernel
theorem dX6_passTick_11 : decode cX6_passTick 11 = .ok (.getfield 17, 3) := by decide +kernel
theorem dX6_passTick_14 : decode cX6_passTick 14 = .ok (.iload_n 3, 1) := by decide +kernel
theorem dX6_passTick_15 : decode cX6_passTick 15 = .ok (.aaload, 1) := by decide +kernel
theorem dX6_passTick_16 : decode cX6_passTick 16 = .ok (.astore 4, 2) := by decide +kernel
theorem dX6_passTick_18 : decode cX6_passTick 18 = .ok (.aload 4, 2) := by decide +kernel
theorem dX6_passTick_20 : decode cX6_passTick 20 = .ok (.getfield 88, 3) := by decide +kernel
theorem dX6_passTick_23 : decode cX6_passTick 23 = .ok (.ifCond .ne 37, 3) := by decide +kernel
theorem dX6_passTick_26 : decode cX6_passTick 26 = .ok (.aload_n 0, 1) := by decide +kernel
theorem dX6_passTick_27 : decode cX6_passTick 27 = .ok (.aload 4, 2) := by decide +kernel
theorem dX6_passTick_29 : decode cX6_passTick 29 = .ok (.invokevirtual 97, 3) := by decide +kernel
theorem dX6_passTick_32 : decode cX6_passTick 32 = .ok (.ifCond .eq 20, 3) := by decide +kernel
theorem dX6_passTick_35 : decode cX6_passTick 35 = .ok (.aload_n 0, 1) := by decide +kernel
theorem dX6_passTick_36 : decode cX6_passTick 36 = .ok (.aload 4, 2) := by decide +kernel
theorem dX6_passTick_38 : decode cX6_passTick 38 = .ok (.aload_n 1, 1) := by decide +kernel
theorem dX6_passTick_39 : decode cX6_passTick 39 = .ok (.aload_n 0, 1) := by decide +kernel
theorem dX6_passTick_40 : decode cX6_passTick 40 = .ok (.getfield 25, 3) := by decide +kernel
theorem dX6_passTick_43 : decode cX6_passTick 43 = .ok (.invokevirtual 101, 3) := by decide +kernel
theorem dX6_passTick_46 : decode cX6_passTick 46 = .ok (.invokevirtual 106, 3) := by decide +kernel
theorem dX6_passTick_49 : decode cX6_passTick 49 = .ok (.goto 11, 3) := by decide +kernel
theorem dX6_passTick_52 : decode cX6_passTick 52 = .ok (.aload_n 0, 1) := by decide +kernel
theorem dX6_passTick_53 : decode cX6_passTick 53 = .ok (.aload 4, 2) := by decide +kernel
theorem dX6_passTick_55 : decode cX6_passTick 55 = .ok (.aload_n 1, 1) := by decide +kernel
theorem dX6_passTick_56 : decode cX6_passTick 56 = .ok (.iload_n 2, 1) := by decide +kernel
theorem dX6_passTick_57 : decode cX6_passTick 57 = .ok (.invokevirtual 110, 3) := by decide +kernel
theorem dX6_passTick_60 : decode cX6_passTick 60 = .ok (.iinc 3 1, 3) := by decide +kernel
theorem dX6_passTick_63 : decode cX6_passTick 63 = .ok (.goto (-61), 3) := by decide +kernel
theorem dX6_passTick_66 : decode cX6_passTick 66 = .ok (.aload_n 0, 1) := by decide +kernel
theorem dX6_passTick_67 : decode cX6_passTick 67 = .ok (.dup, 1) := by decide +kernel
theorem dX6_passTick_68 : decode cX6_passTick 68 = .ok (.getfield 28, 3) := by decide +kernel
theorem dX6_passTick_71 : decode cX6_passTick 71 = .ok (.iconst 1, 1) := by decide +kernel
theorem dX6_passTick_72 : decode cX6_passTick 72 = .ok (.iadd, 1) := by decide +kernel
theorem dX6_passTick_73 : decode cX6_passTick 73 = .ok (.putfield 28, 3) := by decide +kernel
theorem dX6_passTick_76 : decode cX6_passTick 76 = .ok (.return_, 1) := by decide +kernel
theorem dX6_loseSteam_0 : decode cX6_loseSteam 0 = .ok (.iload_n 2, 1) := by decide +kernel
theorem dX6_loseSteam_1 : decode cX6_loseSteam 1 = .ok (.aload_n 1, 1) := by decide +kernel
theorem dX6_loseSteam_2 : decode cX6_loseSteam 2 = .ok (.getfield 94, 3) := by decide +kernel
theorem dX6_loseSteam_5 : decode cX6_loseSteam 5 = .ok (.invokestatic 67, 3) := by decide +kernel
theorem dX6_loseSteam_8 : decode cX6_loseSteam 8 = .ok (.istore_n 3, 1) := by decide +kernel
theorem dX6_loseSteam_9 : decode cX6_loseSteam 9 = .ok (.aload_n 1, 1) := by decide +kernel
theorem dX6_loseSteam_10 : decode cX6_loseSteam 10 = .ok (.dup, 1) := by decide +kernel
theorem dX6_loseSteam_11 : decode cX6_loseSteam 11 = .ok (.getfield 94, 3) := by decide +kernel
theorem dX6_loseSteam_14 : decode cX6_loseSteam 14 = .ok (.iload_n 3, 1) := by decide +kernel
theorem dX6_loseSteam_15 : decode cX6_loseSteam 15 = .ok (.isub, 1) := by decide +kernel
theorem dX6_loseSteam_16 : decode cX6_loseSteam 16 = .ok (.putfield 94, 3) := by decide +kernel
theorem dX6_loseSteam_19 : decode cX6_loseSteam 19 = .ok (.aload_n 0, 1) := by decide +kernel
theorem dX6_loseSteam_20 : decode cX6_loseSteam 20 = .ok (.dup, 1) := by decide +kernel
theorem dX6_loseSteam_21 : decode cX6_loseSteam 21 = .ok (.getfield 38, 3) := by decide +kernel
theorem dX6_loseSteam_24 : decode cX6_loseSteam 24 = .ok (.iload_n 3, 1) := by decide +kernel
theorem dX6_loseSteam_25 : decode cX6_loseSteam 25 = .ok (.iadd, 1) := by decide +kernel
theorem dX6_loseSteam_26 : decode cX6_loseSteam 26 = .ok (.putfield 38, 3) := by decide +kernel
theorem dX6_loseSteam_29 : decode cX6_loseSteam 29 = .ok (.aload_n 1, 1) := by decide +kernel
theorem dX6_loseSteam_30 : decode cX6_loseSteam 30 = .ok (.getfield 94, 3) := by decide +kernel
theorem dX6_loseSteam_33 : decode cX6_loseSteam 33 = .ok (.ifCond .ne 9, 3) := by decide +kernel
theorem dX6_loseSteam_36 : decode cX6_loseSteam 36 = .ok (.aload_n 0, 1) := by decide +kernel
theorem dX6_loseSteam_37 : decode cX6_loseSteam 37 = .ok (.aload_n 1, 1) := by decide +kernel
theorem dX6_loseSteam_38 : decode cX6_loseSteam 38 = .ok (.iconst 1, 1) := by decide +kernel
theorem dX6_loseSteam_39 : decode cX6_loseSteam 39 = .ok (.invokevirtual 114, 3) := by decide +kernel
theorem dX6_loseSteam_42 : decode cX6_loseSteam 42 = .ok (.return_, 1) := by decide +kernel
theorem dX6_leave_0 : decode cX6_leave 0 = .ok (.aload_n 1, 1) := by decide +kernel
theorem dX6_leave_1 : decode cX6_leave 1 = .ok (.iload_n 2, 1) := by decide +kernel
theorem dX6_leave_2 : decode cX6_leave 2 = .ok (.putfield 88, 3) := by decide +kernel
theorem dX6_leave_5 : decode cX6_leave 5 = .ok (.aload_n 1, 1) := by decide +kernel
theorem dX6_leave_6 : decode cX6_leave 6 = .ok (.aload_n 0, 1) := by decide +kernel
theorem dX6_leave_7 : decode cX6_leave 7 = .ok (.getfield 28, 3) := by decide +kernel
theorem dX6_leave_10 : decode cX6_leave 10 = .ok (.putfield 117, 3) := by decide +kernel
theorem dX6_leave_13 : decode cX6_leave 13 = .ok (.return_, 1) := by decide +kernel
theorem dX6_floatOn_0 : decode cX6_floatOn 0 = .ok (.aload_n 2, 1) := by decide +kernel
theorem dX6_floatOn_1 : decode cX6_floatOn 1 = .ok (.aload_n 0, 1) := by decide +kernel
theorem dX6_floatOn_2 : decode cX6_floatOn 2 = .ok (.getfield 28, 3) := by decide +kernel
theorem dX6_floatOn_5 : decode cX6_floatOn 5 = .ok (.invokevirtual 120, 3) := by decide +kernel
theorem dX6_floatOn_8 : decode cX6_floatOn 8 = .ok (.ifCond .eq 16, 3) := by decide +kernel
theorem dX6_floatOn_11 : decode cX6_floatOn 11 = .ok (.aload_n 0, 1) := by decide +kernel
theorem dX6_floatOn_12 : decode cX6_floatOn 12 = .ok (.aload_n 1, 1) := by decide +kernel
theorem dX6_floatOn_13 : decode cX6_floatOn 13 = .ok (.aload_n 2, 1) := by decide +kernel
theorem dX6_floatOn_14 : decode cX6_floatOn 14 = .ok (.aload_n 1, 1) := by decide +kernel
theorem dX6_floatOn_15 : decode cX6_floatOn 15 = .ok (.getfield 94, 3) := by decide +kernel
theorem dX6_floatOn_18 : decode cX6_floatOn 18 = .ok (.invokevirtual 124, 3) := by decide +kernel
theorem dX6_floatOn_21 : decode cX6_floatOn 21 = .ok (.invokevirtual 106, 3) := by decide +kernel
theorem dX6_floatOn_24 : decode cX6_floatOn 24 = .ok (.aload_n 1, 1) := by decide +kernel
theorem dX6_floatOn_25 : decode cX6_floatOn 25 = .ok (.getfield 88, 3) := by decide +kernel
theorem dX6_floatOn_28 : decode cX6_floatOn 28 = .ok (.ifCond .eq 4, 3) := by decide +kernel
theorem dX6_floatOn_31 : decode cX6_floatOn 31 = .ok (.return_, 1) := by decide +kernel
theorem dX6_floatOn_32 : decode cX6_floatOn 32 = .ok (.aload_n 1, 1) := by decide +kernel
theorem dX6_floatOn_33 : decode cX6_floatOn 33 = .ok (.getfield 94, 3) := by decide +kernel
theorem dX6_floatOn_36 : decode cX6_floatOn 36 = .ok (.aload_n 2, 1) := by decide +kernel
theorem dX6_floatOn_37 : decode cX6_floatOn 37 = .ok (.iconst 4, 1) := by decide +kernel
theorem dX6_floatOn_38 : decode cX6_floatOn 38 = .ok (.invokevirtual 127, 3) := by decide +kernel
theorem dX6_floatOn_41 : decode cX6_floatOn 41 = .ok (.if_icmp .gt 23, 3) := by decide +kernel
theorem dX6_floatOn_44 : decode cX6_floatOn 44 = .ok (.aload_n 0, 1) := by decide +kernel
theorem dX6_floatOn_45 : decode cX6_floatOn 45 = .ok (.dup, 1) := by decide +kernel
theorem dX6_floatOn_46 : decode cX6_floatOn 46 = .ok (.getfield 44, 3) := by decide +kernel
theorem dX6_floatOn_49 : decode cX6_floatOn 49 = .ok (.aload_n 1, 1) := by decide +kernel
theorem dX6_floatOn_50 : decode cX6_floatOn 50 = .ok (.getfield 94, 3) := by decide +kernel
theorem dX6_floatOn_53 : decode cX6_floatOn 53 = .ok (.iadd, 1) := by decide +kernel
theorem dX6_floatOn_54 : decode cX6_floatOn 54 = .ok (.putfield 44, 3) := by decide +kernel
theorem dX6_floatOn_57 : decode cX6_floatOn 57 = .ok (.aload_n 0, 1) := by decide +kernel
theorem dX6_floatOn_58 : decode cX6_floatOn 58 = .ok (.aload_n 1, 1) := by decide +kernel
theorem dX6_floatOn_59 : decode cX6_floatOn 59 = .ok (.iconst 3, 1) := by decide +kernel
theorem dX6_floatOn_60 : decode cX6_floatOn 60 = .ok (.invokevirtual 114, 3) := by decide +kernel
theorem dX6_floatOn_63 : decode cX6_floatOn 63 = .ok (.return_, 1) := by decide +kernel
theorem dX6_floatOn_64 : decode cX6_floatOn 64 = .ok (.aload_n 0, 1) := by decide +kernel
theorem dX6_floatOn_65 : decode cX6_floatOn 65 = .ok (.aload_n 1, 1) := by decide +kernel
theorem dX6_floatOn_66 : decode cX6_floatOn 66 = .ok (.aload_n 0, 1) := by decide +kernel
theorem dX6_floatOn_67 : decode cX6_floatOn 67 = .ok (.aload_n 1, 1) := by decide +kernel
theorem dX6_floatOn_68 : decode cX6_floatOn 68 = .ok (.aload_n 2, 1) := by decide +kernel
theorem dX6_floatOn_69 : decode cX6_floatOn 69 = .ok (.iload_n 3, 1) := by decide +kernel
theorem dX6_floatOn_70 : decode cX6_floatOn 70 = .ok (.invokevirtual 130, 3) := by decide +kernel
theorem dX6_floatOn_73 : decode cX6_floatOn 73 = .ok (.invokevirtual 134, 3) := by decide +kernel
theorem dX6_floatOn_76 : decode cX6_floatOn 76 = .ok (.aload_n 0, 1) := by decide +kernel
theorem dX6_floatOn_77 : decode cX6_floatOn 77 = .ok (.aload_n 1, 1) := by decide +kernel
theorem dX6_floatOn_78 : decode cX6_floatOn 78 = .ok (.getfield 91, 3) := by decide +kernel
theorem dX6_floatOn_81 : decode cX6_floatOn 81 = .ok (.invokevirtual 84, 3) := by decide +kernel
theorem dX6_floatOn_84 : decode cX6_floatOn 84 = .ok (.bipush 6, 2) := by decide +kernel
theorem dX6_floatOn_86 : decode cX6_floatOn 86 = .ok (.if_icmp .ne 25, 3) := by decide +kernel
theorem dX6_floatOn_89 : decode cX6_floatOn 89 = .ok (.aload_n 0, 1) := by decide +kernel
theorem dX6_floatOn_90 : decode cX6_floatOn 90 = .ok (.dup, 1) := by decide +kernel
theorem dX6_floatOn_91 : decode cX6_floatOn 91 = .ok (.getfield 41, 3) := by decide +kernel
theorem dX6_floatOn_94 : decode cX6_floatOn 94 = .ok (.aload_n 1, 1) := by decide +kernel
theorem dX6_floatOn_95 : decode cX6_floatOn 95 = .ok (.getfield 94, 3) := by decide +kernel
theorem dX6_floatOn_98 : decode cX6_floatOn 98 = .ok (.iadd, 1) := by decide +kernel
theorem dX6_floatOn_99 : decode cX6_floatOn 99 = .ok (.putfield 41, 3) := by decide +kernel
theorem dX6_floatOn_102 : decode cX6_floatOn 102 = .ok (.aload_n 0, 1) := by decide +kernel
theorem dX6_floatOn_103 : decode cX6_floatOn 103 = .ok (.aload_n 1, 1) := by decide +kernel
theorem dX6_floatOn_104 : decode cX6_floatOn 104 = .ok (.iconst 2, 1) := by decide +kernel
theorem dX6_floatOn_105 : decode cX6_floatOn 105 = .ok (.invokevirtual 114, 3) := by decide +kernel
theorem dX6_floatOn_108 : decode cX6_floatOn 108 = .ok (.goto 8, 3) := by decide +kernel
theorem dX6_floatOn_111 : decode cX6_floatOn 111 = .ok (.aload_n 0, 1) := by decide +kernel
theorem dX6_floatOn_112 : decode cX6_floatOn 112 = .ok (.aload_n 1, 1) := by decide +kernel
theorem dX6_floatOn_113 : decode cX6_floatOn 113 = .ok (.invokevirtual 137, 3) := by decide +kernel
theorem dX6_floatOn_116 : decode cX6_floatOn 116 = .ok (.return_, 1) := by decide +kernel
theorem dX6_joinWhoIsThere_0 : decode cX6_joinWhoIsThere 0 = .ok (.iconst 0, 1) := by decide +kernel
theorem dX6_joinWhoIsThere_1 : decode cX6_joinWhoIsThere 1 = .ok (.istore_n 2, 1) := by decide +kernel
theorem dX6_joinWhoIsThere_2 : decode cX6_joinWhoIsThere 2 = .ok (.iload_n 2, 1) := by decide +kernel
theorem dX6_joinWhoIsThere_3 : decode cX6_joinWhoIsThere 3 = .ok (.aload_n 0, 1) := by decide +kernel
theorem dX6_joinWhoIsThere_4 : decode cX6_joinWhoIsThere 4 = .ok (.getfield 21, 3) := by decide +kernel
theorem dX6_joinWhoIsThere_7 : decode cX6_joinWhoIsThere 7 = .ok (.if_icmp .ge 64, 3) := by decide +kernel
theorem dX6_joinWhoIsThere_10 : decode cX6_joinWhoIsThere 10 = .ok (.aload_n 0, 1) := by decide +kernel
theorem dX6_joinWhoIsThere_11 : decode cX6_joinWhoIsThere 11 = .ok (.getfield 17, 3) := by decide +kernel
theorem dX6_joinWhoIsThere_14 : decode cX6_joinWhoIsThere 14 = .ok (.iload_n 2, 1) := by decide +kernel
theorem dX6_joinWhoIsThere_15 : decode cX6_joinWhoIsThere 15 = .ok (.aaload, 1) := by decide +kernel
theorem dX6_joinWhoIsThere_16 : decode cX6_joinWhoIsThere 16 = .ok (.astore_n 3, 1) := by decide +kernel
theorem dX6_joinWhoIsThere_17 : decode cX6_joinWhoIsThere 17 = .ok (.aload_n 3, 1) := by decide +kernel
theorem dX6_joinWhoIsThere_18 : decode cX6_joinWhoIsThere 18 = .ok (.aload_n 1, 1) := by decide +kernel
theorem dX6_joinWhoIsThere_19 : decode cX6_joinWhoIsThere 19 = .ok (.if_acmp .eq 46, 3) := by decide +kernel
theorem dX6_joinWhoIsThere_22 : decode cX6_joinWhoIsThere 22 = .ok (.aload_n 3, 1) := by decide +kernel
theorem dX6_joinWhoIsThere_23 : decode cX6_joinWhoIsThere 23 = .ok (.getfield 88, 3) := by decide +kernel
theorem dX6_joinWhoIsThere_26 : decode cX6_joinWhoIsThere 26 = .ok (.ifCond .ne 39, 3) := by decide +kernel
theorem dX6_joinWhoIsThere_29 : decode cX6_joinWhoIsThere 29 = .ok (.aload_n 3, 1) := by decide +kernel
theorem dX6_joinWhoIsThere_30 : decode cX6_joinWhoIsThere 30 = .ok (.getfield 91, 3) := by decide +kernel
theorem dX6_joinWhoIsThere_33 : decode cX6_joinWhoIsThere 33 = .ok (.aload_n 1, 1) := by decide +kernel
theorem dX6_joinWhoIsThere_34 : decode cX6_joinWhoIsThere 34 = .ok (.getfield 91, 3) := by decide +kernel
theorem dX6_joinWhoIsThere_37 : decode cX6_joinWhoIsThere 37 = .ok (.if_icmp .ne 28, 3) := by decide +kernel
theorem dX6_joinWhoIsThere_40 : decode cX6_joinWhoIsThere 40 = .ok (.aload_n 3, 1) := by decide +kernel
theorem dX6_joinWhoIsThere_41 : decode cX6_joinWhoIsThere 41 = .ok (.dup, 1) := by decide +kernel
theorem dX6_joinWhoIsThere_42 : decode cX6_joinWhoIsThere 42 = .ok (.getfield 94, 3) := by decide +kernel
theorem dX6_joinWhoIsThere_45 : decode cX6_joinWhoIsThere 45 = .ok (.aload_n 1, 1) := by decide +kernel
theorem dX6_joinWhoIsThere_46 : decode cX6_joinWhoIsThere 46 = .ok (.getfield 94, 3) := by decide +kernel
theorem dX6_joinWhoIsThere_49 : decode cX6_joinWhoIsThere 49 = .ok (.iadd, 1) := by decide +kernel
theorem dX6_joinWhoIsThere_50 : decode cX6_joinWhoIsThere 50 = .ok (.putfield 94, 3) := by decide +kernel
theorem dX6_joinWhoIsThere_53 : decode cX6_joinWhoIsThere 53 = .ok (.aload_n 1, 1) := by decide +kernel
theorem dX6_joinWhoIsThere_54 : decode cX6_joinWhoIsThere 54 = .ok (.iload_n 2, 1) := by decide +kernel
theorem dX6_joinWhoIsThere_55 : decode cX6_joinWhoIsThere 55 = .ok (.putfield 140, 3) := by decide +kernel
theorem dX6_joinWhoIsThere_58 : decode cX6_joinWhoIsThere 58 = .ok (.aload_n 0, 1) := by decide +kernel
theorem dX6_joinWhoIsThere_59 : decode cX6_joinWhoIsThere 59 = .ok (.aload_n 1, 1) := by decide +kernel
theorem dX6_joinWhoIsThere_60 : decode cX6_joinWhoIsThere 60 = .ok (.iconst 4, 1) := by decide +kernel
theorem dX6_joinWhoIsThere_61 : decode cX6_joinWhoIsThere 61 = .ok (.invokevirtual 114, 3) := by decide +kernel
theorem dX6_joinWhoIsThere_64 : decode cX6_joinWhoIsThere 64 = .ok (.return_, 1) := by decide +kernel
theorem dX6_joinWhoIsThere_65 : decode cX6_joinWhoIsThere 65 = .ok (.iinc 2 1, 3) := by decide +kernel
theorem dX6_joinWhoIsThere_68 : decode cX6_joinWhoIsThere 68 = .ok (.goto (-66), 3) := by decide +kernel
theorem dX6_joinWhoIsThere_71 : decode cX6_joinWhoIsThere 71 = .ok (.return_, 1) := by decide +kernel
theorem dX6_wayOf_0 : decode cX6_wayOf 0 = .ok (.aload_n 0, 1) := by decide +kernel
theorem dX6_wayOf_1 : decode cX6_wayOf 1 = .ok (.aload_n 1, 1) := by decide +kernel
theorem dX6_wayOf_2 : decode cX6_wayOf 2 = .ok (.getfield 91, 3) := by decide +kernel
theorem dX6_wayOf_5 : decode cX6_wayOf 5 = .ok (.invokevirtual 84, 3) := by decide +kernel
theorem dX6_wayOf_8 : decode cX6_wayOf 8 = .ok (.istore 4, 2) := by decide +kernel
theorem dX6_wayOf_10 : decode cX6_wayOf 10 = .ok (.iload 4, 2) := by decide +kernel
theorem dX6_wayOf_12 : decode cX6_wayOf 12 = .ok (.iconst 4, 1) := by decide +kernel
theorem dX6_wayOf_13 : decode cX6_wayOf 13 = .ok (.if_icmp .ge 24, 3) := by decide +kernel
theorem dX6_wayOf_16 : decode cX6_wayOf 16 = .ok (.aload_n 2, 1) := by decide +kernel
theorem dX6_wayOf_17 : decode cX6_wayOf 17 = .ok (.aload_n 1, 1) := by decide +kernel
theorem dX6_wayOf_18 : decode cX6_wayOf 18 = .ok (.getfield 94, 3) := by decide +kernel
theorem dX6_wayOf_21 : decode cX6_wayOf 21 = .ok (.invokevirtual 143, 3) := by decide +kernel
theorem dX6_wayOf_24 : decode cX6_wayOf 24 = .ok (.ifCond .eq 8, 3) := by decide +kernel
theorem dX6_wayOf_27 : decode cX6_wayOf 27 = .ok (.iload 4, 2) := by decide +kernel
theorem dX6_wayOf_29 : decode cX6_wayOf 29 = .ok (.goto 7, 3) := by decide +kernel
theorem dX6_wayOf_32 : decode cX6_wayOf 32 = .ok (.aload_n 1, 1) := by decide +kernel
theorem dX6_wayOf_33 : decode cX6_wayOf 33 = .ok (.getfield 146, 3) := by decide +kernel
theorem dX6_wayOf_36 : decode cX6_wayOf 36 = .ok (.ireturn, 1) := by decide +kernel
theorem dX6_wayOf_37 : decode cX6_wayOf 37 = .ok (.aload_n 1, 1) := by decide +kernel
theorem dX6_wayOf_38 : decode cX6_wayOf 38 = .ok (.getfield 94, 3) := by decide +kernel
theorem dX6_wayOf_41 : decode cX6_wayOf 41 = .ok (.iload_n 3, 1) := by decide +kernel
theorem dX6_wayOf_42 : decode cX6_wayOf 42 = .ok (.if_icmp .gt 10, 3) := by decide +kernel
theorem dX6_wayOf_45 : decode cX6_wayOf 45 = .ok (.aload_n 0, 1) := by decide +kernel
theorem dX6_wayOf_46 : decode cX6_wayOf 46 = .ok (.invokevirtual 149, 3) := by decide +kernel
theorem dX6_wayOf_49 : decode cX6_wayOf 49 = .ok (.goto 7, 3) := by decide +kernel
theorem dX6_wayOf_52 : decode cX6_wayOf 52 = .ok (.aload_n 1, 1) := by decide +kernel
theorem dX6_wayOf_53 : decode cX6_wayOf 53 = .ok (.getfield 146, 3) := by decide +kernel
theorem dX6_wayOf_56 : decode cX6_wayOf 56 = .ok (.ireturn, 1) := by decide +kernel
theorem dX6_drawWay_0 : decode cX6_drawWay 0 = .ok (.aload_n 0, 1) := by decide +kernel
theorem dX6_drawWay_1 : decode cX6_drawWay 1 = .ok (.aload_n 0, 1) := by decide +kernel
theorem dX6_drawWay_2 : decode cX6_drawWay 2 = .ok (.getfield 31, 3) := by decide +kernel
theorem dX6_drawWay_5 : decode cX6_drawWay 5 = .ok (.ldc 153, 2) := by decide +kernel
theorem dX6_drawWay_7 : decode cX6_drawWay 7 = .ok (.imul, 1) := by decide +kernel
theorem dX6_drawWay_8 : decode cX6_drawWay 8 = .ok (.sipush 12345, 3) := by decide +kernel
theorem dX6_drawWay_11 : decode cX6_drawWay 11 = .ok (.iadd, 1) := by decide +kernel
theorem dX6_drawWay_12 : decode cX6_drawWay 12 = .ok (.putfield 31, 3) := by decide +kernel
theorem dX6_drawWay_15 : decode cX6_drawWay 15 = .ok (.aload_n 0, 1) := by decide +kernel
theorem dX6_drawWay_16 : decode cX6_drawWay 16 = .ok (.getfield 31, 3) := by decide +kernel
theorem dX6_drawWay_19 : decode cX6_drawWay 19 = .ok (.bipush 16, 2) := by decide +kernel
theorem dX6_drawWay_21 : decode cX6_drawWay 21 = .ok (.iushr, 1) := by decide +kernel
theorem dX6_drawWay_22 : decode cX6_drawWay 22 = .ok (.iconst 3, 1) := by decide +kernel
theorem dX6_drawWay_23 : decode cX6_drawWay 23 = .ok (.iand, 1) := by decide +kernel
theorem dX6_drawWay_24 : decode cX6_drawWay 24 = .ok (.ireturn, 1) := by decide +kernel
theorem dX6_stepOn_0 : decode cX6_stepOn 0 = .ok (.aload_n 1, 1) := by decide +kernel
theorem dX6_stepOn_1 : decode cX6_stepOn 1 = .ok (.getfield 91, 3) := by decide +kernel
theorem dX6_stepOn_4 : decode cX6_stepOn 4 = .ok (.iload_n 2, 1) := by decide +kernel
theorem dX6_stepOn_5 : decode cX6_stepOn 5 = .ok (.invokestatic 154, 3) := by decide +kernel
theorem dX6_stepOn_8 : decode cX6_stepOn 8 = .ok (.istore_n 3, 1) := by decide +kernel
theorem dX6_stepOn_9 : decode cX6_stepOn 9 = .ok (.aload_n 0, 1) := by decide +kernel
theorem dX6_stepOn_10 : decode cX6_stepOn 10 = .ok (.iload_n 3, 1) := by decide +kernel
theorem dX6_stepOn_11 : decode cX6_stepOn 11 = .ok (.invokevirtual 84, 3) := by decide +kernel
theorem dX6_stepOn_14 : decode cX6_stepOn 14 = .ok (.iconst 5, 1) := by decide +kernel
theorem dX6_stepOn_15 : decode cX6_stepOn 15 = .ok (.if_icmp .ne 15, 3) := by decide +kernel
theorem dX6_stepOn_18 : decode cX6_stepOn 18 = .ok (.aload_n 1, 1) := by decide +kernel
theorem dX6_stepOn_19 : decode cX6_stepOn 19 = .ok (.iload_n 2, 1) := by decide +kernel
theorem dX6_stepOn_20 : decode cX6_stepOn 20 = .ok (.iconst 1, 1) := by decide +kernel
theorem dX6_stepOn_21 : decode cX6_stepOn 21 = .ok (.iadd, 1) := by decide +kernel
theorem dX6_stepOn_22 : decode cX6_stepOn 22 = .ok (.iconst 3, 1) := by decide +kernel
theorem dX6_stepOn_23 : decode cX6_stepOn 23 = .ok (.iand, 1) := by decide +kernel
theorem dX6_stepOn_24 : decode cX6_stepOn 24 = .ok (.putfield 146, 3) := by decide +kernel
theorem dX6_stepOn_27 : decode cX6_stepOn 27 = .ok (.goto 13, 3) := by decide +kernel
theorem dX6_stepOn_30 : decode cX6_stepOn 30 = .ok (.aload_n 1, 1) := by decide +kernel
theorem dX6_stepOn_31 : decode cX6_stepOn 31 = .ok (.iload_n 3, 1) := by decide +kernel
theorem dX6_stepOn_32 : decode cX6_stepOn 32 = .ok (.putfield 91, 3) := by decide +kernel
theorem dX6_stepOn_35 : decode cX6_stepOn 35 = .ok (.aload_n 1, 1) := by decide +kernel
theorem dX6_stepOn_36 : decode cX6_stepOn 36 = .ok (.iload_n 2, 1) := by decide +kernel
theorem dX6_stepOn_37 : decode cX6_stepOn 37 = .ok (.putfield 146, 3) := by decide +kernel
theorem dX6_stepOn_40 : decode cX6_stepOn 40 = .ok (.return_, 1) := by decide +kernel
theorem dX7_init_0 : decode cX7_init 0 = .ok (.aload_n 0, 1) := by decide +kernel
theorem dX7_init_1 : decode cX7_init 1 = .ok (.invokespecial 3, 3) := by decide +kernel
theorem dX7_init_4 : decode cX7_init 4 = .ok (.aload_n 0, 1) := by decide +kernel
theorem dX7_init_5 : decode cX7_init 5 = .ok (.bipush 40, 2) := by decide +kernel
theorem dX7_init_7 : decode cX7_init 7 = .ok (.newarray .int, 2) := by decide +kernel
theorem dX7_init_9 : decode cX7_init 9 = .ok (.putfield 9, 3) := by decide +kernel
theorem dX7_init_12 : decode cX7_init 12 = .ok (.aload_n 0, 1) := by decide +kernel
theorem dX7_init_13 : decode cX7_init 13 = .ok (.iconst (-1), 1) := by decide +kernel
theorem dX7_init_14 : decode cX7_init 14 = .ok (.putfield 15, 3) := by decide +kernel
theorem dX7_init_17 : decode cX7_init 17 = .ok (.aload_n 0, 1) := by decide +kernel
theorem dX7_init_18 : decode cX7_init 18 = .ok (.iconst 0, 1) := by decide +kernel
theorem dX7_init_19 : decode cX7_init 19 = .ok (.putfield 19, 3) := by decide +kernel
theorem dX7_init_22 : decode cX7_init 22 = .ok (.return_, 1) := by decide +kernel
theorem dX7_becomeNew_0 : decode cX7_becomeNew 0 = .ok (.aload_n 0, 1) := by decide +kernel
theorem dX7_becomeNew_1 : decode cX7_becomeNew 1 = .ok (.getfield 9, 3) := by decide +kernel
theorem dX7_becomeNew_4 : decode cX7_becomeNew 4 = .ok (.iconst 0, 1) := by decide +kernel
theorem dX7_becomeNew_5 : decode cX7_becomeNew 5 = .ok (.invokestatic 22, 3) := by decide +kernel
theorem dX7_becomeNew_8 : decode cX7_becomeNew 8 = .ok (.aload_n 0, 1) := by decide +kernel
theorem dX7_becomeNew_9 : decode cX7_becomeNew 9 = .ok (.iload_n 1, 1) := by decide +kernel
theorem dX7_becomeNew_10 : decode cX7_becomeNew 10 = .ok (.putfield 15, 3) := by decide +kernel
theorem dX7_becomeNew_13 : decode cX7_becomeNew 13 = .ok (.aload_n 0, 1) := by decide +kernel
theorem dX7_becomeNew_14 : decode cX7_becomeNew 14 = .ok (.iload_n 2, 1) := by decide +kernel
theorem dX7_becomeNew_15 : decode cX7_becomeNew 15 = .ok (.putfield 19, 3) := by decide +kernel
theorem dX7_becomeNew_18 : decode cX7_becomeNew 18 = .ok (.return_, 1) := by decide +kernel
theorem dX7_faultAt_0 : decode cX7_faultAt 0 = .ok (.aload_n 0, 1) := by decide +kernel
theorem dX7_faultAt_1 : decode cX7_faultAt 1 = .ok (.getfield 15, 3) := by decide +kernel
theorem dX7_faultAt_4 : decode cX7_faultAt 4 = .ok (.iconst (-1), 1) := by decide +kernel
theorem dX7_faultAt_5 : decode cX7_faultAt 5 = .ok (.if_icmp .ne 5, 3) := by decide +kernel
theorem dX7_faultAt_8 : decode cX7_faultAt 8 = .ok (.iconst 1, 1) := by decide +kernel
theorem dX7_faultAt_9 : decode cX7_faultAt 9 = .ok (.ireturn, 1) := by decide +kernel
theorem dX7_faultAt_10 : decode cX7_faultAt 10 = .ok (.iload_n 1, 1) := by decide +kernel
theorem dX7_faultAt_11 : decode cX7_faultAt 11 = .ok (.ifCond .lt 11, 3) := by decide +kernel
theorem dX7_faultAt_14 : decode cX7_faultAt 14 = .ok (.iload_n 1, 1) := by decide +kernel
theorem dX7_faultAt_15 : decode cX7_faultAt 15 = .ok (.aload_n 0, 1) := by decide +kernel
theorem dX7_faultAt_16 : decode cX7_faultAt 16 = .ok (.getfield 19, 3) := by decide +kernel
theorem dX7_faultAt_19 : decode cX7_faultAt 19 = .ok (.if_icmp .lt 7, 3) := by decide +kernel
theorem dX7_faultAt_22 : decode cX7_faultAt 22 = .ok (.iconst 2, 1) := by decide +kernel
theorem dX7_faultAt_23 : decode cX7_faultAt 23 = .ok (.goto 4, 3) := by decide +kernel
theorem dX7_faultAt_26 : decode cX7_faultAt 26 = .ok (.iconst 0, 1) := by decide +kernel
theorem dX7_faultAt_27 : decode cX7_faultAt 27 = .ok (.ireturn, 1) := by decide +kernel
theorem dX7_faultOfDrop_0 : decode cX7_faultOfDrop 0 = .ok (.aload_n 0, 1) := by decide +kernel
theorem dX7_faultOfDrop_1 : decode cX7_faultOfDrop 1 = .ok (.getfield 15, 3) := by decide +kernel
theorem dX7_faultOfDrop_4 : decode cX7_faultOfDrop 4 = .ok (.iconst (-1), 1) := by decide +kernel
theorem dX7_faultOfDrop_5 : decode cX7_faultOfDrop 5 = .ok (.if_icmp .eq 13, 3) := by decide +kernel
theorem dX7_faultOfDrop_8 : decode cX7_faultOfDrop 8 = .ok (.aload_n 0, 1) := by decide +kernel
theorem dX7_faultOfDrop_9 : decode cX7_faultOfDrop 9 = .ok (.getfield 15, 3) := by decide +kernel
theorem dX7_faultOfDrop_12 : decode cX7_faultOfDrop 12 = .ok (.iload_n 1, 1) := by decide +kernel
theorem dX7_faultOfDrop_13 : decode cX7_faultOfDrop 13 = .ok (.if_icmp .eq 5, 3) := by decide +kernel
theorem dX7_faultOfDrop_16 : decode cX7_faultOfDrop 16 = .ok (.iconst 3, 1) := by decide +kernel
theorem dX7_faultOfDrop_17 : decode cX7_faultOfDrop 17 = .ok (.ireturn, 1) := by decide +kernel
theorem dX7_faultOfDrop_18 : decode cX7_faultOfDrop 18 = .ok (.aload_n 0, 1) := by decide +kernel
theorem dX7_faultOfDrop_19 : decode cX7_faultOfDrop 19 = .ok (.iload_n 2, 1) := by decide +kernel
theorem dX7_faultOfDrop_20 : decode cX7_faultOfDrop 20 = .ok (.invokevirtual 28, 3) := by decide +kernel
theorem dX7_faultOfDrop_23 : decode cX7_faultOfDrop 23 = .ok (.istore 4, 2) := by decide +kernel
theorem dX7_faultOfDrop_25 : decode cX7_faultOfDrop 25 = .ok (.iload 4, 2) := by decide +kernel
theorem dX7_faultOfDrop_27 : decode cX7_faultOfDrop 27 = .ok (.ifCond .eq 8, 3) := by decide +kernel
theorem dX7_faultOfDrop_30 : decode cX7_faultOfDrop 30 = .ok (.iload 4, 2) := by decide +kernel
theorem dX7_faultOfDrop_32 : decode cX7_faultOfDrop 32 = .ok (.goto 14, 3) := by decide +kernel
theorem dX7_faultOfDrop_35 : decode cX7_faultOfDrop 35 = .ok (.aload_n 0, 1) := by decide +kernel
theorem dX7_faultOfDrop_36 : decode cX7_faultOfDrop 36 = .ok (.iload_n 2, 1) := by decide +kernel
theorem dX7_faultOfDrop_37 : decode cX7_faultOfDrop 37 = .ok (.iconst 3, 1) := by decide +kernel
theorem dX7_faultOfDrop_38 : decode cX7_faultOfDrop 38 = .ok (.iload_n 3, 1) := by decide +kernel
theorem dX7_faultOfDrop_39 : decode cX7_faultOfDrop 39 = .ok (.imul, 1) := by decide +kernel
theorem dX7_faultOfDrop_40 : decode cX7_faultOfDrop 40 = .ok (.iadd, 1) := by decide +kernel
theorem dX7_faultOfDrop_41 : decode cX7_faultOfDrop 41 = .ok (.iconst 2, 1) := by decide +kernel
theorem dX7_faultOfDrop_42 : decode cX7_faultOfDrop 42 = .ok (.iadd, 1) := by decide +kernel
theorem dX7_faultOfDrop_43 : decode cX7_faultOfDrop 43 = .ok (.invokevirtual 28, 3) := by decide +kernel
theorem dX7_faultOfDrop_46 : decode cX7_faultOfDrop 46 = .ok (.ireturn, 1) := by decide +kernel
theorem dX7_write_0 : decode cX7_write 0 = .ok (.aload_n 0, 1) := by decide +kernel
theorem dX7_write_1 : decode cX7_write 1 = .ok (.iload_n 1, 1) := by decide +kernel
theorem dX7_write_2 : decode cX7_write 2 = .ok (.invokevirtual 28, 3) := by decide +kernel
theorem dX7_write_5 : decode cX7_write 5 = .ok (.ifCond .ne 35, 3) := by decide +kernel
theorem dX7_write_8 : decode cX7_write 8 = .ok (.aload_n 0, 1) := by decide +kernel
theorem dX7_write_9 : decode cX7_write 9 = .ok (.getfield 9, 3) := by decide +kernel
theorem dX7_write_12 : decode cX7_write 12 = .ok (.iload_n 1, 1) := by decide +kernel
theorem dX7_write_13 : decode cX7_write 13 = .ok (.aload_n 0, 1) := by decide +kernel
theorem dX7_write_14 : decode cX7_write 14 = .ok (.getfield 15, 3) := by decide +kernel
theorem dX7_write_17 : decode cX7_write 17 = .ok (.ifCond .ne 8, 3) := by decide +kernel
theorem dX7_write_20 : decode cX7_write 20 = .ok (.iload_n 2, 1) := by decide +kernel
theorem dX7_write_21 : decode cX7_write 21 = .ok (.i2b, 1) := by decide +kernel
theorem dX7_write_22 : decode cX7_write 22 = .ok (.goto 17, 3) := by decide +kernel
theorem dX7_write_25 : decode cX7_write 25 = .ok (.aload_n 0, 1) := by decide +kernel
theorem dX7_write_26 : decode cX7_write 26 = .ok (.getfield 15, 3) := by decide +kernel
theorem dX7_write_29 : decode cX7_write 29 = .ok (.iconst 1, 1) := by decide +kernel
theorem dX7_write_30 : decode cX7_write 30 = .ok (.if_icmp .ne 8, 3) := by decide +kernel
theorem dX7_write_33 : decode cX7_write 33 = .ok (.iload_n 2, 1) := by decide +kernel
theorem dX7_write_34 : decode cX7_write 34 = .ok (.i2s, 1) := by decide +kernel
theorem dX7_write_35 : decode cX7_write 35 = .ok (.goto 4, 3) := by decide +kernel
theorem dX7_write_38 : decode cX7_write 38 = .ok (.iload_n 2, 1) := by decide +kernel
theorem dX7_write_39 : decode cX7_write 39 = .ok (.iastore, 1) := by decide +kernel
theorem dX7_write_40 : decode cX7_write 40 = .ok (.return_, 1) := by decide +kernel
theorem dX7_valueAt_0 : decode cX7_valueAt 0 = .ok (.aload_n 0, 1) := by decide +kernel
theorem dX7_valueAt_1 : decode cX7_valueAt 1 = .ok (.iload_n 1, 1) := by decide +kernel
theorem dX7_valueAt_2 : decode cX7_valueAt 2 = .ok (.invokevirtual 28, 3) := by decide +kernel
theorem dX7_valueAt_5 : decode cX7_valueAt 5 = .ok (.ifCond .ne 12, 3) := by decide +kernel
theorem dX7_valueAt_8 : decode cX7_valueAt 8 = .ok (.aload_n 0, 1) := by decide +kernel
theorem dX7_valueAt_9 : decode cX7_valueAt 9 = .ok (.getfield 9, 3) := by decide +kernel
theorem dX7_valueAt_12 : decode cX7_valueAt 12 = .ok (.iload_n 1, 1) := by decide +kernel
theorem dX7_valueAt_13 : decode cX7_valueAt 13 = .ok (.iaload, 1) := by decide +kernel
theorem dX7_valueAt_14 : decode cX7_valueAt 14 = .ok (.goto 4, 3) := by decide +kernel
theorem dX7_valueAt_17 : decode cX7_valueAt 17 = .ok (.iconst 0, 1) := by decide +kernel
theorem dX7_valueAt_18 : decode cX7_valueAt 18 = .ok (.ireturn, 1) := by decide +kernel
theorem dX8_init_0 : decode cX8_init 0 = .ok (.aload_n 0, 1) := by decide +kernel
theorem dX8_init_1 : decode cX8_init 1 = .ok (.invokespecial 3, 3) := by decide +kernel
theorem dX8_init_4 : decode cX8_init 4 = .ok (.aload_n 0, 1) := by decide +kernel
theorem dX8_init_5 : decode cX8_init 5 = .ok (.sipush 320, 3) := by decide +kernel
theorem dX8_init_8 : decode cX8_init 8 = .ok (.newarray .byte, 2) := by decide +kernel
theorem dX8_init_10 : decode cX8_init 10 = .ok (.putfield 9, 3) := by decide +kernel
theorem dX8_init_13 : decode cX8_init 13 = .ok (.aload_n 0, 1) := by decide +kernel
theorem dX8_init_14 : decode cX8_init 14 = .ok (.new 15, 3) := by decide +kernel
theorem dX8_init_17 : decode cX8_init 17 = .ok (.dup, 1) := by decide +kernel
theorem dX8_init_18 : decode cX8_init 18 = .ok (.invokespecial 17, 3) := by decide +kernel
theorem dX8_init_21 : decode cX8_init 21 = .ok (.putfield 18, 3) := by decide +kernel
theorem dX8_init_24 : decode cX8_init 24 = .ok (.aload_n 0, 1) := by decide +kernel
theorem dX8_init_25 : decode cX8_init 25 = .ok (.bipush 96, 2) := by decide +kernel
theorem dX8_init_27 : decode cX8_init 27 = .ok (.newarray .int, 2) := by decide +kernel
theorem dX8_init_29 : decode cX8_init 29 = .ok (.putfield 22, 3) := by decide +kernel
theorem dX8_init_32 : decode cX8_init 32 = .ok (.aload_n 0, 1) := by decide +kernel
theorem dX8_init_33 : decode cX8_init 33 = .ok (.bipush 9, 2) := by decide +kernel
theorem dX8_init_35 : decode cX8_init 35 = .ok (.newarray .boolean, 2) := by decide +kernel
theorem dX8_init_37 : decode cX8_init 37 = .ok (.putfield 26, 3) := by decide +kernel
theorem dX8_init_40 : decode cX8_init 40 = .ok (.aload_n 0, 1) := by decide +kernel
theorem dX8_init_41 : decode cX8_init 41 = .ok (.iconst 0, 1) := by decide +kernel
theorem dX8_init_42 : decode cX8_init 42 = .ok (.putfield 30, 3) := by decide +kernel
theorem dX8_init_45 : decode cX8_init 45 = .ok (.aload_n 0, 1) := by decide +kernel
theorem dX8_init_46 : decode cX8_init 46 = .ok (.iconst 0, 1) := by decide +kernel
theorem dX8_init_47 : decode cX8_init 47 = .ok (.putfield 34, 3) := by decide +kernel
theorem dX8_init_50 : decode cX8_init 50 = .ok (.aload_n 0, 1) := by decide +kernel
theorem dX8_init_51 : decode cX8_init 51 = .ok (.iconst 0, 1) := by decide +kernel
theorem dX8_init_52 : decode cX8_init 52 = .ok (.putfield 37, 3) := by decide +kernel
theorem dX8_init_55 : decode cX8_init 55 = .ok (.aload_n 0, 1) := by decide +kernel
theorem dX8_init_56 : decode cX8_init 56 = .ok (.iconst 0, 1) := by decide +kernel
theorem dX8_init_57 : decode cX8_init 57 = .ok (.putfield 40, 3) := by decide +kernel
theorem dX8_init_60 : decode cX8_init 60 = .ok (.aload_n 0, 1) := by decide +kernel
theorem dX8_init_61 : decode cX8_init 61 = .ok (.iconst 0, 1) := by decide +kernel
theorem dX8_init_62 : decode cX8_init 62 = .ok (.putfield 43, 3) := by decide +kernel
theorem dX8_init_65 : decode cX8_init 65 = .ok (.aload_n 0, 1) := by decide +kernel
theorem dX8_init_66 : decode cX8_init 66 = .ok (.iconst 0, 1) := by decide +kernel
theorem dX8_init_67 : decode cX8_init 67 = .ok (.putfield 46, 3) := by decide +kernel
theorem dX8_init_70 : decode cX8_init 70 = .ok (.aload_n 0, 1) := by decide +kernel
theorem dX8_init_71 : decode cX8_init 71 = .ok (.iconst 0, 1) := by decide +kernel
theorem dX8_init_72 : decode cX8_init 72 = .ok (.putfield 49, 3) := by decide +kernel
theorem dX8_init_75 : decode cX8_init 75 = .ok (.aload_n 0, 1) := by decide +kernel
theorem dX8_init_76 : decode cX8_init 76 = .ok (.iconst 0, 1) := by decide +kernel
theorem dX8_init_77 : decode cX8_init 77 = .ok (.putfield 52, 3) := by decide +kernel
theorem dX8_init_80 : decode cX8_init 80 = .ok (.return_, 1) := by decide +kernel
theorem dX8_readAll_0 : decode cX8_readAll 0 = .ok (.aload_n 0, 1) := by decide +kernel
theorem dX8_readAll_1 : decode cX8_readAll 1 = .ok (.iload_n 1, 1) := by decide +kernel
theorem dX8_readAll_2 : decode cX8_readAll 2 = .ok (.invokevirtual 55, 3) := by decide +kernel
theorem dX8_readAll_5 : decode cX8_readAll 5 = .ok (.iconst 0, 1) := by decide +kernel
theorem dX8_readAll_6 : decode cX8_readAll 6 = .ok (.istore_n 2, 1) := by decide +kernel
theorem dX8_readAll_7 : decode cX8_readAll 7 = .ok (.iload_n 2, 1) := by decide +kernel
theorem dX8_readAll_8 : decode cX8_readAll 8 = .ok (.aload_n 0, 1) := by decide +kernel
theorem dX8_readAll_9 : decode cX8_readAll 9 = .ok (.getfield 30, 3) := by decide +kernel
theorem dX8_readAll_12 : decode cX8_readAll 12 = .ok (.if_icmp .gt 76, 3) := by decide +kernel
theorem dX8_readAll_15 : decode cX8_readAll 15 = .ok (.aload_n 0, 1) := by decide +kernel
theorem dX8_readAll_16 : decode cX8_readAll 16 = .ok (.getfield 49, 3) := by decide +kernel
theorem dX8_readAll_19 : decode cX8_readAll 19 = .ok (.ifCond .ne 69, 3) := by decide +kernel
theorem dX8_readAll_22 : decode cX8_readAll 22 = .ok (.aload_n 0, 1) := by decide +kernel
theorem dX8_readAll_23 : decode cX8_readAll 23 = .ok (.invokevirtual 59, 3) := by decide +kernel
theorem dX8_readAll_26 : decode cX8_readAll 26 = .ok (.aload_n 0, 1) := by decide +kernel
theorem dX8_readAll_27 : decode cX8_readAll 27 = .ok (.getfield 49, 3) := by decide +kernel
theorem dX8_readAll_30 : decode cX8_readAll 30 = .ok (.ifCond .ne 58, 3) := by decide +kernel
theorem dX8_readAll_33 : decode cX8_readAll 33 = .ok (.aload_n 0, 1) := by decide +kernel
theorem dX8_readAll_34 : decode cX8_readAll 34 = .ok (.getfield 40, 3) := by decide +kernel
theorem dX8_readAll_37 : decode cX8_readAll 37 = .ok (.ifCond .ne 6, 3) := by decide +kernel
theorem dX8_readAll_40 : decode cX8_readAll 40 = .ok (.goto 48, 3) := by decide +kernel
theorem dX8_readAll_43 : decode cX8_readAll 43 = .ok (.aload_n 0, 1) := by decide +kernel
theorem dX8_readAll_44 : decode cX8_readAll 44 = .ok (.ldc 62, 2) := by decide +kernel
theorem dX8_readAll_46 : decode cX8_readAll 46 = .ok (.invokevirtual 64, 3) := by decide +kernel
theorem dX8_readAll_49 : decode cX8_readAll 49 = .ok (.ifCond .eq 10, 3) := by decide +kernel
theorem dX8_readAll_52 : decode cX8_readAll 52 = .ok (.aload_n 0, 1) := by decide +kernel
theorem dX8_readAll_53 : decode cX8_readAll 53 = .ok (.invokevirtual 68, 3) := by decide +kernel
theorem dX8_readAll_56 : decode cX8_readAll 56 = .ok (.goto 11, 3) := by decide +kernel
theorem dX8_readAll_59 : decode cX8_readAll 59 = .ok (.aload_n 0, 1) := by decide +kernel
theorem dX8_readAll_60 : decode cX8_readAll 60 = .ok (.aload_n 0, 1) := by decide +kernel
theorem dX8_readAll_61 : decode cX8_readAll 61 = .ok (.invokevirtual 71, 3) := by decide +kernel
theorem dX8_readAll_64 : decode cX8_readAll 64 = .ok (.invokevirtual 75, 3) := by decide +kernel
theorem dX8_readAll_67 : decode cX8_readAll 67 = .ok (.aload_n 0, 1) := by decide +kernel
theorem dX8_readAll_68 : decode cX8_readAll 68 = .ok (.iconst 3, 1) := by decide +kernel
theorem dX8_readAll_69 : decode cX8_readAll 69 = .ok (.invokevirtual 78, 3) := by decide +kernel
theorem dX8_readAll_72 : decode cX8_readAll 72 = .ok (.aload_n 0, 1) := by decide +kernel
theorem dX8_readAll_73 : decode cX8_readAll 73 = .ok (.dup, 1) := by decide +kernel
theorem dX8_readAll_74 : decode cX8_readAll 74 = .ok (.getfield 46, 3) := by decide +kernel
theorem dX8_readAll_77 : decode cX8_readAll 77 = .ok (.iconst 1, 1) := by decide +kernel
theorem dX8_readAll_78 : decode cX8_readAll 78 = .ok (.iadd, 1) := by decide +kernel
theorem dX8_readAll_79 : decode cX8_readAll 79 = .ok (.putfield 46, 3) := by decide +kernel
theorem dX8_readAll_82 : decode cX8_readAll 82 = .ok (.iinc 2 1, 3) := by decide +kernel
theorem dX8_readAll_85 : decode cX8_readAll 85 = .ok (.goto (-78), 3) := by decide +kernel
theorem dX8_readAll_88 : decode cX8_readAll 88 = .ok (.aload_n 0, 1) := by decide +kernel
theorem dX8_readAll_89 : decode cX8_readAll 89 = .ok (.getfield 18, 3) := by decide +kernel
theorem dX8_readAll_92 : decode cX8_readAll 92 = .ok (.iconst 1, 1) := by decide +kernel
theorem dX8_readAll_93 : decode cX8_readAll 93 = .ok (.invokevirtual 81, 3) := by decide +kernel
theorem dX8_readAll_96 : decode cX8_readAll 96 = .ok (.aload_n 0, 1) := by decide +kernel
theorem dX8_readAll_97 : decode cX8_readAll 97 = .ok (.getfield 18, 3) := by decide +kernel
theorem dX8_readAll_100 : decode cX8_readAll 100 = .ok (.iconst 0, 1) := by decide +kernel
theorem dX8_readAll_101 : decode cX8_readAll 101 = .ok (.invokevirtual 81, 3) := by decide +kernel
theorem dX8_readAll_104 : decode cX8_readAll 104 = .ok (.if_icmp .le 13, 3) := by decide +kernel
theorem dX8_readAll_107 : decode cX8_readAll 107 = .ok (.aload_n 0, 1) := by decide +kernel
theorem dX8_readAll_108 : decode cX8_readAll 108 = .ok (.bipush 6, 2) := by decide +kernel
theorem dX8_readAll_110 : decode cX8_readAll 110 = .ok (.aload_n 0, 1) := by decide +kernel
theorem dX8_readAll_111 : decode cX8_readAll 111 = .ok (.getfield 30, 3) := by decide +kernel
theorem dX8_readAll_114 : decode cX8_readAll 114 = .ok (.invokevirtual 85, 3) := by decide +kernel
theorem dX8_readAll_117 : decode cX8_readAll 117 = .ok (.return_, 1) := by decide +kernel
theorem dX8_beginAnew_0 : decode cX8_beginAnew 0 = .ok (.aload_n 0, 1) := by decide +kernel
theorem dX8_beginAnew_1 : decode cX8_beginAnew 1 = .ok (.iload_n 1, 1) := by decide +kernel
theorem dX8_beginAnew_2 : decode cX8_beginAnew 2 = .ok (.sipush 320, 3) := by decide +kernel
theorem dX8_beginAnew_5 : decode cX8_beginAnew 5 = .ok (.invokestatic 89, 3) := by decide +kernel
theorem dX8_beginAnew_8 : decode cX8_beginAnew 8 = .ok (.putfield 30, 3) := by decide +kernel
theorem dX8_beginAnew_11 : decode cX8_beginAnew 11 = .ok (.aload_n 0, 1) := by decide +kernel
theorem dX8_beginAnew_12 : decode cX8_beginAnew 12 = .ok (.iconst 0, 1) := by decide +kernel
theorem dX8_beginAnew_13 : decode cX8_beginAnew 13 = .ok (.putfield 34, 3) := by decide +kernel
theorem dX8_beginAnew_16 : decode cX8_beginAnew 16 = .ok (.aload_n 0, 1) := by decide +kernel
theorem dX8_beginAnew_17 : decode cX8_beginAnew 17 = .ok (.iconst 0, 1) := by decide +kernel
theorem dX8_beginAnew_18 : decode cX8_beginAnew 18 = .ok (.putfield 37, 3) := by decide +kernel
theorem dX8_beginAnew_21 : decode cX8_beginAnew 21 = .ok (.aload_n 0, 1) := by decide +kernel
theorem dX8_beginAnew_22 : decode cX8_beginAnew 22 = .ok (.iconst 0, 1) := by decide +kernel
theorem dX8_beginAnew_23 : decode cX8_beginAnew 23 = .ok (.putfield 46, 3) := by decide +kernel
theorem dX8_beginAnew_26 : decode cX8_beginAnew 26 = .ok (.aload_n 0, 1) := by decide +kernel
theorem dX8_beginAnew_27 : decode cX8_beginAnew 27 = .ok (.iconst 0, 1) := by decide +kernel
theorem dX8_beginAnew_28 : decode cX8_beginAnew 28 = .ok (.putfield 49, 3) := by decide +kernel
theorem dX8_beginAnew_31 : decode cX8_beginAnew 31 = .ok (.aload_n 0, 1) := by decide +kernel
theorem dX8_beginAnew_32 : decode cX8_beginAnew 32 = .ok (.iconst 0, 1) := by decide +kernel
theorem dX8_beginAnew_33 : decode cX8_beginAnew 33 = .ok (.putfield 52, 3) := by decide +kernel
theorem dX8_beginAnew_36 : decode cX8_beginAnew 36 = .ok (.aload_n 0, 1) := by decide +kernel
theorem dX8_beginAnew_37 : decode cX8_beginAnew 37 = .ok (.getfield 18, 3) := by decide +kernel
theorem dX8_beginAnew_40 : decode cX8_beginAnew 40 = .ok (.invokevirtual 95, 3) := by decide +kernel
theorem dX8_beginAnew_43 : decode cX8_beginAnew 43 = .ok (.aload_n 0, 1) := by decide +kernel
theorem dX8_beginAnew_44 : decode cX8_beginAnew 44 = .ok (.getfield 22, 3) := by decide +kernel
theorem dX8_beginAnew_47 : decode cX8_beginAnew 47 = .ok (.iconst 4, 1) := by decide +kernel
theorem dX8_beginAnew_48 : decode cX8_beginAnew 48 = .ok (.invokestatic 97, 3) := by decide +kernel
theorem dX8_beginAnew_51 : decode cX8_beginAnew 51 = .ok (.iconst 0, 1) := by decide +kernel
theorem dX8_beginAnew_52 : decode cX8_beginAnew 52 = .ok (.istore_n 2, 1) := by decide +kernel
theorem dX8_beginAnew_53 : decode cX8_beginAnew 53 = .ok (.iload_n 2, 1) := by decide +kernel
theorem dX8_beginAnew_54 : decode cX8_beginAnew 54 = .ok (.bipush 9, 2) := by decide +kernel
theorem dX8_beginAnew_56 : decode cX8_beginAnew 56 = .ok (.if_icmp .ge 16, 3) := by decide +kernel
theorem dX8_beginAnew_59 : decode cX8_beginAnew 59 = .ok (.aload_n 0, 1) := by decide +kernel
theorem dX8_beginAnew_60 : decode cX8_beginAnew 60 = .ok (.getfield 26, 3) := by decide +kernel
theorem dX8_beginAnew_63 : decode cX8_beginAnew 63 = .ok (.iload_n 2, 1) := by decide +kernel
theorem dX8_beginAnew_64 : decode cX8_beginAnew 64 = .ok (.iconst 0, 1) := by decide +kernel
theorem dX8_beginAnew_65 : decode cX8_beginAnew 65 = .ok (.bastore, 1) := by decide +kernel
theorem dX8_beginAnew_66 : decode cX8_beginAnew 66 = .ok (.iinc 2 1, 3) := by decide +kernel
theorem dX8_beginAnew_69 : decode cX8_beginAnew 69 = .ok (.goto (-16), 3) := by decide +kernel
theorem dX8_beginAnew_72 : decode cX8_beginAnew 72 = .ok (.return_, 1) := by decide +kernel
theorem dX8_refuse_0 : decode cX8_refuse 0 = .ok (.aload_n 0, 1) := by decide +kernel
theorem dX8_refuse_1 : decode cX8_refuse 1 = .ok (.getfield 49, 3) := by decide +kernel
theorem dX8_refuse_4 : decode cX8_refuse 4 = .ok (.ifCond .ne 13, 3) := by decide +kernel
theorem dX8_refuse_7 : decode cX8_refuse 7 = .ok (.aload_n 0, 1) := by decide +kernel
theorem dX8_refuse_8 : decode cX8_refuse 8 = .ok (.iload_n 1, 1) := by decide +kernel
theorem dX8_refuse_9 : decode cX8_refuse 9 = .ok (.putfield 49, 3) := by decide +kernel
theorem dX8_refuse_12 : decode cX8_refuse 12 = .ok (.aload_n 0, 1) := by decide +kernel
theorem dX8_refuse_13 : decode cX8_refuse 13 = .ok (.iload_n 2, 1) := by decide +kernel
theorem dX8_refuse_14 : decode cX8_refuse 14 = .ok (.putfield 52, 3) := by decide +kernel
theorem dX8_refuse_17 : decode cX8_refuse 17 = .ok (.return_, 1) := by decide +kernel
theorem dX8_readRow_0 : decode cX8_readRow 0 = .ok (.aload_n 0, 1) := by decide +kernel
theorem dX8_readRow_1 : decode cX8_readRow 1 = .ok (.getfield 37, 3) := by decide +kernel
theorem dX8_readRow_4 : decode cX8_readRow 4 = .ok (.bipush 8, 2) := by decide +kernel
theorem dX8_readRow_6 : decode cX8_readRow 6 = .ok (.if_icmp .lt 12, 3) := by decide +kernel
theorem dX8_readRow_9 : decode cX8_readRow 9 = .ok (.aload_n 0, 1) := by decide +kernel
theorem dX8_readRow_10 : decode cX8_readRow 10 = .ok (.iconst 5, 1) := by decide +kernel
theorem dX8_readRow_11 : decode cX8_readRow 11 = .ok (.aload_n 0, 1) := by decide +kernel
theorem dX8_readRow_12 : decode cX8_readRow 12 = .ok (.getfield 43, 3) := by decide +kernel
theorem dX8_readRow_15 : decode cX8_readRow 15 = .ok (.invokevirtual 85, 3) := by decide +kernel
theorem dX8_readRow_18 : decode cX8_readRow 18 = .ok (.aload_n 0, 1) := by decide +kernel
theorem dX8_readRow_19 : decode cX8_readRow 19 = .ok (.iconst 1, 1) := by decide +kernel
theorem dX8_readRow_20 : decode cX8_readRow 20 = .ok (.invokevirtual 78, 3) := by decide +kernel
theorem dX8_readRow_23 : decode cX8_readRow 23 = .ok (.aload_n 0, 1) := by decide +kernel
theorem dX8_readRow_24 : decode cX8_readRow 24 = .ok (.getfield 49, 3) := by decide +kernel
theorem dX8_readRow_27 : decode cX8_readRow 27 = .ok (.ifCond .eq 4, 3) := by decide +kernel
theorem dX8_readRow_30 : decode cX8_readRow 30 = .ok (.return_, 1) := by decide +kernel
theorem dX8_readRow_31 : decode cX8_readRow 31 = .ok (.aload_n 0, 1) := by decide +kernel
theorem dX8_readRow_32 : decode cX8_readRow 32 = .ok (.getfield 34, 3) := by decide +kernel
theorem dX8_readRow_35 : decode cX8_readRow 35 = .ok (.aload_n 0, 1) := by decide +kernel
theorem dX8_readRow_36 : decode cX8_readRow 36 = .ok (.getfield 43, 3) := by decide +kernel
theorem dX8_readRow_39 : decode cX8_readRow 39 = .ok (.isub, 1) := by decide +kernel
theorem dX8_readRow_40 : decode cX8_readRow 40 = .ok (.bipush 12, 2) := by decide +kernel
theorem dX8_readRow_42 : decode cX8_readRow 42 = .ok (.if_icmp .eq 13, 3) := by decide +kernel
theorem dX8_readRow_45 : decode cX8_readRow 45 = .ok (.aload_n 0, 1) := by decide +kernel
theorem dX8_readRow_46 : decode cX8_readRow 46 = .ok (.iconst 3, 1) := by decide +kernel
theorem dX8_readRow_47 : decode cX8_readRow 47 = .ok (.aload_n 0, 1) := by decide +kernel
theorem dX8_readRow_48 : decode cX8_readRow 48 = .ok (.getfield 43, 3) := by decide +kernel
theorem dX8_readRow_51 : decode cX8_readRow 51 = .ok (.invokevirtual 85, 3) := by decide +kernel
theorem dX8_readRow_54 : decode cX8_readRow 54 = .ok (.return_, 1) := by decide +kernel
theorem dX8_readRow_55 : decode cX8_readRow 55 = .ok (.iconst 0, 1) := by decide +kernel
theorem dX8_readRow_56 : decode cX8_readRow 56 = .ok (.istore_n 1, 1) := by decide +kernel
theorem dX8_readRow_57 : decode cX8_readRow 57 = .ok (.iload_n 1, 1) := by decide +kernel
theorem dX8_readRow_58 : decode cX8_readRow 58 = .ok (.bipush 12, 2) := by decide +kernel
theorem dX8_readRow_60 : decode cX8_readRow 60 = .ok (.if_icmp .ge 55, 3) := by decide +kernel
theorem dX8_readRow_63 : decode cX8_readRow 63 = .ok (.ldc 103, 2) := by decide +kernel
theorem dX8_readRow_65 : decode cX8_readRow 65 = .ok (.aload_n 0, 1) := by decide +kernel
theorem dX8_readRow_66 : decode cX8_readRow 66 = .ok (.aload_n 0, 1) := by decide +kernel
theorem dX8_readRow_67 : decode cX8_readRow 67 = .ok (.getfield 43, 3) := by decide +kernel
theorem dX8_readRow_70 : decode cX8_readRow 70 = .ok (.iload_n 1, 1) := by decide +kernel
theorem dX8_readRow_71 : decode cX8_readRow 71 = .ok (.iadd, 1) := by decide +kernel
theorem dX8_readRow_72 : decode cX8_readRow 72 = .ok (.invokevirtual 105, 3) := by decide +kernel
theorem dX8_readRow_75 : decode cX8_readRow 75 = .ok (.i2c, 1) := by decide +kernel
theorem dX8_readRow_76 : decode cX8_readRow 76 = .ok (.invokevirtual 108, 3) := by decide +kernel
theorem dX8_readRow_79 : decode cX8_readRow 79 = .ok (.istore_n 2, 1) := by decide +kernel
theorem dX8_readRow_80 : decode cX8_readRow 80 = .ok (.iload_n 2, 1) := by decide +kernel
theorem dX8_readRow_81 : decode cX8_readRow 81 = .ok (.ifCond .ge 13, 3) := by decide +kernel
theorem dX8_readRow_84 : decode cX8_readRow 84 = .ok (.aload_n 0, 1) := by decide +kernel
theorem dX8_readRow_85 : decode cX8_readRow 85 = .ok (.iconst 3, 1) := by decide +kernel
theorem dX8_readRow_86 : decode cX8_readRow 86 = .ok (.aload_n 0, 1) := by decide +kernel
theorem dX8_readRow_87 : decode cX8_readRow 87 = .ok (.getfield 43, 3) := by decide +kernel
theorem dX8_readRow_90 : decode cX8_readRow 90 = .ok (.invokevirtual 85, 3) := by decide +kernel
theorem dX8_readRow_93 : decode cX8_readRow 93 = .ok (.return_, 1) := by decide +kernel
theorem dX8_readRow_94 : decode cX8_readRow 94 = .ok (.aload_n 0, 1) := by decide +kernel
theorem dX8_readRow_95 : decode cX8_readRow 95 = .ok (.getfield 22, 3) := by decide +kernel
theorem dX8_readRow_98 : decode cX8_readRow 98 = .ok (.aload_n 0, 1) := by decide +kernel
theorem dX8_readRow_99 : decode cX8_readRow 99 = .ok (.getfield 37, 3) := by decide +kernel
theorem dX8_readRow_102 : decode cX8_readRow 102 = .ok (.bipush 12, 2) := by decide +kernel
theorem dX8_readRow_104 : decode cX8_readRow 104 = .ok (.imul, 1) := by decide +kernel
theorem dX8_readRow_105 : decode cX8_readRow 105 = .ok (.iload_n 1, 1) := by decide +kernel
theorem dX8_readRow_106 : decode cX8_readRow 106 = .ok (.iadd, 1) := by decide +kernel
theorem dX8_readRow_107 : decode cX8_readRow 107 = .ok (.iload_n 2, 1) := by decide +kernel
theorem dX8_readRow_108 : decode cX8_readRow 108 = .ok (.iastore, 1) := by decide +kernel
theorem dX8_readRow_109 : decode cX8_readRow 109 = .ok (.iinc 1 1, 3) := by decide +kernel
theorem dX8_readRow_112 : decode cX8_readRow 112 = .ok (.goto (-55), 3) := by decide +kernel
theorem dX8_readRow_115 : decode cX8_readRow 115 = .ok (.aload_n 0, 1) := by decide +kernel
theorem dX8_readRow_116 : decode cX8_readRow 116 = .ok (.dup, 1) := by decide +kernel
theorem dX8_readRow_117 : decode cX8_readRow 117 = .ok (.getfield 37, 3) := by decide +kernel
theorem dX8_readRow_120 : decode cX8_readRow 120 = .ok (.iconst 1, 1) := by decide +kernel
theorem dX8_readRow_121 : decode cX8_readRow 121 = .ok (.iadd, 1) := by decide +kernel
theorem dX8_readRow_122 : decode cX8_readRow 122 = .ok (.putfield 37, 3) := by decide +kernel
theorem dX8_readRow_125 : decode cX8_readRow 125 = .ok (.return_, 1) := by decide +kernel
theorem dX8_readRule_0 : decode cX8_readRule 0 = .ok (.iload_n 1, 1) := by decide +kernel
theorem dX8_readRule_1 : decode cX8_readRule 1 = .ok (.ifCond .lt 9, 3) := by decide +kernel
theorem dX8_readRule_4 : decode cX8_readRule 4 = .ok (.iload_n 1, 1) := by decide +kernel
theorem dX8_readRule_5 : decode cX8_readRule 5 = .ok (.bipush 9, 2) := by decide +kernel
theorem dX8_readRule_7 : decode cX8_readRule 7 = .ok (.if_icmp .lt 13, 3) := by decide +kernel
theorem dX8_readRule_10 : decode cX8_readRule 10 = .ok (.aload_n 0, 1) := by decide +kernel
theorem dX8_readRule_11 : decode cX8_readRule 11 = .ok (.iconst 2, 1) := by decide +kernel
theorem dX8_readRule_12 : decode cX8_readRule 12 = .ok (.aload_n 0, 1) := by decide +kernel
theorem dX8_readRule_13 : decode cX8_readRule 13 = .ok (.getfield 43, 3) := by decide +kernel
theorem dX8_readRule_16 : decode cX8_readRule 16 = .ok (.invokevirtual 85, 3) := by decide +kernel
theorem dX8_readRule_19 : decode cX8_readRule 19 = .ok (.return_, 1) := by decide +kernel
theorem dX8_readRule_20 : decode cX8_readRule 20 = .ok (.aload_n 0, 1) := by decide +kernel
theorem dX8_readRule_21 : decode cX8_readRule 21 = .ok (.getfield 26, 3) := by decide +kernel
theorem dX8_readRule_24 : decode cX8_readRule 24 = .ok (.iload_n 1, 1) := by decide +kernel
theorem dX8_readRule_25 : decode cX8_readRule 25 = .ok (.baload, 1) := by decide +kernel
theorem dX8_readRule_26 : decode cX8_readRule 26 = .ok (.ifCond .eq 13, 3) := by decide +kernel
theorem dX8_readRule_29 : decode cX8_readRule 29 = .ok (.aload_n 0, 1) := by decide +kernel
theorem dX8_readRule_30 : decode cX8_readRule 30 = .ok (.iconst 4, 1) := by decide +kernel
theorem dX8_readRule_31 : decode cX8_readRule 31 = .ok (.aload_n 0, 1) := by decide +kernel
theorem dX8_readRule_32 : decode cX8_readRule 32 = .ok (.getfield 43, 3) := by decide +kernel
theorem dX8_readRule_35 : decode cX8_readRule 35 = .ok (.invokevirtual 85, 3) := by decide +kernel
theorem dX8_readRule_38 : decode cX8_readRule 38 = .ok (.return_, 1) := by decide +kernel
theorem dX8_readRule_39 : decode cX8_readRule 39 = .ok (.aload_n 0, 1) := by decide +kernel
theorem dX8_readRule_40 : decode cX8_readRule 40 = .ok (.getfield 26, 3) := by decide +kernel
theorem dX8_readRule_43 : decode cX8_readRule 43 = .ok (.iload_n 1, 1) := by decide +kernel
theorem dX8_readRule_44 : decode cX8_readRule 44 = .ok (.iconst 1, 1) := by decide +kernel
theorem dX8_readRule_45 : decode cX8_readRule 45 = .ok (.bastore, 1) := by decide +kernel
theorem dX8_readRule_46 : decode cX8_readRule 46 = .ok (.aload_n 0, 1) := by decide +kernel
theorem dX8_readRule_47 : decode cX8_readRule 47 = .ok (.iload_n 1, 1) := by decide +kernel
theorem dX8_readRule_48 : decode cX8_readRule 48 = .ok (.getstatic 113, 3) := by decide +kernel
theorem dX8_readRule_51 : decode cX8_readRule 51 = .ok (.iload_n 1, 1) := by decide +kernel
theorem dX8_readRule_52 : decode cX8_readRule 52 = .ok (.iaload, 1) := by decide +kernel
theorem dX8_readRule_53 : decode cX8_readRule 53 = .ok (.invokevirtual 116, 3) := by decide +kernel
theorem dX8_readRule_56 : decode cX8_readRule 56 = .ok (.iload_n 1, 1) := by decide +kernel
theorem dX8_readRule_57 : decode cX8_readRule 57 = .ok (.iconst 2, 1) := by decide +kernel
theorem dX8_readRule_58 : decode cX8_readRule 58 = .ok (.if_icmp .ne 16, 3) := by decide +kernel
theorem dX8_readRule_61 : decode cX8_readRule 61 = .ok (.aload_n 0, 1) := by decide +kernel
theorem dX8_readRule_62 : decode cX8_readRule 62 = .ok (.iconst 3, 1) := by decide +kernel
theorem dX8_readRule_63 : decode cX8_readRule 63 = .ok (.aload_n 0, 1) := by decide +kernel
theorem dX8_readRule_64 : decode cX8_readRule 64 = .ok (.getfield 18, 3) := by decide +kernel
theorem dX8_readRule_67 : decode cX8_readRule 67 = .ok (.iconst 2, 1) := by decide +kernel
theorem dX8_readRule_68 : decode cX8_readRule 68 = .ok (.invokevirtual 81, 3) := by decide +kernel
theorem dX8_readRule_71 : decode cX8_readRule 71 = .ok (.invokevirtual 116, 3) := by decide +kernel
theorem dX8_readRule_74 : decode cX8_readRule 74 = .ok (.return_, 1) := by decide +kernel
theorem dX8_readValue_0 : decode cX8_readValue 0 = .ok (.aload_n 0, 1) := by decide +kernel
theorem dX8_readValue_1 : decode cX8_readValue 1 = .ok (.iconst 2, 1) := by decide +kernel
theorem dX8_readValue_2 : decode cX8_readValue 2 = .ok (.invokevirtual 78, 3) := by decide +kernel
theorem dX8_readValue_5 : decode cX8_readValue 5 = .ok (.aload_n 0, 1) := by decide +kernel
theorem dX8_readValue_6 : decode cX8_readValue 6 = .ok (.getfield 49, 3) := by decide +kernel
theorem dX8_readValue_9 : decode cX8_readValue 9 = .ok (.ifCond .eq 4, 3) := by decide +kernel
theorem dX8_readValue_12 : decode cX8_readValue 12 = .ok (.return_, 1) := by decide +kernel
theorem dX8_readValue_13 : decode cX8_readValue 13 = .ok (.iconst 0, 1) := by decide +kernel
theorem dX8_readValue_14 : decode cX8_readValue 14 = .ok (.istore_n 3, 1) := by decide +kernel
theorem dX8_readValue_15 : decode cX8_readValue 15 = .ok (.aload_n 0, 1) := by decide +kernel
theorem dX8_readValue_16 : decode cX8_readValue 16 = .ok (.getfield 43, 3) := by decide +kernel
theorem dX8_readValue_19 : decode cX8_readValue 19 = .ok (.istore 4, 2) := by decide +kernel
theorem dX8_readValue_21 : decode cX8_readValue 21 = .ok (.iload 4, 2) := by decide +kernel
theorem dX8_readValue_23 : decode cX8_readValue 23 = .ok (.aload_n 0, 1) := by decide +kernel
theorem dX8_readValue_24 : decode cX8_readValue 24 = .ok (.getfield 34, 3) := by decide +kernel
theorem dX8_readValue_27 : decode cX8_readValue 27 = .ok (.if_icmp .ge 24, 3) := by decide +kernel
theorem dX8_readValue_30 : decode cX8_readValue 30 = .ok (.bipush 10, 2) := by decide +kernel
theorem dX8_readValue_32 : decode cX8_readValue 32 = .ok (.iload_n 3, 1) := by decide +kernel
theorem dX8_readValue_33 : decode cX8_readValue 33 = .ok (.imul, 1) := by decide +kernel
theorem dX8_readValue_34 : decode cX8_readValue 34 = .ok (.aload_n 0, 1) := by decide +kernel
theorem dX8_readValue_35 : decode cX8_readValue 35 = .ok (.iload 4, 2) := by decide +kernel
theorem dX8_readValue_37 : decode cX8_readValue 37 = .ok (.invokevirtual 105, 3) := by decide +kernel
theorem dX8_readValue_40 : decode cX8_readValue 40 = .ok (.iadd, 1) := by decide +kernel
theorem dX8_readValue_41 : decode cX8_readValue 41 = .ok (.bipush 48, 2) := by decide +kernel
theorem dX8_readValue_43 : decode cX8_readValue 43 = .ok (.isub, 1) := by decide +kernel
theorem dX8_readValue_44 : decode cX8_readValue 44 = .ok (.istore_n 3, 1) := by decide +kernel
theorem dX8_readValue_45 : decode cX8_readValue 45 = .ok (.iinc 4 1, 3) := by decide +kernel
theorem dX8_readValue_48 : decode cX8_readValue 48 = .ok (.goto (-27), 3) := by decide +kernel
theorem dX8_readValue_51 : decode cX8_readValue 51 = .ok (.iload_n 3, 1) := by decide +kernel
theorem dX8_readValue_52 : decode cX8_readValue 52 = .ok (.iload_n 2, 1) := by decide +kernel
theorem dX8_readValue_53 : decode cX8_readValue 53 = .ok (.if_icmp .lt 24, 3) := by decide +kernel
theorem dX8_readValue_56 : decode cX8_readValue 56 = .ok (.iload_n 3, 1) := by decide +kernel
theorem dX8_readValue_57 : decode cX8_readValue 57 = .ok (.getstatic 119, 3) := by decide +kernel
theorem dX8_readValue_60 : decode cX8_readValue 60 = .ok (.iload_n 1, 1) := by decide +kernel
theorem dX8_readValue_61 : decode cX8_readValue 61 = .ok (.iaload, 1) := by decide +kernel
theorem dX8_readValue_62 : decode cX8_readValue 62 = .ok (.if_icmp .gt 15, 3) := by decide +kernel
theorem dX8_readValue_65 : decode cX8_readValue 65 = .ok (.aload_n 0, 1) := by decide +kernel
theorem dX8_readValue_66 : decode cX8_readValue 66 = .ok (.getfield 18, 3) := by decide +kernel
theorem dX8_readValue_69 : decode cX8_readValue 69 = .ok (.iload_n 1, 1) := by decide +kernel
theorem dX8_readValue_70 : decode cX8_readValue 70 = .ok (.iload_n 3, 1) := by decide +kernel
theorem dX8_readValue_71 : decode cX8_readValue 71 = .ok (.invokevirtual 122, 3) := by decide +kernel
theorem dX8_readValue_74 : decode cX8_readValue 74 = .ok (.goto 12, 3) := by decide +kernel
theorem dX8_readValue_77 : decode cX8_readValue 77 = .ok (.aload_n 0, 1) := by decide +kernel
theorem dX8_readValue_78 : decode cX8_readValue 78 = .ok (.iconst 3, 1) := by decide +kernel
theorem dX8_readValue_79 : decode cX8_readValue 79 = .ok (.aload_n 0, 1) := by decide +kernel
theorem dX8_readValue_80 : decode cX8_readValue 80 = .ok (.getfield 43, 3) := by decide +kernel
theorem dX8_readValue_83 : decode cX8_readValue 83 = .ok (.invokevirtual 85, 3) := by decide +kernel
theorem dX8_readValue_86 : decode cX8_readValue 86 = .ok (.return_, 1) := by decide +kernel
theorem dX8_take_0 : decode cX8_take 0 = .ok (.aload_n 0, 1) := by decide +kernel
theorem dX8_take_1 : decode cX8_take 1 = .ok (.getfield 49, 3) := by decide +kernel
theorem dX8_take_4 : decode cX8_take 4 = .ok (.ifCond .eq 4, 3) := by decide +kernel
theorem dX8_take_7 : decode cX8_take 7 = .ok (.return_, 1) := by decide +kernel
theorem dX8_take_8 : decode cX8_take 8 = .ok (.aload_n 0, 1) := by decide +kernel
theorem dX8_take_9 : decode cX8_take 9 = .ok (.invokevirtual 59, 3) := by decide +kernel
theorem dX8_take_12 : decode cX8_take 12 = .ok (.aload_n 0, 1) := by decide +kernel
theorem dX8_take_13 : decode cX8_take 13 = .ok (.getfield 40, 3) := by decide +kernel
theorem dX8_take_16 : decode cX8_take 16 = .ok (.iload_n 1, 1) := by decide +kernel
theorem dX8_take_17 : decode cX8_take 17 = .ok (.if_icmp .eq 12, 3) := by decide +kernel
theorem dX8_take_20 : decode cX8_take 20 = .ok (.aload_n 0, 1) := by decide +kernel
theorem dX8_take_21 : decode cX8_take 21 = .ok (.iconst 2, 1) := by decide +kernel
theorem dX8_take_22 : decode cX8_take 22 = .ok (.aload_n 0, 1) := by decide +kernel
theorem dX8_take_23 : decode cX8_take 23 = .ok (.getfield 43, 3) := by decide +kernel
theorem dX8_take_26 : decode cX8_take 26 = .ok (.invokevirtual 85, 3) := by decide +kernel
theorem dX8_take_29 : decode cX8_take 29 = .ok (.return_, 1) := by decide +kernel
theorem dX8_readToken_0 : decode cX8_readToken 0 = .ok (.aload_n 0, 1) := by decide +kernel
theorem dX8_readToken_1 : decode cX8_readToken 1 = .ok (.getfield 34, 3) := by decide +kernel
theorem dX8_readToken_4 : decode cX8_readToken 4 = .ok (.aload_n 0, 1) := by decide +kernel
theorem dX8_readToken_5 : decode cX8_readToken 5 = .ok (.getfield 30, 3) := by decide +kernel
theorem dX8_readToken_8 : decode cX8_readToken 8 = .ok (.if_icmp .ge 29, 3) := by decide +kernel
theorem dX8_readToken_11 : decode cX8_readToken 11 = .ok (.aload_n 0, 1) := by decide +kernel
theorem dX8_readToken_12 : decode cX8_readToken 12 = .ok (.aload_n 0, 1) := by decide +kernel
theorem dX8_readToken_13 : decode cX8_readToken 13 = .ok (.getfield 34, 3) := by decide +kernel
theorem dX8_readToken_16 : decode cX8_readToken 16 = .ok (.invokevirtual 105, 3) := by decide +kernel
theorem dX8_readToken_19 : decode cX8_readToken 19 = .ok (.bipush 32, 2) := by decide +kernel
theorem dX8_readToken_21 : decode cX8_readToken 21 = .ok (.if_icmp .ne 16, 3) := by decide +kernel
theorem dX8_readToken_24 : decode cX8_readToken 24 = .ok (.aload_n 0, 1) := by decide +kernel
theorem dX8_readToken_25 : decode cX8_readToken 25 = .ok (.dup, 1) := by decide +kernel
theorem dX8_readToken_26 : decode cX8_readToken 26 = .ok (.getfield 34, 3) := by decide +kernel
theorem dX8_readToken_29 : decode cX8_readToken 29 = .ok (.iconst 1, 1) := by decide +kernel
theorem dX8_readToken_30 : decode cX8_readToken 30 = .ok (.iadd, 1) := by decide +kernel
theorem dX8_readToken_31 : decode cX8_readToken 31 = .ok (.putfield 34, 3) := by decide +kernel
theorem dX8_readToken_34 : decode cX8_readToken 34 = .ok (.goto (-34), 3) := by decide +kernel
theorem dX8_readToken_37 : decode cX8_readToken 37 = .ok (.aload_n 0, 1) := by decide +kernel
theorem dX8_readToken_38 : decode cX8_readToken 38 = .ok (.aload_n 0, 1) := by decide +kernel
theorem dX8_readToken_39 : decode cX8_readToken 39 = .ok (.getfield 34, 3) := by decide +kernel
theorem dX8_readToken_42 : decode cX8_readToken 42 = .ok (.putfield 43, 3) := by decide +kernel
theorem dX8_readToken_45 : decode cX8_readToken 45 = .ok (.aload_n 0, 1) := by decide +kernel
theorem dX8_readToken_46 : decode cX8_readToken 46 = .ok (.aload_n 0, 1) := by decide +kernel
theorem dX8_readToken_47 : decode cX8_readToken 47 = .ok (.aload_n 0, 1) := by decide +kernel
theorem dX8_readToken_48 : decode cX8_readToken 48 = .ok (.getfield 43, 3) := by decide +kernel
theorem dX8_readToken_51 : decode cX8_readToken 51 = .ok (.invokevirtual 105, 3) := by decide +kernel
theorem dX8_readToken_54 : decode cX8_readToken 54 = .ok (.invokestatic 125, 3) := by decide +kernel
theorem dX8_readToken_57 : decode cX8_readToken 57 = .ok (.putfield 40, 3) := by decide +kernel
theorem dX8_readToken_60 : decode cX8_readToken 60 = .ok (.aload_n 0, 1) := by decide +kernel
theorem dX8_readToken_61 : decode cX8_readToken 61 = .ok (.getfield 43, 3) := by decide +kernel
theorem dX8_readToken_64 : decode cX8_readToken 64 = .ok (.aload_n 0, 1) := by decide +kernel
theorem dX8_readToken_65 : decode cX8_readToken 65 = .ok (.getfield 30, 3) := by decide +kernel
theorem dX8_readToken_68 : decode cX8_readToken 68 = .ok (.if_icmp .lt 4, 3) := by decide +kernel
theorem dX8_readToken_71 : decode cX8_readToken 71 = .ok (.return_, 1) := by decide +kernel
theorem dX8_readToken_72 : decode cX8_readToken 72 = .ok (.aload_n 0, 1) := by decide +kernel
theorem dX8_readToken_73 : decode cX8_readToken 73 = .ok (.dup, 1) := by decide +kernel
theorem dX8_readToken_74 : decode cX8_readToken 74 = .ok (.getfield 34, 3) := by decide +kernel
theorem dX8_readToken_77 : decode cX8_readToken 77 = .ok (.iconst 1, 1) := by decide +kernel
theorem dX8_readToken_78 : decode cX8_readToken 78 = .ok (.iadd, 1) := by decide +kernel
theorem dX8_readToken_79 : decode cX8_readToken 79 = .ok (.putfield 34, 3) := by decide +kernel
theorem dX8_readToken_82 : decode cX8_readToken 82 = .ok (.aload_n 0, 1) := by decide +kernel
theorem dX8_readToken_83 : decode cX8_readToken 83 = .ok (.getfield 34, 3) := by decide +kernel
theorem dX8_readToken_86 : decode cX8_readToken 86 = .ok (.aload_n 0, 1) := by decide +kernel
theorem dX8_readToken_87 : decode cX8_readToken 87 = .ok (.getfield 30, 3) := by decide +kernel
theorem dX8_readToken_90 : decode cX8_readToken 90 = .ok (.if_icmp .ge 42, 3) := by decide +kernel
theorem dX8_readToken_93 : decode cX8_readToken 93 = .ok (.aload_n 0, 1) := by decide +kernel
theorem dX8_readToken_94 : decode cX8_readToken 94 = .ok (.getfield 40, 3) := by decide +kernel
theorem dX8_readToken_97 : decode cX8_readToken 97 = .ok (.iconst 3, 1) := by decide +kernel
theorem dX8_readToken_98 : decode cX8_readToken 98 = .ok (.if_icmp .eq 34, 3) := by decide +kernel
theorem dX8_readToken_101 : decode cX8_readToken 101 = .ok (.aload_n 0, 1) := by decide +kernel
theorem dX8_readToken_102 : decode cX8_readToken 102 = .ok (.aload_n 0, 1) := by decide +kernel
theorem dX8_readToken_103 : decode cX8_readToken 103 = .ok (.getfield 34, 3) := by decide +kernel
theorem dX8_readToken_106 : decode cX8_readToken 106 = .ok (.invokevirtual 105, 3) := by decide +kernel
theorem dX8_readToken_109 : decode cX8_readToken 109 = .ok (.invokestatic 125, 3) := by decide +kernel
theorem dX8_readToken_112 : decode cX8_readToken 112 = .ok (.aload_n 0, 1) := by decide +kernel
theorem dX8_readToken_113 : decode cX8_readToken 113 = .ok (.getfield 40, 3) := by decide +kernel
theorem dX8_readToken_116 : decode cX8_readToken 116 = .ok (.if_icmp .ne 16, 3) := by decide +kernel
theorem dX8_readToken_119 : decode cX8_readToken 119 = .ok (.aload_n 0, 1) := by decide +kernel
theorem dX8_readToken_120 : decode cX8_readToken 120 = .ok (.dup, 1) := by decide +kernel
theorem dX8_readToken_121 : decode cX8_readToken 121 = .ok (.getfield 34, 3) := by decide +kernel
theorem dX8_readToken_124 : decode cX8_readToken 124 = .ok (.iconst 1, 1) := by decide +kernel
theorem dX8_readToken_125 : decode cX8_readToken 125 = .ok (.iadd, 1) := by decide +kernel
theorem dX8_readToken_126 : decode cX8_readToken 126 = .ok (.putfield 34, 3) := by decide +kernel
theorem dX8_readToken_129 : decode cX8_readToken 129 = .ok (.goto (-47), 3) := by decide +kernel
theorem dX8_readToken_132 : decode cX8_readToken 132 = .ok (.aload_n 0, 1) := by decide +kernel
theorem dX8_readToken_133 : decode cX8_readToken 133 = .ok (.getfield 40, 3) := by decide +kernel
theorem dX8_readToken_136 : decode cX8_readToken 136 = .ok (.ifCond .eq 24, 3) := by decide +kernel
theorem dX8_readToken_139 : decode cX8_readToken 139 = .ok (.aload_n 0, 1) := by decide +kernel
theorem dX8_readToken_140 : decode cX8_readToken 140 = .ok (.getfield 40, 3) := by decide +kernel
theorem dX8_readToken_143 : decode cX8_readToken 143 = .ok (.iconst 2, 1) := by decide +kernel
theorem dX8_readToken_144 : decode cX8_readToken 144 = .ok (.if_icmp .ne 25, 3) := by decide +kernel
theorem dX8_readToken_147 : decode cX8_readToken 147 = .ok (.aload_n 0, 1) := by decide +kernel
theorem dX8_readToken_148 : decode cX8_readToken 148 = .ok (.getfield 34, 3) := by decide +kernel
theorem dX8_readToken_151 : decode cX8_readToken 151 = .ok (.aload_n 0, 1) := by decide +kernel
theorem dX8_readToken_152 : decode cX8_readToken 152 = .ok (.getfield 43, 3) := by decide +kernel
theorem dX8_readToken_155 : decode cX8_readToken 155 = .ok (.isub, 1) := by decide +kernel
theorem dX8_readToken_156 : decode cX8_readToken 156 = .ok (.iconst 2, 1) := by decide +kernel
theorem dX8_readToken_157 : decode cX8_readToken 157 = .ok (.if_icmp .le 12, 3) := by decide +kernel
theorem dX8_readToken_160 : decode cX8_readToken 160 = .ok (.aload_n 0, 1) := by decide +kernel
theorem dX8_readToken_161 : decode cX8_readToken 161 = .ok (.iconst 1, 1) := by decide +kernel
theorem dX8_readToken_162 : decode cX8_readToken 162 = .ok (.aload_n 0, 1) := by decide +kernel
theorem dX8_readToken_163 : decode cX8_readToken 163 = .ok (.getfield 43, 3) := by decide +kernel
theorem dX8_readToken_166 : decode cX8_readToken 166 = .ok (.invokevirtual 85, 3) := by decide +kernel
theorem dX8_readToken_169 : decode cX8_readToken 169 = .ok (.return_, 1) := by decide +kernel
theorem dX8_kindOf_0 : decode cX8_kindOf 0 = .ok (.iload_n 0, 1) := by decide +kernel
theorem dX8_kindOf_1 : decode cX8_kindOf 1 = .ok (.bipush 97, 2) := by decide +kernel
theorem dX8_kindOf_3 : decode cX8_kindOf 3 = .ok (.if_icmp .lt 11, 3) := by decide +kernel
theorem dX8_kindOf_6 : decode cX8_kindOf 6 = .ok (.iload_n 0, 1) := by decide +kernel
theorem dX8_kindOf_7 : decode cX8_kindOf 7 = .ok (.bipush 122, 2) := by decide +kernel
theorem dX8_kindOf_9 : decode cX8_kindOf 9 = .ok (.if_icmp .gt 5, 3) := by decide +kernel
theorem dX8_kindOf_12 : decode cX8_kindOf 12 = .ok (.iconst 1, 1) := by decide +kernel
theorem dX8_kindOf_13 : decode cX8_kindOf 13 = .ok (.ireturn, 1) := by decide +kernel
theorem dX8_kindOf_14 : decode cX8_kindOf 14 = .ok (.iload_n 0, 1) := by decide +kernel
theorem dX8_kindOf_15 : decode cX8_kindOf 15 = .ok (.bipush 48, 2) := by decide +kernel
theorem dX8_kindOf_17 : decode cX8_kindOf 17 = .ok (.if_icmp .lt 11, 3) := by decide +kernel
theorem dX8_kindOf_20 : decode cX8_kindOf 20 = .ok (.iload_n 0, 1) := by decide +kernel
theorem dX8_kindOf_21 : decode cX8_kindOf 21 = .ok (.bipush 57, 2) := by decide +kernel
theorem dX8_kindOf_23 : decode cX8_kindOf 23 = .ok (.if_icmp .gt 5, 3) := by decide +kernel
theorem dX8_kindOf_26 : decode cX8_kindOf 26 = .ok (.iconst 2, 1) := by decide +kernel
theorem dX8_kindOf_27 : decode cX8_kindOf 27 = .ok (.ireturn, 1) := by decide +kernel
theorem dX8_kindOf_28 : decode cX8_kindOf 28 = .ok (.iload_n 0, 1) := by decide +kernel
theorem dX8_kindOf_29 : decode cX8_kindOf 29 = .ok (.bipush 59, 2) := by decide +kernel
theorem dX8_kindOf_31 : decode cX8_kindOf 31 = .ok (.if_icmp .ne 7, 3) := by decide +kernel
theorem dX8_kindOf_34 : decode cX8_kindOf 34 = .ok (.iconst 3, 1) := by decide +kernel
theorem dX8_kindOf_35 : decode cX8_kindOf 35 = .ok (.goto 4, 3) := by decide +kernel
theorem dX8_kindOf_38 : decode cX8_kindOf 38 = .ok (.iconst 0, 1) := by decide +kernel
theorem dX8_kindOf_39 : decode cX8_kindOf 39 = .ok (.ireturn, 1) := by decide +kernel
theorem dX8_byteAt_0 : decode cX8_byteAt 0 = .ok (.iload_n 1, 1) := by decide +kernel
theorem dX8_byteAt_1 : decode cX8_byteAt 1 = .ok (.ifCond .lt 33, 3) := by decide +kernel
theorem dX8_byteAt_4 : decode cX8_byteAt 4 = .ok (.iload_n 1, 1) := by decide +kernel
theorem dX8_byteAt_5 : decode cX8_byteAt 5 = .ok (.aload_n 0, 1) := by decide +kernel
theorem dX8_byteAt_6 : decode cX8_byteAt 6 = .ok (.getfield 30, 3) := by decide +kernel
theorem dX8_byteAt_9 : decode cX8_byteAt 9 = .ok (.if_icmp .ge 25, 3) := by decide +kernel
theorem dX8_byteAt_12 : decode cX8_byteAt 12 = .ok (.iload_n 1, 1) := by decide +kernel
theorem dX8_byteAt_13 : decode cX8_byteAt 13 = .ok (.aload_n 0, 1) := by decide +kernel
theorem dX8_byteAt_14 : decode cX8_byteAt 14 = .ok (.getfield 9, 3) := by decide +kernel
theorem dX8_byteAt_17 : decode cX8_byteAt 17 = .ok (.arraylength, 1) := by decide +kernel
theorem dX8_byteAt_18 : decode cX8_byteAt 18 = .ok (.if_icmp .ge 16, 3) := by decide +kernel
theorem dX8_byteAt_21 : decode cX8_byteAt 21 = .ok (.aload_n 0, 1) := by decide +kernel
theorem dX8_byteAt_22 : decode cX8_byteAt 22 = .ok (.getfield 9, 3) := by decide +kernel
theorem dX8_byteAt_25 : decode cX8_byteAt 25 = .ok (.iload_n 1, 1) := by decide +kernel
theorem dX8_byteAt_26 : decode cX8_byteAt 26 = .ok (.baload, 1) := by decide +kernel
theorem dX8_byteAt_27 : decode cX8_byteAt 27 = .ok (.sipush 255, 3) := by decide +kernel
theorem dX8_byteAt_30 : decode cX8_byteAt 30 = .ok (.iand, 1) := by decide +kernel
theorem dX8_byteAt_31 : decode cX8_byteAt 31 = .ok (.goto 4, 3) := by decide +kernel
theorem dX8_byteAt_34 : decode cX8_byteAt 34 = .ok (.iconst 0, 1) := by decide +kernel
theorem dX8_byteAt_35 : decode cX8_byteAt 35 = .ok (.ireturn, 1) := by decide +kernel
theorem dX8_ruleNamed_0 : decode cX8_ruleNamed 0 = .ok (.iconst 0, 1) := by decide +kernel
theorem dX8_ruleNamed_1 : decode cX8_ruleNamed 1 = .ok (.istore_n 1, 1) := by decide +kernel
theorem dX8_ruleNamed_2 : decode cX8_ruleNamed 2 = .ok (.iload_n 1, 1) := by decide +kernel
theorem dX8_ruleNamed_3 : decode cX8_ruleNamed 3 = .ok (.bipush 9, 2) := by decide +kernel
theorem dX8_ruleNamed_5 : decode cX8_ruleNamed 5 = .ok (.if_icmp .ge 22, 3) := by decide +kernel
theorem dX8_ruleNamed_8 : decode cX8_ruleNamed 8 = .ok (.aload_n 0, 1) := by decide +kernel
theorem dX8_ruleNamed_9 : decode cX8_ruleNamed 9 = .ok (.iload_n 1, 1) := by decide +kernel
theorem dX8_ruleNamed_10 : decode cX8_ruleNamed 10 = .ok (.invokestatic 128, 3) := by decide +kernel
theorem dX8_ruleNamed_13 : decode cX8_ruleNamed 13 = .ok (.invokevirtual 64, 3) := by decide +kernel
theorem dX8_ruleNamed_16 : decode cX8_ruleNamed 16 = .ok (.ifCond .eq 5, 3) := by decide +kernel
theorem dX8_ruleNamed_19 : decode cX8_ruleNamed 19 = .ok (.iload_n 1, 1) := by decide +kernel
theorem dX8_ruleNamed_20 : decode cX8_ruleNamed 20 = .ok (.ireturn, 1) := by decide +kernel
theorem dX8_ruleNamed_21 : decode cX8_ruleNamed 21 = .ok (.iinc 1 1, 3) := by decide +kernel
theorem dX8_ruleNamed_24 : decode cX8_ruleNamed 24 = .ok (.goto (-22), 3) := by decide +kernel
theorem dX8_ruleNamed_27 : decode cX8_ruleNamed 27 = .ok (.bipush (-4), 2) := by decide +kernel
theorem dX8_ruleNamed_29 : decode cX8_ruleNamed 29 = .ok (.ireturn, 1) := by decide +kernel
theorem dX8_nameOf_0 : decode cX8_nameOf 0 = .ok (.iload_n 0, 1) := by decide +kernel
theorem dX8_nameOf_1 : decode cX8_nameOf 1 = .ok (.tableswitch 75 0 8 #[51, 54, 57, 75, 60, 63, 66, 69, 72], 51) := by decide +kernel
theorem dX8_nameOf_52 : decode cX8_nameOf 52 = .ok (.ldc 132, 2) := by decide +kernel
theorem dX8_nameOf_54 : decode cX8_nameOf 54 = .ok (.areturn, 1) := by decide +kernel
theorem dX8_nameOf_55 : decode cX8_nameOf 55 = .ok (.ldc 134, 2) := by decide +kernel
theorem dX8_nameOf_57 : decode cX8_nameOf 57 = .ok (.areturn, 1) := by decide +kernel
theorem dX8_nameOf_58 : decode cX8_nameOf 58 = .ok (.ldc 136, 2) := by decide +kernel
theorem dX8_nameOf_60 : decode cX8_nameOf 60 = .ok (.areturn, 1) := by decide +kernel
theorem dX8_nameOf_61 : decode cX8_nameOf 61 = .ok (.ldc 138, 2) := by decide +kernel
theorem dX8_nameOf_63 : decode cX8_nameOf 63 = .ok (.areturn, 1) := by decide +kernel
theorem dX8_nameOf_64 : decode cX8_nameOf 64 = .ok (.ldc 140, 2) := by decide +kernel
theorem dX8_nameOf_66 : decode cX8_nameOf 66 = .ok (.areturn, 1) := by decide +kernel
theorem dX8_nameOf_67 : decode cX8_nameOf 67 = .ok (.ldc 142, 2) := by decide +kernel
theorem dX8_nameOf_69 : decode cX8_nameOf 69 = .ok (.areturn, 1) := by decide +kernel
theorem dX8_nameOf_70 : decode cX8_nameOf 70 = .ok (.ldc 144, 2) := by decide +kernel
theorem dX8_nameOf_72 : decode cX8_nameOf 72 = .ok (.areturn, 1) := by decide +kernel
theorem dX8_nameOf_73 : decode cX8_nameOf 73 = .ok (.ldc 146, 2) := by decide +kernel
theorem dX8_nameOf_75 : decode cX8_nameOf 75 = .ok (.areturn, 1) := by decide +kernel
theorem dX8_nameOf_76 : decode cX8_nameOf 76 = .ok (.ldc 148, 2) := by decide +kernel
theorem dX8_nameOf_78 : decode cX8_nameOf 78 = .ok (.areturn, 1) := by decide +kernel
theorem dX8_isName_0 : decode cX8_isName 0 = .ok (.aload_n 0, 1) := by decide +kernel
theorem dX8_isName_1 : decode cX8_isName 1 = .ok (.getfield 40, 3) := by decide +kernel
theorem dX8_isName_4 : decode cX8_isName 4 = .ok (.iconst 1, 1) := by decide +kernel
theorem dX8_isName_5 : decode cX8_isName 5 = .ok (.if_icmp .ne 19, 3) := by decide +kernel
theorem dX8_isName_8 : decode cX8_isName 8 = .ok (.aload_n 0, 1) := by decide +kernel
theorem dX8_isName_9 : decode cX8_isName 9 = .ok (.getfield 34, 3) := by decide +kernel
theorem dX8_isName_12 : decode cX8_isName 12 = .ok (.aload_n 0, 1) := by decide +kernel
theorem dX8_isName_13 : decode cX8_isName 13 = .ok (.getfield 43, 3) := by decide +kernel
theorem dX8_isName_16 : decode cX8_isName 16 = .ok (.isub, 1) := by decide +kernel
theorem dX8_isName_17 : decode cX8_isName 17 = .ok (.aload_n 1, 1) := by decide +kernel
theorem dX8_isName_18 : decode cX8_isName 18 = .ok (.invokevirtual 150, 3) := by decide +kernel
theorem dX8_isName_21 : decode cX8_isName 21 = .ok (.if_icmp .eq 5, 3) := by decide +kernel
theorem dX8_isName_24 : decode cX8_isName 24 = .ok (.iconst 0, 1) := by decide +kernel
theorem dX8_isName_25 : decode cX8_isName 25 = .ok (.ireturn, 1) := by decide +kernel
theorem dX8_isName_26 : decode cX8_isName 26 = .ok (.iconst 0, 1) := by decide +kernel
theorem dX8_isName_27 : decode cX8_isName 27 = .ok (.istore_n 2, 1) := by decide +kernel
theorem dX8_isName_28 : decode cX8_isName 28 = .ok (.iload_n 2, 1) := by decide +kernel
theorem dX8_isName_29 : decode cX8_isName 29 = .ok (.aload_n 1, 1) := by decide +kernel
theorem dX8_isName_30 : decode cX8_isName 30 = .ok (.invokevirtual 150, 3) := by decide +kernel
theorem dX8_isName_33 : decode cX8_isName 33 = .ok (.if_icmp .ge 29, 3) := by decide +kernel
theorem dX8_isName_36 : decode cX8_isName 36 = .ok (.aload_n 0, 1) := by decide +kernel
theorem dX8_isName_37 : decode cX8_isName 37 = .ok (.aload_n 0, 1) := by decide +kernel
theorem dX8_isName_38 : decode cX8_isName 38 = .ok (.getfield 43, 3) := by decide +kernel
theorem dX8_isName_41 : decode cX8_isName 41 = .ok (.iload_n 2, 1) := by decide +kernel
theorem dX8_isName_42 : decode cX8_isName 42 = .ok (.iadd, 1) := by decide +kernel
theorem dX8_isName_43 : decode cX8_isName 43 = .ok (.invokevirtual 105, 3) := by decide +kernel
theorem dX8_isName_46 : decode cX8_isName 46 = .ok (.aload_n 1, 1) := by decide +kernel
theorem dX8_isName_47 : decode cX8_isName 47 = .ok (.iload_n 2, 1) := by decide +kernel
theorem dX8_isName_48 : decode cX8_isName 48 = .ok (.invokevirtual 152, 3) := by decide +kernel
theorem dX8_isName_51 : decode cX8_isName 51 = .ok (.if_icmp .eq 5, 3) := by decide +kernel
theorem dX8_isName_54 : decode cX8_isName 54 = .ok (.iconst 0, 1) := by decide +kernel
theorem dX8_isName_55 : decode cX8_isName 55 = .ok (.ireturn, 1) := by decide +kernel
theorem dX8_isName_56 : decode cX8_isName 56 = .ok (.iinc 2 1, 3) := by decide +kernel
theorem dX8_isName_59 : decode cX8_isName 59 = .ok (.goto (-31), 3) := by decide +kernel
theorem dX8_isName_62 : decode cX8_isName 62 = .ok (.iconst 1, 1) := by decide +kernel
theorem dX8_isName_63 : decode cX8_isName 63 = .ok (.ireturn, 1) := by decide +kernel
theorem dX9_init_0 : decode cX9_init 0 = .ok (.aload_n 0, 1) := by decide +kernel
theorem dX9_init_1 : decode cX9_init 1 = .ok (.invokespecial 3, 3) := by decide +kernel
theorem dX9_init_4 : decode cX9_init 4 = .ok (.aload_n 0, 1) := by decide +kernel
theorem dX9_init_5 : decode cX9_init 5 = .ok (.bipush 12, 2) := by decide +kernel
theorem dX9_init_7 : decode cX9_init 7 = .ok (.newarray .int, 2) := by decide +kernel
theorem dX9_init_9 : decode cX9_init 9 = .ok (.putfield 9, 3) := by decide +kernel
theorem dX9_init_12 : decode cX9_init 12 = .ok (.aload_n 0, 1) := by decide +kernel
theorem dX9_init_13 : decode cX9_init 13 = .ok (.bipush 12, 2) := by decide +kernel
theorem dX9_init_15 : decode cX9_init 15 = .ok (.newarray .int, 2) := by decide +kernel
theorem dX9_init_17 : decode cX9_init 17 = .ok (.putfield 15, 3) := by decide +kernel
theorem dX9_init_20 : decode cX9_init 20 = .ok (.aload_n 0, 1) := by decide +kernel
theorem dX9_init_21 : decode cX9_init 21 = .ok (.bipush 12, 2) := by decide +kernel
theorem dX9_init_23 : decode cX9_init 23 = .ok (.newarray .int, 2) := by decide +kernel
theorem dX9_init_25 : decode cX9_init 25 = .ok (.putfield 18, 3) := by decide +kernel
theorem dX9_init_28 : decode cX9_init 28 = .ok (.aload_n 0, 1) := by decide +kernel
theorem dX9_init_29 : decode cX9_init 29 = .ok (.bipush 12, 2) := by decide +kernel
theorem dX9_init_31 : decode cX9_init 31 = .ok (.newarray .boolean, 2) := by decide +kernel
theorem dX9_init_33 : decode cX9_init 33 = .ok (.putfield 21, 3) := by decide +kernel
theorem dX9_init_36 : decode cX9_init 36 = .ok (.aload_n 0, 1) := by decide +kernel
theorem dX9_init_37 : decode cX9_init 37 = .ok (.iconst 0, 1) := by decide +kernel
theorem dX9_init_38 : decode cX9_init 38 = .ok (.putfield 25, 3) := by decide +kernel
theorem dX9_init_41 : decode cX9_init 41 = .ok (.return_, 1) := by decide +kernel
theorem dX9_tell_0 : decode cX9_tell 0 = .ok (.aload_n 0, 1) := by decide +kernel
theorem dX9_tell_1 : decode cX9_tell 1 = .ok (.getfield 25, 3) := by decide +kernel
theorem dX9_tell_4 : decode cX9_tell 4 = .ok (.bipush 12, 2) := by decide +kernel
theorem dX9_tell_6 : decode cX9_tell 6 = .ok (.if_icmp .lt 5, 3) := by decide +kernel
theorem dX9_tell_9 : decode cX9_tell 9 = .ok (.iconst 0, 1) := by decide +kernel
theorem dX9_tell_10 : decode cX9_tell 10 = .ok (.ireturn, 1) := by decide +kernel
theorem dX9_tell_11 : decode cX9_tell 11 = .ok (.aload_n 0, 1) := by decide +kernel
theorem dX9_tell_12 : decode cX9_tell 12 = .ok (.getfield 9, 3) := by decide +kernel
theorem dX9_tell_15 : decode cX9_tell 15 = .ok (.aload_n 0, 1) := by decide +kernel
theorem dX9_tell_16 : decode cX9_tell 16 = .ok (.getfield 25, 3) := by decide +kernel
theorem dX9_tell_19 : decode cX9_tell 19 = .ok (.iload_n 1, 1) := by decide +kernel
theorem dX9_tell_20 : decode cX9_tell 20 = .ok (.iastore, 1) := by decide +kernel
theorem dX9_tell_21 : decode cX9_tell 21 = .ok (.aload_n 0, 1) := by decide +kernel
theorem dX9_tell_22 : decode cX9_tell 22 = .ok (.getfield 15, 3) := by decide +kernel
theorem dX9_tell_25 : decode cX9_tell 25 = .ok (.aload_n 0, 1) := by decide +kernel
theorem dX9_tell_26 : decode cX9_tell 26 = .ok (.getfield 25, 3) := by decide +kernel
theorem dX9_tell_29 : decode cX9_tell 29 = .ok (.iload_n 2, 1) := by decide +kernel
theorem dX9_tell_30 : decode cX9_tell 30 = .ok (.iastore, 1) := by decide +kernel
theorem dX9_tell_31 : decode cX9_tell 31 = .ok (.aload_n 0, 1) := by decide +kernel
theorem dX9_tell_32 : decode cX9_tell 32 = .ok (.getfield 21, 3) := by decide +kernel
theorem dX9_tell_35 : decode cX9_tell 35 = .ok (.aload_n 0, 1) := by decide +kernel
theorem dX9_tell_36 : decode cX9_tell 36 = .ok (.getfield 25, 3) := by decide +kernel
theorem dX9_tell_39 : decode cX9_tell 39 = .ok (.iload_n 3, 1) := by decide +kernel
theorem dX9_tell_40 : decode cX9_tell 40 = .ok (.bastore, 1) := by decide +kernel
theorem dX9_tell_41 : decode cX9_tell 41 = .ok (.aload_n 0, 1) := by decide +kernel
theorem dX9_tell_42 : decode cX9_tell 42 = .ok (.getfield 18, 3) := by decide +kernel
theorem dX9_tell_45 : decode cX9_tell 45 = .ok (.aload_n 0, 1) := by decide +kernel
theorem dX9_tell_46 : decode cX9_tell 46 = .ok (.getfield 25, 3) := by decide +kernel
theorem dX9_tell_49 : decode cX9_tell 49 = .ok (.iload 4, 2) := by decide +kernel
theorem dX9_tell_51 : decode cX9_tell 51 = .ok (.iastore, 1) := by decide +kernel
theorem dX9_tell_52 : decode cX9_tell 52 = .ok (.aload_n 0, 1) := by decide +kernel
theorem dX9_tell_53 : decode cX9_tell 53 = .ok (.dup, 1) := by decide +kernel
theorem dX9_tell_54 : decode cX9_tell 54 = .ok (.getfield 25, 3) := by decide +kernel
theorem dX9_tell_57 : decode cX9_tell 57 = .ok (.iconst 1, 1) := by decide +kernel
theorem dX9_tell_58 : decode cX9_tell 58 = .ok (.iadd, 1) := by decide +kernel
theorem dX9_tell_59 : decode cX9_tell 59 = .ok (.putfield 25, 3) := by decide +kernel
theorem dX9_tell_62 : decode cX9_tell 62 = .ok (.iconst 1, 1) := by decide +kernel
theorem dX9_tell_63 : decode cX9_tell 63 = .ok (.ireturn, 1) := by decide +kernel
theorem dX9_isSo_0 : decode cX9_isSo 0 = .ok (.iload_n 1, 1) := by decide +kernel
theorem dX9_isSo_1 : decode cX9_isSo 1 = .ok (.ifCond .lt 11, 3) := by decide +kernel
theorem dX9_isSo_4 : decode cX9_isSo 4 = .ok (.iload_n 1, 1) := by decide +kernel
theorem dX9_isSo_5 : decode cX9_isSo 5 = .ok (.aload_n 0, 1) := by decide +kernel
theorem dX9_isSo_6 : decode cX9_isSo 6 = .ok (.getfield 25, 3) := by decide +kernel
theorem dX9_isSo_9 : decode cX9_isSo 9 = .ok (.if_icmp .lt 5, 3) := by decide +kernel
theorem dX9_isSo_12 : decode cX9_isSo 12 = .ok (.iconst 0, 1) := by decide +kernel
theorem dX9_isSo_13 : decode cX9_isSo 13 = .ok (.ireturn, 1) := by decide +kernel
theorem dX9_isSo_14 : decode cX9_isSo 14 = .ok (.aload_n 0, 1) := by decide +kernel
theorem dX9_isSo_15 : decode cX9_isSo 15 = .ok (.getfield 15, 3) := by decide +kernel
theorem dX9_isSo_18 : decode cX9_isSo 18 = .ok (.iload_n 1, 1) := by decide +kernel
theorem dX9_isSo_19 : decode cX9_isSo 19 = .ok (.iaload, 1) := by decide +kernel
theorem dX9_isSo_20 : decode cX9_isSo 20 = .ok (.aload_n 0, 1) := by decide +kernel
theorem dX9_isSo_21 : decode cX9_isSo 21 = .ok (.getfield 21, 3) := by decide +kernel
theorem dX9_isSo_24 : decode cX9_isSo 24 = .ok (.iload_n 1, 1) := by decide +kernel
theorem dX9_isSo_25 : decode cX9_isSo 25 = .ok (.baload, 1) := by decide +kernel
theorem dX9_isSo_26 : decode cX9_isSo 26 = .ok (.ifCond .eq 7, 3) := by decide +kernel
theorem dX9_isSo_29 : decode cX9_isSo 29 = .ok (.iload_n 3, 1) := by decide +kernel
theorem dX9_isSo_30 : decode cX9_isSo 30 = .ok (.goto 8, 3) := by decide +kernel
theorem dX9_isSo_33 : decode cX9_isSo 33 = .ok (.aload_n 2, 1) := by decide +kernel
theorem dX9_isSo_34 : decode cX9_isSo 34 = .ok (.iconst 1, 1) := by decide +kernel
theorem dX9_isSo_35 : decode cX9_isSo 35 = .ok (.invokevirtual 29, 3) := by decide +kernel
theorem dX9_isSo_38 : decode cX9_isSo 38 = .ok (.if_icmp .lt 7, 3) := by decide +kernel
theorem dX9_isSo_41 : decode cX9_isSo 41 = .ok (.iconst 1, 1) := by decide +kernel
theorem dX9_isSo_42 : decode cX9_isSo 42 = .ok (.goto 4, 3) := by decide +kernel
theorem dX9_isSo_45 : decode cX9_isSo 45 = .ok (.iconst 0, 1) := by decide +kernel
theorem dX9_isSo_46 : decode cX9_isSo 46 = .ok (.istore 4, 2) := by decide +kernel
theorem dX9_isSo_48 : decode cX9_isSo 48 = .ok (.aload_n 2, 1) := by decide +kernel
theorem dX9_isSo_49 : decode cX9_isSo 49 = .ok (.aload_n 0, 1) := by decide +kernel
theorem dX9_isSo_50 : decode cX9_isSo 50 = .ok (.getfield 9, 3) := by decide +kernel
theorem dX9_isSo_53 : decode cX9_isSo 53 = .ok (.iload_n 1, 1) := by decide +kernel
theorem dX9_isSo_54 : decode cX9_isSo 54 = .ok (.iaload, 1) := by decide +kernel
theorem dX9_isSo_55 : decode cX9_isSo 55 = .ok (.aload_n 0, 1) := by decide +kernel
theorem dX9_isSo_56 : decode cX9_isSo 56 = .ok (.getfield 15, 3) := by decide +kernel
theorem dX9_isSo_59 : decode cX9_isSo 59 = .ok (.iload_n 1, 1) := by decide +kernel
theorem dX9_isSo_60 : decode cX9_isSo 60 = .ok (.iaload, 1) := by decide +kernel
theorem dX9_isSo_61 : decode cX9_isSo 61 = .ok (.iload 4, 2) := by decide +kernel
theorem dX9_isSo_63 : decode cX9_isSo 63 = .ok (.invokevirtual 35, 3) := by decide +kernel
theorem dX9_isSo_66 : decode cX9_isSo 66 = .ok (.aload_n 0, 1) := by decide +kernel
theorem dX9_isSo_67 : decode cX9_isSo 67 = .ok (.getfield 18, 3) := by decide +kernel
theorem dX9_isSo_70 : decode cX9_isSo 70 = .ok (.iload_n 1, 1) := by decide +kernel
theorem dX9_isSo_71 : decode cX9_isSo 71 = .ok (.iaload, 1) := by decide +kernel
theorem dX9_isSo_72 : decode cX9_isSo 72 = .ok (.if_icmp .ne 7, 3) := by decide +kernel
theorem dX9_isSo_75 : decode cX9_isSo 75 = .ok (.iconst 1, 1) := by decide +kernel
theorem dX9_isSo_76 : decode cX9_isSo 76 = .ok (.goto 4, 3) := by decide +kernel
theorem dX9_isSo_79 : decode cX9_isSo 79 = .ok (.iconst 0, 1) := by decide +kernel
theorem dX9_isSo_80 : decode cX9_isSo 80 = .ok (.ireturn, 1) := by decide +kernel
theorem dX9_allSo_0 : decode cX9_allSo 0 = .ok (.iconst 0, 1) := by decide +kernel
theorem dX9_allSo_1 : decode cX9_allSo 1 = .ok (.istore_n 3, 1) := by decide +kernel
theorem dX9_allSo_2 : decode cX9_allSo 2 = .ok (.iload_n 3, 1) := by decide +kernel
theorem dX9_allSo_3 : decode cX9_allSo 3 = .ok (.aload_n 0, 1) := by decide +kernel
theorem dX9_allSo_4 : decode cX9_allSo 4 = .ok (.getfield 25, 3) := by decide +kernel
theorem dX9_allSo_7 : decode cX9_allSo 7 = .ok (.if_icmp .ge 21, 3) := by decide +kernel
theorem dX9_allSo_10 : decode cX9_allSo 10 = .ok (.aload_n 0, 1) := by decide +kernel
theorem dX9_allSo_11 : decode cX9_allSo 11 = .ok (.iload_n 3, 1) := by decide +kernel
theorem dX9_allSo_12 : decode cX9_allSo 12 = .ok (.aload_n 1, 1) := by decide +kernel
theorem dX9_allSo_13 : decode cX9_allSo 13 = .ok (.iload_n 2, 1) := by decide +kernel
theorem dX9_allSo_14 : decode cX9_allSo 14 = .ok (.invokevirtual 39, 3) := by decide +kernel
theorem dX9_allSo_17 : decode cX9_allSo 17 = .ok (.ifCond .ne 5, 3) := by decide +kernel
theorem dX9_allSo_20 : decode cX9_allSo 20 = .ok (.iconst 0, 1) := by decide +kernel
theorem dX9_allSo_21 : decode cX9_allSo 21 = .ok (.ireturn, 1) := by decide +kernel
theorem dX9_allSo_22 : decode cX9_allSo 22 = .ok (.iinc 3 1, 3) := by decide +kernel
theorem dX9_allSo_25 : decode cX9_allSo 25 = .ok (.goto (-23), 3) := by decide +kernel
theorem dX9_allSo_28 : decode cX9_allSo 28 = .ok (.iconst 1, 1) := by decide +kernel
theorem dX9_allSo_29 : decode cX9_allSo 29 = .ok (.ireturn, 1) := by decide +kernel
theorem dJ11_isValidCodePoint_9a6ad_0 : decode cJ11_isValidCodePoint_9a6ad 0 = .ok (.iload_n 0, 1) := by decide +kernel
theorem dJ11_isValidCodePoint_9a6ad_1 : decode cJ11_isValidCodePoint_9a6ad 1 = .ok (.bipush 16, 2) := by decide +kernel
theorem dJ11_isValidCodePoint_9a6ad_3 : decode cJ11_isValidCodePoint_9a6ad 3 = .ok (.iushr, 1) := by decide +kernel
theorem dJ11_isValidCodePoint_9a6ad_4 : decode cJ11_isValidCodePoint_9a6ad 4 = .ok (.istore_n 1, 1) := by decide +kernel
theorem dJ11_isValidCodePoint_9a6ad_5 : decode cJ11_isValidCodePoint_9a6ad 5 = .ok (.iload_n 1, 1) := by decide +kernel
theorem dJ11_isValidCodePoint_9a6ad_6 : decode cJ11_isValidCodePoint_9a6ad 6 = .ok (.bipush 17, 2) := by decide +kernel
theorem dJ11_isValidCodePoint_9a6ad_8 : decode cJ11_isValidCodePoint_9a6ad 8 = .ok (.if_icmp .ge 7, 3) := by decide +kernel
theorem dJ11_isValidCodePoint_9a6ad_11 : decode cJ11_isValidCodePoint_9a6ad 11 = .ok (.iconst 1, 1) := by decide +kernel
theorem dJ11_isValidCodePoint_9a6ad_12 : decode cJ11_isValidCodePoint_9a6ad 12 = .ok (.goto 4, 3) := by decide +kernel
theorem dJ11_isValidCodePoint_9a6ad_15 : decode cJ11_isValidCodePoint_9a6ad 15 = .ok (.iconst 0, 1) := by decide +kernel
theorem dJ11_isValidCodePoint_9a6ad_16 : decode cJ11_isValidCodePoint_9a6ad 16 = .ok (.ireturn, 1) := by decide +kernel
theorem dJ11_highSurrogate_5068e_0 : decode cJ11_highSurrogate_5068e 0 = .ok (.iload_n 0, 1) := by decide +kernel
theorem dJ11_highSurrogate_5068e_1 : decode cJ11_highSurrogate_5068e 1 = .ok (.bipush 10, 2) := by decide +kernel
theorem dJ11_highSurrogate_5068e_3 : decode cJ11_highSurrogate_5068e 3 = .ok (.iushr, 1) := by decide +kernel
theorem dJ11_highSurrogate_5068e_4 : decode cJ11_highSurrogate_5068e 4 = .ok (.ldc 110, 2) := by decide +kernel
theorem dJ11_highSurrogate_5068e_6 : decode cJ11_highSurrogate_5068e 6 = .ok (.iadd, 1) := by decide +kernel
theorem dJ11_highSurrogate_5068e_7 : decode cJ11_highSurrogate_5068e 7 = .ok (.i2c, 1) := by decide +kernel
theorem dJ11_highSurrogate_5068e_8 : decode cJ11_highSurrogate_5068e 8 = .ok (.ireturn, 1) := by decide +kernel
theorem dJ11_lowSurrogate_5068e_0 : decode cJ11_lowSurrogate_5068e 0 = .ok (.iload_n 0, 1) := by decide +kernel
theorem dJ11_lowSurrogate_5068e_1 : decode cJ11_lowSurrogate_5068e 1 = .ok (.sipush 1023, 3) := by decide +kernel
theorem dJ11_lowSurrogate_5068e_4 : decode cJ11_lowSurrogate_5068e 4 = .ok (.iand, 1) := by decide +kernel
theorem dJ11_lowSurrogate_5068e_5 : decode cJ11_lowSurrogate_5068e 5 = .ok (.ldc 76, 2) := by decide +kernel
theorem dJ11_lowSurrogate_5068e_7 : decode cJ11_lowSurrogate_5068e 7 = .ok (.iadd, 1) := by decide +kernel
theorem dJ11_lowSurrogate_5068e_8 : decode cJ11_lowSurrogate_5068e 8 = .ok (.i2c, 1) := by decide +kernel
theorem dJ11_lowSurrogate_5068e_9 : decode cJ11_lowSurrogate_5068e 9 = .ok (.ireturn, 1) := by decide +kernel
theorem dJ9_max_7cf53_0 : decode cJ9_max_7cf53 0 = .ok (.iload_n 0, 1) := by decide +kernel
theorem dJ9_max_7cf53_1 : decode cJ9_max_7cf53 1 = .ok (.iload_n 1, 1) := by decide +kernel
theorem dJ9_max_7cf53_2 : decode cJ9_max_7cf53 2 = .ok (.if_icmp .lt 7, 3) := by decide +kernel
theorem dJ9_max_7cf53_5 : decode cJ9_max_7cf53 5 = .ok (.iload_n 0, 1) := by decide +kernel
theorem dJ9_max_7cf53_6 : decode cJ9_max_7cf53 6 = .ok (.goto 4, 3) := by decide +kernel
theorem dJ9_max_7cf53_9 : decode cJ9_max_7cf53 9 = .ok (.iload_n 1, 1) := by decide +kernel
theorem dJ9_max_7cf53_10 : decode cJ9_max_7cf53 10 = .ok (.ireturn, 1) := by decide +kernel
theorem dJ9_min_7cf53_0 : decode cJ9_min_7cf53 0 = .ok (.iload_n 0, 1) := by decide +kernel
theorem dJ9_min_7cf53_1 : decode cJ9_min_7cf53 1 = .ok (.iload_n 1, 1) := by decide +kernel
theorem dJ9_min_7cf53_2 : decode cJ9_min_7cf53 2 = .ok (.if_icmp .gt 7, 3) := by decide +kernel
theorem dJ9_min_7cf53_5 : decode cJ9_min_7cf53 5 = .ok (.iload_n 0, 1) := by decide +kernel
theorem dJ9_min_7cf53_6 : decode cJ9_min_7cf53 6 = .ok (.goto 4, 3) := by decide +kernel
theorem dJ9_min_7cf53_9 : decode cJ9_min_7cf53 9 = .ok (.iload_n 1, 1) := by decide +kernel
theorem dJ9_min_7cf53_10 : decode cJ9_min_7cf53 10 = .ok (.ireturn, 1) := by decide +kernel
theorem dJ0_length_8abf5_0 : decode cJ0_length_8abf5 0 = .ok (.aload_n 0, 1) := by decide +kernel
theorem dJ0_length_8abf5_1 : decode cJ0_length_8abf5 1 = .ok (.getfield 9, 3) := by decide +kernel
theorem dJ0_length_8abf5_4 : decode cJ0_length_8abf5 4 = .ok (.arraylength, 1) := by decide +kernel
theorem dJ0_length_8abf5_5 : decode cJ0_length_8abf5 5 = .ok (.aload_n 0, 1) := by decide +kernel
theorem dJ0_length_8abf5_6 : decode cJ0_length_8abf5 6 = .ok (.invokevirtual 335, 3) := by decide +kernel
theorem dJ0_length_8abf5_9 : decode cJ0_length_8abf5 9 = .ok (.ishr, 1) := by decide +kernel
theorem dJ0_length_8abf5_10 : decode cJ0_length_8abf5 10 = .ok (.ireturn, 1) := by decide +kernel
theorem dJ0_charAt_5068e_0 : decode cJ0_charAt_5068e 0 = .ok (.aload_n 0, 1) := by decide +kernel
theorem dJ0_charAt_5068e_1 : decode cJ0_charAt_5068e 1 = .ok (.invokevirtual 492, 3) := by decide +kernel
theorem dJ0_charAt_5068e_4 : decode cJ0_charAt_5068e 4 = .ok (.ifCond .eq 12, 3) := by decide +kernel
theorem dJ0_charAt_5068e_7 : decode cJ0_charAt_5068e 7 = .ok (.aload_n 0, 1) := by decide +kernel
theorem dJ0_charAt_5068e_8 : decode cJ0_charAt_5068e 8 = .ok (.getfield 9, 3) := by decide +kernel
theorem dJ0_charAt_5068e_11 : decode cJ0_charAt_5068e 11 = .ok (.iload_n 1, 1) := by decide +kernel
theorem dJ0_charAt_5068e_12 : decode cJ0_charAt_5068e 12 = .ok (.invokestatic 495, 3) := by decide +kernel
theorem dJ0_charAt_5068e_15 : decode cJ0_charAt_5068e 15 = .ok (.ireturn, 1) := by decide +kernel
theorem dJ0_charAt_5068e_16 : decode cJ0_charAt_5068e 16 = .ok (.aload_n 0, 1) := by decide +kernel
theorem dJ0_charAt_5068e_17 : decode cJ0_charAt_5068e 17 = .ok (.getfield 9, 3) := by decide +kernel
theorem dJ0_charAt_5068e_20 : decode cJ0_charAt_5068e 20 = .ok (.iload_n 1, 1) := by decide +kernel
theorem dJ0_charAt_5068e_21 : decode cJ0_charAt_5068e 21 = .ok (.invokestatic 498, 3) := by decide +kernel
theorem dJ0_charAt_5068e_24 : decode cJ0_charAt_5068e 24 = .ok (.ireturn, 1) := by decide +kernel
theorem dJ0_indexOf_0f7a4_0 : decode cJ0_indexOf_0f7a4 0 = .ok (.aload_n 0, 1) := by decide +kernel
theorem dJ0_indexOf_0f7a4_1 : decode cJ0_indexOf_0f7a4 1 = .ok (.iload_n 1, 1) := by decide +kernel
theorem dJ0_indexOf_0f7a4_2 : decode cJ0_indexOf_0f7a4 2 = .ok (.iconst 0, 1) := by decide +kernel
theorem dJ0_indexOf_0f7a4_3 : decode cJ0_indexOf_0f7a4 3 = .ok (.invokevirtual 633, 3) := by decide +kernel
theorem dJ0_indexOf_0f7a4_6 : decode cJ0_indexOf_0f7a4 6 = .ok (.ireturn, 1) := by decide +kernel
theorem dJ0_indexOf_7cf53_0 : decode cJ0_indexOf_7cf53 0 = .ok (.aload_n 0, 1) := by decide +kernel
theorem dJ0_indexOf_7cf53_1 : decode cJ0_indexOf_7cf53 1 = .ok (.invokevirtual 492, 3) := by decide +kernel
theorem dJ0_indexOf_7cf53_4 : decode cJ0_indexOf_7cf53 4 = .ok (.ifCond .eq 19, 3) := by decide +kernel
theorem dJ0_indexOf_7cf53_7 : decode cJ0_indexOf_7cf53 7 = .ok (.aload_n 0, 1) := by decide +kernel
theorem dJ0_indexOf_7cf53_8 : decode cJ0_indexOf_7cf53 8 = .ok (.getfield 9, 3) := by decide +kernel
theorem dJ0_indexOf_7cf53_11 : decode cJ0_indexOf_7cf53 11 = .ok (.iload_n 1, 1) := by decide +kernel
theorem dJ0_indexOf_7cf53_12 : decode cJ0_indexOf_7cf53 12 = .ok (.iload_n 2, 1) := by decide +kernel
theorem dJ0_indexOf_7cf53_13 : decode cJ0_indexOf_7cf53 13 = .ok (.aload_n 0, 1) := by decide +kernel
theorem dJ0_indexOf_7cf53_14 : decode cJ0_indexOf_7cf53 14 = .ok (.invokevirtual 505, 3) := by decide +kernel
theorem dJ0_indexOf_7cf53_17 : decode cJ0_indexOf_7cf53 17 = .ok (.invokestatic 637, 3) := by decide +kernel
theorem dJ0_indexOf_7cf53_20 : decode cJ0_indexOf_7cf53 20 = .ok (.goto 16, 3) := by decide +kernel
theorem dJ0_indexOf_7cf53_23 : decode cJ0_indexOf_7cf53 23 = .ok (.aload_n 0, 1) := by decide +kernel
theorem dJ0_indexOf_7cf53_24 : decode cJ0_indexOf_7cf53 24 = .ok (.getfield 9, 3) := by decide +kernel
theorem dJ0_indexOf_7cf53_27 : decode cJ0_indexOf_7cf53 27 = .ok (.iload_n 1, 1) := by decide +kernel
theorem dJ0_indexOf_7cf53_28 : decode cJ0_indexOf_7cf53 28 = .ok (.iload_n 2, 1) := by decide +kernel
theorem dJ0_indexOf_7cf53_29 : decode cJ0_indexOf_7cf53 29 = .ok (.aload_n 0, 1) := by decide +kernel
theorem dJ0_indexOf_7cf53_30 : decode cJ0_indexOf_7cf53 30 = .ok (.invokevirtual 505, 3) := by decide +kernel
theorem dJ0_indexOf_7cf53_33 : decode cJ0_indexOf_7cf53 33 = .ok (.invokestatic 640, 3) := by decide +kernel
theorem dJ0_indexOf_7cf53_36 : decode cJ0_indexOf_7cf53 36 = .ok (.ireturn, 1) := by decide +kernel
theorem dJ0_coder_7d493_0 : decode cJ0_coder_7d493 0 = .ok (.getstatic 38, 3) := by decide +kernel
theorem dJ0_coder_7d493_3 : decode cJ0_coder_7d493 3 = .ok (.ifCond .eq 10, 3) := by decide +kernel
theorem dJ0_coder_7d493_6 : decode cJ0_coder_7d493 6 = .ok (.aload_n 0, 1) := by decide +kernel
theorem dJ0_coder_7d493_7 : decode cJ0_coder_7d493 7 = .ok (.getfield 15, 3) := by decide +kernel
theorem dJ0_coder_7d493_10 : decode cJ0_coder_7d493 10 = .ok (.goto 4, 3) := by decide +kernel
theorem dJ0_coder_7d493_13 : decode cJ0_coder_7d493 13 = .ok (.iconst 1, 1) := by decide +kernel
theorem dJ0_coder_7d493_14 : decode cJ0_coder_7d493 14 = .ok (.ireturn, 1) := by decide +kernel
theorem dJ0_isLatin1_aae02_0 : decode cJ0_isLatin1_aae02 0 = .ok (.getstatic 38, 3) := by decide +kernel
theorem dJ0_isLatin1_aae02_3 : decode cJ0_isLatin1_aae02 3 = .ok (.ifCond .eq 14, 3) := by decide +kernel
theorem dJ0_isLatin1_aae02_6 : decode cJ0_isLatin1_aae02 6 = .ok (.aload_n 0, 1) := by decide +kernel
theorem dJ0_isLatin1_aae02_7 : decode cJ0_isLatin1_aae02 7 = .ok (.getfield 15, 3) := by decide +kernel
theorem dJ0_isLatin1_aae02_10 : decode cJ0_isLatin1_aae02 10 = .ok (.ifCond .ne 7, 3) := by decide +kernel
theorem dJ0_isLatin1_aae02_13 : decode cJ0_isLatin1_aae02 13 = .ok (.iconst 1, 1) := by decide +kernel
theorem dJ0_isLatin1_aae02_14 : decode cJ0_isLatin1_aae02 14 = .ok (.goto 4, 3) := by decide +kernel
theorem dJ0_isLatin1_aae02_17 : decode cJ0_isLatin1_aae02 17 = .ok (.iconst 0, 1) := by decide +kernel
theorem dJ0_isLatin1_aae02_18 : decode cJ0_isLatin1_aae02 18 = .ok (.ireturn, 1) := by decide +kernel
theorem dJ0_checkIndex_df160_0 : decode cJ0_checkIndex_df160 0 = .ok (.iload_n 0, 1) := by decide +kernel
theorem dJ0_checkIndex_df160_1 : decode cJ0_checkIndex_df160 1 = .ok (.iload_n 1, 1) := by decide +kernel
theorem dJ0_checkIndex_df160_2 : decode cJ0_checkIndex_df160 2 = .ok (.getstatic 1053, 3) := by decide +kernel
theorem dJ0_checkIndex_df160_5 : decode cJ0_checkIndex_df160 5 = .ok (.invokestatic 1059, 3) := by decide +kernel
theorem dJ0_checkIndex_df160_8 : decode cJ0_checkIndex_df160 8 = .ok (.pop, 1) := by decide +kernel
theorem dJ0_checkIndex_df160_9 : decode cJ0_checkIndex_df160 9 = .ok (.return_, 1) := by decide +kernel
theorem dJ0_checkBoundsBeginEnd_23922_0 : decode cJ0_checkBoundsBeginEnd_23922 0 = .ok (.iload_n 0, 1) := by decide +kernel
theorem dJ0_checkBoundsBeginEnd_23922_1 : decode cJ0_checkBoundsBeginEnd_23922 1 = .ok (.iload_n 1, 1) := by decide +kernel
theorem dJ0_checkBoundsBeginEnd_23922_2 : decode cJ0_checkBoundsBeginEnd_23922 2 = .ok (.iload_n 2, 1) := by decide +kernel
theorem dJ0_checkBoundsBeginEnd_23922_3 : decode cJ0_checkBoundsBeginEnd_23922 3 = .ok (.getstatic 1053, 3) := by decide +kernel
theorem dJ0_checkBoundsBeginEnd_23922_6 : decode cJ0_checkBoundsBeginEnd_23922 6 = .ok (.invokestatic 1062, 3) := by decide +kernel
theorem dJ0_checkBoundsBeginEnd_23922_9 : decode cJ0_checkBoundsBeginEnd_23922 9 = .ok (.pop, 1) := by decide +kernel
theorem dJ0_checkBoundsBeginEnd_23922_10 : decode cJ0_checkBoundsBeginEnd_23922 10 = .ok (.return_, 1) := by decide +kernel
theorem dJ1_charAt_3b067_0 : decode cJ1_charAt_3b067 0 = .ok (.iload_n 1, 1) := by decide +kernel
theorem dJ1_charAt_3b067_1 : decode cJ1_charAt_3b067 1 = .ok (.aload_n 0, 1) := by decide +kernel
theorem dJ1_charAt_3b067_2 : decode cJ1_charAt_3b067 2 = .ok (.arraylength, 1) := by decide +kernel
theorem dJ1_charAt_3b067_3 : decode cJ1_charAt_3b067 3 = .ok (.invokestatic 9, 3) := by decide +kernel
theorem dJ1_charAt_3b067_6 : decode cJ1_charAt_3b067 6 = .ok (.aload_n 0, 1) := by decide +kernel
theorem dJ1_charAt_3b067_7 : decode cJ1_charAt_3b067 7 = .ok (.iload_n 1, 1) := by decide +kernel
theorem dJ1_charAt_3b067_8 : decode cJ1_charAt_3b067 8 = .ok (.baload, 1) := by decide +kernel
theorem dJ1_charAt_3b067_9 : decode cJ1_charAt_3b067 9 = .ok (.sipush 255, 3) := by decide +kernel
theorem dJ1_charAt_3b067_12 : decode cJ1_charAt_3b067 12 = .ok (.iand, 1) := by decide +kernel
theorem dJ1_charAt_3b067_13 : decode cJ1_charAt_3b067 13 = .ok (.i2c, 1) := by decide +kernel
theorem dJ1_charAt_3b067_14 : decode cJ1_charAt_3b067 14 = .ok (.ireturn, 1) := by decide +kernel
theorem dJ1_canEncode_9a6ad_0 : decode cJ1_canEncode_9a6ad 0 = .ok (.iload_n 0, 1) := by decide +kernel
theorem dJ1_canEncode_9a6ad_1 : decode cJ1_canEncode_9a6ad 1 = .ok (.ifCond .lt 14, 3) := by decide +kernel
theorem dJ1_canEncode_9a6ad_4 : decode cJ1_canEncode_9a6ad 4 = .ok (.iload_n 0, 1) := by decide +kernel
theorem dJ1_canEncode_9a6ad_5 : decode cJ1_canEncode_9a6ad 5 = .ok (.sipush 255, 3) := by decide +kernel
theorem dJ1_canEncode_9a6ad_8 : decode cJ1_canEncode_9a6ad 8 = .ok (.if_icmp .gt 7, 3) := by decide +kernel
theorem dJ1_canEncode_9a6ad_11 : decode cJ1_canEncode_9a6ad 11 = .ok (.iconst 1, 1) := by decide +kernel
theorem dJ1_canEncode_9a6ad_12 : decode cJ1_canEncode_9a6ad 12 = .ok (.goto 4, 3) := by decide +kernel
theorem dJ1_canEncode_9a6ad_15 : decode cJ1_canEncode_9a6ad 15 = .ok (.iconst 0, 1) := by decide +kernel
theorem dJ1_canEncode_9a6ad_16 : decode cJ1_canEncode_9a6ad 16 = .ok (.ireturn, 1) := by decide +kernel
theorem dJ1_indexOf_4cfef_0 : decode cJ1_indexOf_4cfef 0 = .ok (.iload_n 1, 1) := by decide +kernel
theorem dJ1_indexOf_4cfef_1 : decode cJ1_indexOf_4cfef 1 = .ok (.invokestatic 88, 3) := by decide +kernel
theorem dJ1_indexOf_4cfef_4 : decode cJ1_indexOf_4cfef 4 = .ok (.ifCond .ne 5, 3) := by decide +kernel
theorem dJ1_indexOf_4cfef_7 : decode cJ1_indexOf_4cfef 7 = .ok (.iconst (-1), 1) := by decide +kernel
theorem dJ1_indexOf_4cfef_8 : decode cJ1_indexOf_4cfef 8 = .ok (.ireturn, 1) := by decide +kernel
theorem dJ1_indexOf_4cfef_9 : decode cJ1_indexOf_4cfef 9 = .ok (.iload_n 2, 1) := by decide +kernel
theorem dJ1_indexOf_4cfef_10 : decode cJ1_indexOf_4cfef 10 = .ok (.iconst 0, 1) := by decide +kernel
theorem dJ1_indexOf_4cfef_11 : decode cJ1_indexOf_4cfef 11 = .ok (.invokestatic 92, 3) := by decide +kernel
theorem dJ1_indexOf_4cfef_14 : decode cJ1_indexOf_4cfef 14 = .ok (.istore_n 2, 1) := by decide +kernel
theorem dJ1_indexOf_4cfef_15 : decode cJ1_indexOf_4cfef 15 = .ok (.iload_n 3, 1) := by decide +kernel
theorem dJ1_indexOf_4cfef_16 : decode cJ1_indexOf_4cfef 16 = .ok (.aload_n 0, 1) := by decide +kernel
theorem dJ1_indexOf_4cfef_17 : decode cJ1_indexOf_4cfef 17 = .ok (.arraylength, 1) := by decide +kernel
theorem dJ1_indexOf_4cfef_18 : decode cJ1_indexOf_4cfef 18 = .ok (.invokestatic 38, 3) := by decide +kernel
theorem dJ1_indexOf_4cfef_21 : decode cJ1_indexOf_4cfef 21 = .ok (.istore_n 3, 1) := by decide +kernel
theorem dJ1_indexOf_4cfef_22 : decode cJ1_indexOf_4cfef 22 = .ok (.iload_n 2, 1) := by decide +kernel
theorem dJ1_indexOf_4cfef_23 : decode cJ1_indexOf_4cfef 23 = .ok (.iload_n 3, 1) := by decide +kernel
theorem dJ1_indexOf_4cfef_24 : decode cJ1_indexOf_4cfef 24 = .ok (.if_icmp .lt 5, 3) := by decide +kernel
theorem dJ1_indexOf_4cfef_27 : decode cJ1_indexOf_4cfef 27 = .ok (.iconst (-1), 1) := by decide +kernel
theorem dJ1_indexOf_4cfef_28 : decode cJ1_indexOf_4cfef 28 = .ok (.ireturn, 1) := by decide +kernel
theorem dJ1_indexOf_4cfef_29 : decode cJ1_indexOf_4cfef 29 = .ok (.aload_n 0, 1) := by decide +kernel
theorem dJ1_indexOf_4cfef_30 : decode cJ1_indexOf_4cfef 30 = .ok (.iload_n 1, 1) := by decide +kernel
theorem dJ1_indexOf_4cfef_31 : decode cJ1_indexOf_4cfef 31 = .ok (.iload_n 2, 1) := by decide +kernel
theorem dJ1_indexOf_4cfef_32 : decode cJ1_indexOf_4cfef 32 = .ok (.iload_n 3, 1) := by decide +kernel
theorem dJ1_indexOf_4cfef_33 : decode cJ1_indexOf_4cfef 33 = .ok (.invokestatic 95, 3) := by decide +kernel
theorem dJ1_indexOf_4cfef_36 : decode cJ1_indexOf_4cfef 36 = .ok (.ireturn, 1) := by decide +kernel
theorem dJ1_indexOfChar_4cfef_0 : decode cJ1_indexOfChar_4cfef 0 = .ok (.iload_n 1, 1) := by decide +kernel
theorem dJ1_indexOfChar_4cfef_1 : decode cJ1_indexOfChar_4cfef 1 = .ok (.i2b, 1) := by decide +kernel
theorem dJ1_indexOfChar_4cfef_2 : decode cJ1_indexOfChar_4cfef 2 = .ok (.istore 4, 2) := by decide +kernel
theorem dJ1_indexOfChar_4cfef_4 : decode cJ1_indexOfChar_4cfef 4 = .ok (.iload_n 2, 1) := by decide +kernel
theorem dJ1_indexOfChar_4cfef_5 : decode cJ1_indexOfChar_4cfef 5 = .ok (.istore 5, 2) := by decide +kernel
theorem dJ1_indexOfChar_4cfef_7 : decode cJ1_indexOfChar_4cfef 7 = .ok (.iload 5, 2) := by decide +kernel
theorem dJ1_indexOfChar_4cfef_9 : decode cJ1_indexOfChar_4cfef 9 = .ok (.iload_n 3, 1) := by decide +kernel
theorem dJ1_indexOfChar_4cfef_10 : decode cJ1_indexOfChar_4cfef 10 = .ok (.if_icmp .ge 21, 3) := by decide +kernel
theorem dJ1_indexOfChar_4cfef_13 : decode cJ1_indexOfChar_4cfef 13 = .ok (.aload_n 0, 1) := by decide +kernel
theorem dJ1_indexOfChar_4cfef_14 : decode cJ1_indexOfChar_4cfef 14 = .ok (.iload 5, 2) := by decide +kernel
theorem dJ1_indexOfChar_4cfef_16 : decode cJ1_indexOfChar_4cfef 16 = .ok (.baload, 1) := by decide +kernel
theorem dJ1_indexOfChar_4cfef_17 : decode cJ1_indexOfChar_4cfef 17 = .ok (.iload 4, 2) := by decide +kernel
theorem dJ1_indexOfChar_4cfef_19 : decode cJ1_indexOfChar_4cfef 19 = .ok (.if_icmp .ne 6, 3) := by decide +kernel
theorem dJ1_indexOfChar_4cfef_22 : decode cJ1_indexOfChar_4cfef 22 = .ok (.iload 5, 2) := by decide +kernel
theorem dJ1_indexOfChar_4cfef_24 : decode cJ1_indexOfChar_4cfef 24 = .ok (.ireturn, 1) := by decide +kernel
theorem dJ1_indexOfChar_4cfef_25 : decode cJ1_indexOfChar_4cfef 25 = .ok (.iinc 5 1, 3) := by decide +kernel
theorem dJ1_indexOfChar_4cfef_28 : decode cJ1_indexOfChar_4cfef 28 = .ok (.goto (-21), 3) := by decide +kernel
theorem dJ1_indexOfChar_4cfef_31 : decode cJ1_indexOfChar_4cfef 31 = .ok (.iconst (-1), 1) := by decide +kernel
theorem dJ1_indexOfChar_4cfef_32 : decode cJ1_indexOfChar_4cfef 32 = .ok (.ireturn, 1) := by decide +kernel
theorem dJ2_getChar_3b067_0 : decode cJ2_getChar_3b067 0 = .ok (.getstatic 44, 3) := by decide +kernel
theorem dJ2_getChar_3b067_3 : decode cJ2_getChar_3b067 3 = .ok (.ifCond .ne 25, 3) := by decide +kernel
theorem dJ2_getChar_3b067_6 : decode cJ2_getChar_3b067 6 = .ok (.iload_n 1, 1) := by decide +kernel
theorem dJ2_getChar_3b067_7 : decode cJ2_getChar_3b067 7 = .ok (.ifCond .lt 11, 3) := by decide +kernel
theorem dJ2_getChar_3b067_10 : decode cJ2_getChar_3b067 10 = .ok (.iload_n 1, 1) := by decide +kernel
theorem dJ2_getChar_3b067_11 : decode cJ2_getChar_3b067 11 = .ok (.aload_n 0, 1) := by decide +kernel
theorem dJ2_getChar_3b067_12 : decode cJ2_getChar_3b067 12 = .ok (.invokestatic 48, 3) := by decide +kernel
theorem dJ2_getChar_3b067_15 : decode cJ2_getChar_3b067 15 = .ok (.if_icmp .lt 13, 3) := by decide +kernel
theorem dJ2_getChar_3b067_18 : decode cJ2_getChar_3b067 18 = .ok (.new 52, 3) := by decide +kernel
theorem dJ2_getChar_3b067_21 : decode cJ2_getChar_3b067 21 = .ok (.dup, 1) := by decide +kernel
theorem dJ2_getChar_3b067_22 : decode cJ2_getChar_3b067 22 = .ok (.ldc 54, 2) := by decide +kernel
theorem dJ2_getChar_3b067_24 : decode cJ2_getChar_3b067 24 = .ok (.invokespecial 56, 3) := by decide +kernel
theorem dJ2_getChar_3b067_27 : decode cJ2_getChar_3b067 27 = .ok (.athrow, 1) := by decide +kernel
theorem dJ2_getChar_3b067_28 : decode cJ2_getChar_3b067 28 = .ok (.iload_n 1, 1) := by decide +kernel
theorem dJ2_getChar_3b067_29 : decode cJ2_getChar_3b067 29 = .ok (.iconst 1, 1) := by decide +kernel
theorem dJ2_getChar_3b067_30 : decode cJ2_getChar_3b067 30 = .ok (.ishl, 1) := by decide +kernel
theorem dJ2_getChar_3b067_31 : decode cJ2_getChar_3b067 31 = .ok (.istore_n 1, 1) := by decide +kernel
theorem dJ2_getChar_3b067_32 : decode cJ2_getChar_3b067 32 = .ok (.aload_n 0, 1) := by decide +kernel
theorem dJ2_getChar_3b067_33 : decode cJ2_getChar_3b067 33 = .ok (.iload_n 1, 1) := by decide +kernel
theorem dJ2_getChar_3b067_34 : decode cJ2_getChar_3b067 34 = .ok (.iinc 1 1, 3) := by decide +kernel
theorem dJ2_getChar_3b067_37 : decode cJ2_getChar_3b067 37 = .ok (.baload, 1) := by decide +kernel
theorem dJ2_getChar_3b067_38 : decode cJ2_getChar_3b067 38 = .ok (.sipush 255, 3) := by decide +kernel
theorem dJ2_getChar_3b067_41 : decode cJ2_getChar_3b067 41 = .ok (.iand, 1) := by decide +kernel
theorem dJ2_getChar_3b067_42 : decode cJ2_getChar_3b067 42 = .ok (.getstatic 59, 3) := by decide +kernel
theorem dJ2_getChar_3b067_45 : decode cJ2_getChar_3b067 45 = .ok (.ishl, 1) := by decide +kernel
theorem dJ2_getChar_3b067_46 : decode cJ2_getChar_3b067 46 = .ok (.aload_n 0, 1) := by decide +kernel
theorem dJ2_getChar_3b067_47 : decode cJ2_getChar_3b067 47 = .ok (.iload_n 1, 1) := by decide +kernel
theorem dJ2_getChar_3b067_48 : decode cJ2_getChar_3b067 48 = .ok (.baload, 1) := by decide +kernel
theorem dJ2_getChar_3b067_49 : decode cJ2_getChar_3b067 49 = .ok (.sipush 255, 3) := by decide +kernel
theorem dJ2_getChar_3b067_52 : decode cJ2_getChar_3b067 52 = .ok (.iand, 1) := by decide +kernel
theorem dJ2_getChar_3b067_53 : decode cJ2_getChar_3b067 53 = .ok (.getstatic 63, 3) := by decide +kernel
theorem dJ2_getChar_3b067_56 : decode cJ2_getChar_3b067 56 = .ok (.ishl, 1) := by decide +kernel
theorem dJ2_getChar_3b067_57 : decode cJ2_getChar_3b067 57 = .ok (.ior, 1) := by decide +kernel
theorem dJ2_getChar_3b067_58 : decode cJ2_getChar_3b067 58 = .ok (.i2c, 1) := by decide +kernel
theorem dJ2_getChar_3b067_59 : decode cJ2_getChar_3b067 59 = .ok (.ireturn, 1) := by decide +kernel
theorem dJ2_length_9d52b_0 : decode cJ2_length_9d52b 0 = .ok (.aload_n 0, 1) := by decide +kernel
theorem dJ2_length_9d52b_1 : decode cJ2_length_9d52b 1 = .ok (.arraylength, 1) := by decide +kernel
theorem dJ2_length_9d52b_2 : decode cJ2_length_9d52b 2 = .ok (.iconst 1, 1) := by decide +kernel
theorem dJ2_length_9d52b_3 : decode cJ2_length_9d52b 3 = .ok (.ishr, 1) := by decide +kernel
theorem dJ2_length_9d52b_4 : decode cJ2_length_9d52b 4 = .ok (.ireturn, 1) := by decide +kernel
theorem dJ2_indexOf_4cfef_0 : decode cJ2_indexOf_4cfef 0 = .ok (.iload_n 2, 1) := by decide +kernel
theorem dJ2_indexOf_4cfef_1 : decode cJ2_indexOf_4cfef 1 = .ok (.iconst 0, 1) := by decide +kernel
theorem dJ2_indexOf_4cfef_2 : decode cJ2_indexOf_4cfef 2 = .ok (.invokestatic 224, 3) := by decide +kernel
theorem dJ2_indexOf_4cfef_5 : decode cJ2_indexOf_4cfef 5 = .ok (.istore_n 2, 1) := by decide +kernel
theorem dJ2_indexOf_4cfef_6 : decode cJ2_indexOf_4cfef 6 = .ok (.iload_n 3, 1) := by decide +kernel
theorem dJ2_indexOf_4cfef_7 : decode cJ2_indexOf_4cfef 7 = .ok (.aload_n 0, 1) := by decide +kernel
theorem dJ2_indexOf_4cfef_8 : decode cJ2_indexOf_4cfef 8 = .ok (.arraylength, 1) := by decide +kernel
theorem dJ2_indexOf_4cfef_9 : decode cJ2_indexOf_4cfef 9 = .ok (.iconst 1, 1) := by decide +kernel
theorem dJ2_indexOf_4cfef_10 : decode cJ2_indexOf_4cfef 10 = .ok (.ishr, 1) := by decide +kernel
theorem dJ2_indexOf_4cfef_11 : decode cJ2_indexOf_4cfef 11 = .ok (.invokestatic 183, 3) := by decide +kernel
theorem dJ2_indexOf_4cfef_14 : decode cJ2_indexOf_4cfef 14 = .ok (.istore_n 3, 1) := by decide +kernel
theorem dJ2_indexOf_4cfef_15 : decode cJ2_indexOf_4cfef 15 = .ok (.iload_n 2, 1) := by decide +kernel
theorem dJ2_indexOf_4cfef_16 : decode cJ2_indexOf_4cfef 16 = .ok (.iload_n 3, 1) := by decide +kernel
theorem dJ2_indexOf_4cfef_17 : decode cJ2_indexOf_4cfef 17 = .ok (.if_icmp .lt 5, 3) := by decide +kernel
theorem dJ2_indexOf_4cfef_20 : decode cJ2_indexOf_4cfef 20 = .ok (.iconst (-1), 1) := by decide +kernel
theorem dJ2_indexOf_4cfef_21 : decode cJ2_indexOf_4cfef 21 = .ok (.ireturn, 1) := by decide +kernel
theorem dJ2_indexOf_4cfef_22 : decode cJ2_indexOf_4cfef 22 = .ok (.iload_n 1, 1) := by decide +kernel
theorem dJ2_indexOf_4cfef_23 : decode cJ2_indexOf_4cfef 23 = .ok (.ldc 227, 2) := by decide +kernel
theorem dJ2_indexOf_4cfef_25 : decode cJ2_indexOf_4cfef 25 = .ok (.if_icmp .ge 11, 3) := by decide +kernel
theorem dJ2_indexOf_4cfef_28 : decode cJ2_indexOf_4cfef 28 = .ok (.aload_n 0, 1) := by decide +kernel
theorem dJ2_indexOf_4cfef_29 : decode cJ2_indexOf_4cfef 29 = .ok (.iload_n 1, 1) := by decide +kernel
theorem dJ2_indexOf_4cfef_30 : decode cJ2_indexOf_4cfef 30 = .ok (.iload_n 2, 1) := by decide +kernel
theorem dJ2_indexOf_4cfef_31 : decode cJ2_indexOf_4cfef 31 = .ok (.iload_n 3, 1) := by decide +kernel
theorem dJ2_indexOf_4cfef_32 : decode cJ2_indexOf_4cfef 32 = .ok (.invokestatic 228, 3) := by decide +kernel
theorem dJ2_indexOf_4cfef_35 : decode cJ2_indexOf_4cfef 35 = .ok (.ireturn, 1) := by decide +kernel
theorem dJ2_indexOf_4cfef_36 : decode cJ2_indexOf_4cfef 36 = .ok (.aload_n 0, 1) := by decide +kernel
theorem dJ2_indexOf_4cfef_37 : decode cJ2_indexOf_4cfef 37 = .ok (.iload_n 1, 1) := by decide +kernel
theorem dJ2_indexOf_4cfef_38 : decode cJ2_indexOf_4cfef 38 = .ok (.iload_n 2, 1) := by decide +kernel
theorem dJ2_indexOf_4cfef_39 : decode cJ2_indexOf_4cfef 39 = .ok (.iload_n 3, 1) := by decide +kernel
theorem dJ2_indexOf_4cfef_40 : decode cJ2_indexOf_4cfef 40 = .ok (.invokestatic 232, 3) := by decide +kernel
theorem dJ2_indexOf_4cfef_43 : decode cJ2_indexOf_4cfef 43 = .ok (.ireturn, 1) := by decide +kernel
theorem dJ2_indexOfChar_4cfef_0 : decode cJ2_indexOfChar_4cfef 0 = .ok (.iload_n 2, 1) := by decide +kernel
theorem dJ2_indexOfChar_4cfef_1 : decode cJ2_indexOfChar_4cfef 1 = .ok (.iload_n 3, 1) := by decide +kernel
theorem dJ2_indexOfChar_4cfef_2 : decode cJ2_indexOfChar_4cfef 2 = .ok (.aload_n 0, 1) := by decide +kernel
theorem dJ2_indexOfChar_4cfef_3 : decode cJ2_indexOfChar_4cfef 3 = .ok (.invokestatic 96, 3) := by decide +kernel
theorem dJ2_indexOfChar_4cfef_6 : decode cJ2_indexOfChar_4cfef 6 = .ok (.aload_n 0, 1) := by decide +kernel
theorem dJ2_indexOfChar_4cfef_7 : decode cJ2_indexOfChar_4cfef 7 = .ok (.iload_n 1, 1) := by decide +kernel
theorem dJ2_indexOfChar_4cfef_8 : decode cJ2_indexOfChar_4cfef 8 = .ok (.iload_n 2, 1) := by decide +kernel
theorem dJ2_indexOfChar_4cfef_9 : decode cJ2_indexOfChar_4cfef 9 = .ok (.iload_n 3, 1) := by decide +kernel
theorem dJ2_indexOfChar_4cfef_10 : decode cJ2_indexOfChar_4cfef 10 = .ok (.invokestatic 244, 3) := by decide +kernel
theorem dJ2_indexOfChar_4cfef_13 : decode cJ2_indexOfChar_4cfef 13 = .ok (.ireturn, 1) := by decide +kernel
theorem dJ2_indexOfCharUnsafe_4cfef_0 : decode cJ2_indexOfCharUnsafe_4cfef 0 = .ok (.iload_n 2, 1) := by decide +kernel
theorem dJ2_indexOfCharUnsafe_4cfef_1 : decode cJ2_indexOfCharUnsafe_4cfef 1 = .ok (.istore 4, 2) := by decide +kernel
theorem dJ2_indexOfCharUnsafe_4cfef_3 : decode cJ2_indexOfCharUnsafe_4cfef 3 = .ok (.iload 4, 2) := by decide +kernel
theorem dJ2_indexOfCharUnsafe_4cfef_5 : decode cJ2_indexOfCharUnsafe_4cfef 5 = .ok (.iload_n 3, 1) := by decide +kernel
theorem dJ2_indexOfCharUnsafe_4cfef_6 : decode cJ2_indexOfCharUnsafe_4cfef 6 = .ok (.if_icmp .ge 22, 3) := by decide +kernel
theorem dJ2_indexOfCharUnsafe_4cfef_9 : decode cJ2_indexOfCharUnsafe_4cfef 9 = .ok (.aload_n 0, 1) := by decide +kernel
theorem dJ2_indexOfCharUnsafe_4cfef_10 : decode cJ2_indexOfCharUnsafe_4cfef 10 = .ok (.iload 4, 2) := by decide +kernel
theorem dJ2_indexOfCharUnsafe_4cfef_12 : decode cJ2_indexOfCharUnsafe_4cfef 12 = .ok (.invokestatic 71, 3) := by decide +kernel
theorem dJ2_indexOfCharUnsafe_4cfef_15 : decode cJ2_indexOfCharUnsafe_4cfef 15 = .ok (.iload_n 1, 1) := by decide +kernel
theorem dJ2_indexOfCharUnsafe_4cfef_16 : decode cJ2_indexOfCharUnsafe_4cfef 16 = .ok (.if_icmp .ne 6, 3) := by decide +kernel
theorem dJ2_indexOfCharUnsafe_4cfef_19 : decode cJ2_indexOfCharUnsafe_4cfef 19 = .ok (.iload 4, 2) := by decide +kernel
theorem dJ2_indexOfCharUnsafe_4cfef_21 : decode cJ2_indexOfCharUnsafe_4cfef 21 = .ok (.ireturn, 1) := by decide +kernel
theorem dJ2_indexOfCharUnsafe_4cfef_22 : decode cJ2_indexOfCharUnsafe_4cfef 22 = .ok (.iinc 4 1, 3) := by decide +kernel
theorem dJ2_indexOfCharUnsafe_4cfef_25 : decode cJ2_indexOfCharUnsafe_4cfef 25 = .ok (.goto (-22), 3) := by decide +kernel
theorem dJ2_indexOfCharUnsafe_4cfef_28 : decode cJ2_indexOfCharUnsafe_4cfef 28 = .ok (.iconst (-1), 1) := by decide +kernel
theorem dJ2_indexOfCharUnsafe_4cfef_29 : decode cJ2_indexOfCharUnsafe_4cfef 29 = .ok (.ireturn, 1) := by decide +kernel
theorem dJ2_indexOfSupplementary_4cfef_0 : decode cJ2_indexOfSupplementary_4cfef 0 = .ok (.iload_n 1, 1) := by decide +kernel
theorem dJ2_indexOfSupplementary_4cfef_1 : decode cJ2_indexOfSupplementary_4cfef 1 = .ok (.invokestatic 164, 3) := by decide +kernel
theorem dJ2_indexOfSupplementary_4cfef_4 : decode cJ2_indexOfSupplementary_4cfef 4 = .ok (.ifCond .eq 65, 3) := by decide +kernel
theorem dJ2_indexOfSupplementary_4cfef_7 : decode cJ2_indexOfSupplementary_4cfef 7 = .ok (.iload_n 1, 1) := by decide +kernel
theorem dJ2_indexOfSupplementary_4cfef_8 : decode cJ2_indexOfSupplementary_4cfef 8 = .ok (.invokestatic 157, 3) := by decide +kernel
theorem dJ2_indexOfSupplementary_4cfef_11 : decode cJ2_indexOfSupplementary_4cfef 11 = .ok (.istore 4, 2) := by decide +kernel
theorem dJ2_indexOfSupplementary_4cfef_13 : decode cJ2_indexOfSupplementary_4cfef 13 = .ok (.iload_n 1, 1) := by decide +kernel
theorem dJ2_indexOfSupplementary_4cfef_14 : decode cJ2_indexOfSupplementary_4cfef 14 = .ok (.invokestatic 161, 3) := by decide +kernel
theorem dJ2_indexOfSupplementary_4cfef_17 : decode cJ2_indexOfSupplementary_4cfef 17 = .ok (.istore 5, 2) := by decide +kernel
theorem dJ2_indexOfSupplementary_4cfef_19 : decode cJ2_indexOfSupplementary_4cfef 19 = .ok (.iload_n 2, 1) := by decide +kernel
theorem dJ2_indexOfSupplementary_4cfef_20 : decode cJ2_indexOfSupplementary_4cfef 20 = .ok (.iload_n 3, 1) := by decide +kernel
theorem dJ2_indexOfSupplementary_4cfef_21 : decode cJ2_indexOfSupplementary_4cfef 21 = .ok (.aload_n 0, 1) := by decide +kernel
theorem dJ2_indexOfSupplementary_4cfef_22 : decode cJ2_indexOfSupplementary_4cfef 22 = .ok (.invokestatic 96, 3) := by decide +kernel
theorem dJ2_indexOfSupplementary_4cfef_25 : decode cJ2_indexOfSupplementary_4cfef 25 = .ok (.iload_n 2, 1) := by decide +kernel
theorem dJ2_indexOfSupplementary_4cfef_26 : decode cJ2_indexOfSupplementary_4cfef 26 = .ok (.istore 6, 2) := by decide +kernel
theorem dJ2_indexOfSupplementary_4cfef_28 : decode cJ2_indexOfSupplementary_4cfef 28 = .ok (.iload 6, 2) := by decide +kernel
theorem dJ2_indexOfSupplementary_4cfef_30 : decode cJ2_indexOfSupplementary_4cfef 30 = .ok (.iload_n 3, 1) := by decide +kernel
theorem dJ2_indexOfSupplementary_4cfef_31 : decode cJ2_indexOfSupplementary_4cfef 31 = .ok (.iconst 1, 1) := by decide +kernel
theorem dJ2_indexOfSupplementary_4cfef_32 : decode cJ2_indexOfSupplementary_4cfef 32 = .ok (.isub, 1) := by decide +kernel
theorem dJ2_indexOfSupplementary_4cfef_33 : decode cJ2_indexOfSupplementary_4cfef 33 = .ok (.if_icmp .ge 36, 3) := by decide +kernel
theorem dJ2_indexOfSupplementary_4cfef_36 : decode cJ2_indexOfSupplementary_4cfef 36 = .ok (.aload_n 0, 1) := by decide +kernel
theorem dJ2_indexOfSupplementary_4cfef_37 : decode cJ2_indexOfSupplementary_4cfef 37 = .ok (.iload 6, 2) := by decide +kernel
theorem dJ2_indexOfSupplementary_4cfef_39 : decode cJ2_indexOfSupplementary_4cfef 39 = .ok (.invokestatic 71, 3) := by decide +kernel
theorem dJ2_indexOfSupplementary_4cfef_42 : decode cJ2_indexOfSupplementary_4cfef 42 = .ok (.iload 4, 2) := by decide +kernel
theorem dJ2_indexOfSupplementary_4cfef_44 : decode cJ2_indexOfSupplementary_4cfef 44 = .ok (.if_icmp .ne 19, 3) := by decide +kernel
theorem dJ2_indexOfSupplementary_4cfef_47 : decode cJ2_indexOfSupplementary_4cfef 47 = .ok (.aload_n 0, 1) := by decide +kernel
theorem dJ2_indexOfSupplementary_4cfef_48 : decode cJ2_indexOfSupplementary_4cfef 48 = .ok (.iload 6, 2) := by decide +kernel
theorem dJ2_indexOfSupplementary_4cfef_50 : decode cJ2_indexOfSupplementary_4cfef 50 = .ok (.iconst 1, 1) := by decide +kernel
theorem dJ2_indexOfSupplementary_4cfef_51 : decode cJ2_indexOfSupplementary_4cfef 51 = .ok (.iadd, 1) := by decide +kernel
theorem dJ2_indexOfSupplementary_4cfef_52 : decode cJ2_indexOfSupplementary_4cfef 52 = .ok (.invokestatic 71, 3) := by decide +kernel
theorem dJ2_indexOfSupplementary_4cfef_55 : decode cJ2_indexOfSupplementary_4cfef 55 = .ok (.iload 5, 2) := by decide +kernel
theorem dJ2_indexOfSupplementary_4cfef_57 : decode cJ2_indexOfSupplementary_4cfef 57 = .ok (.if_icmp .ne 6, 3) := by decide +kernel
theorem dJ2_indexOfSupplementary_4cfef_60 : decode cJ2_indexOfSupplementary_4cfef 60 = .ok (.iload 6, 2) := by decide +kernel
theorem dJ2_indexOfSupplementary_4cfef_62 : decode cJ2_indexOfSupplementary_4cfef 62 = .ok (.ireturn, 1) := by decide +kernel
theorem dJ2_indexOfSupplementary_4cfef_63 : decode cJ2_indexOfSupplementary_4cfef 63 = .ok (.iinc 6 1, 3) := by decide +kernel
theorem dJ2_indexOfSupplementary_4cfef_66 : decode cJ2_indexOfSupplementary_4cfef 66 = .ok (.goto (-38), 3) := by decide +kernel
theorem dJ2_indexOfSupplementary_4cfef_69 : decode cJ2_indexOfSupplementary_4cfef 69 = .ok (.iconst (-1), 1) := by decide +kernel
theorem dJ2_indexOfSupplementary_4cfef_70 : decode cJ2_indexOfSupplementary_4cfef 70 = .ok (.ireturn, 1) := by decide +kernel
theorem dJ2_charAt_3b067_0 : decode cJ2_charAt_3b067 0 = .ok (.iload_n 1, 1) := by decide +kernel
theorem dJ2_charAt_3b067_1 : decode cJ2_charAt_3b067 1 = .ok (.aload_n 0, 1) := by decide +kernel
theorem dJ2_charAt_3b067_2 : decode cJ2_charAt_3b067 2 = .ok (.invokestatic 67, 3) := by decide +kernel
theorem dJ2_charAt_3b067_5 : decode cJ2_charAt_3b067 5 = .ok (.aload_n 0, 1) := by decide +kernel
theorem dJ2_charAt_3b067_6 : decode cJ2_charAt_3b067 6 = .ok (.iload_n 1, 1) := by decide +kernel
theorem dJ2_charAt_3b067_7 : decode cJ2_charAt_3b067 7 = .ok (.invokestatic 71, 3) := by decide +kernel
theorem dJ2_charAt_3b067_10 : decode cJ2_charAt_3b067 10 = .ok (.ireturn, 1) := by decide +kernel
theorem dJ2_checkIndex_2214a_0 : decode cJ2_checkIndex_2214a 0 = .ok (.iload_n 0, 1) := by decide +kernel
theorem dJ2_checkIndex_2214a_1 : decode cJ2_checkIndex_2214a 1 = .ok (.aload_n 1, 1) := by decide +kernel
theorem dJ2_checkIndex_2214a_2 : decode cJ2_checkIndex_2214a 2 = .ok (.invokestatic 48, 3) := by decide +kernel
theorem dJ2_checkIndex_2214a_5 : decode cJ2_checkIndex_2214a 5 = .ok (.invokestatic 414, 3) := by decide +kernel
theorem dJ2_checkIndex_2214a_8 : decode cJ2_checkIndex_2214a 8 = .ok (.return_, 1) := by decide +kernel
theorem dJ2_checkBoundsBeginEnd_d044e_0 : decode cJ2_checkBoundsBeginEnd_d044e 0 = .ok (.iload_n 0, 1) := by decide +kernel
theorem dJ2_checkBoundsBeginEnd_d044e_1 : decode cJ2_checkBoundsBeginEnd_d044e 1 = .ok (.iload_n 1, 1) := by decide +kernel
theorem dJ2_checkBoundsBeginEnd_d044e_2 : decode cJ2_checkBoundsBeginEnd_d044e 2 = .ok (.aload_n 2, 1) := by decide +kernel
theorem dJ2_checkBoundsBeginEnd_d044e_3 : decode cJ2_checkBoundsBeginEnd_d044e 3 = .ok (.invokestatic 48, 3) := by decide +kernel
theorem dJ2_checkBoundsBeginEnd_d044e_6 : decode cJ2_checkBoundsBeginEnd_d044e 6 = .ok (.invokestatic 241, 3) := by decide +kernel
theorem dJ2_checkBoundsBeginEnd_d044e_9 : decode cJ2_checkBoundsBeginEnd_d044e 9 = .ok (.return_, 1) := by decide +kernel
theorem dJ7_fill_d0a16_0 : decode cJ7_fill_d0a16 0 = .ok (.iconst 0, 1) := by decide +kernel
theorem dJ7_fill_d0a16_1 : decode cJ7_fill_d0a16 1 = .ok (.istore_n 3, 1) := by decide +kernel
theorem dJ7_fill_d0a16_2 : decode cJ7_fill_d0a16 2 = .ok (.aload_n 0, 1) := by decide +kernel
theorem dJ7_fill_d0a16_3 : decode cJ7_fill_d0a16 3 = .ok (.arraylength, 1) := by decide +kernel
theorem dJ7_fill_d0a16_4 : decode cJ7_fill_d0a16 4 = .ok (.istore 4, 2) := by decide +kernel
theorem dJ7_fill_d0a16_6 : decode cJ7_fill_d0a16 6 = .ok (.iload_n 3, 1) := by decide +kernel
theorem dJ7_fill_d0a16_7 : decode cJ7_fill_d0a16 7 = .ok (.iload 4, 2) := by decide +kernel
theorem dJ7_fill_d0a16_9 : decode cJ7_fill_d0a16 9 = .ok (.if_icmp .ge 13, 3) := by decide +kernel
theorem dJ7_fill_d0a16_12 : decode cJ7_fill_d0a16 12 = .ok (.aload_n 0, 1) := by decide +kernel
theorem dJ7_fill_d0a16_13 : decode cJ7_fill_d0a16 13 = .ok (.iload_n 3, 1) := by decide +kernel
theorem dJ7_fill_d0a16_14 : decode cJ7_fill_d0a16 14 = .ok (.lload_n 1, 1) := by decide +kernel
theorem dJ7_fill_d0a16_15 : decode cJ7_fill_d0a16 15 = .ok (.lastore, 1) := by decide +kernel
theorem dJ7_fill_d0a16_16 : decode cJ7_fill_d0a16 16 = .ok (.iinc 3 1, 3) := by decide +kernel
theorem dJ7_fill_d0a16_19 : decode cJ7_fill_d0a16 19 = .ok (.goto (-13), 3) := by decide +kernel
theorem dJ7_fill_d0a16_22 : decode cJ7_fill_d0a16 22 = .ok (.return_, 1) := by decide +kernel
theorem dJ7_fill_53178_0 : decode cJ7_fill_53178 0 = .ok (.iconst 0, 1) := by decide +kernel
theorem dJ7_fill_53178_1 : decode cJ7_fill_53178 1 = .ok (.istore_n 2, 1) := by decide +kernel
theorem dJ7_fill_53178_2 : decode cJ7_fill_53178 2 = .ok (.aload_n 0, 1) := by decide +kernel
theorem dJ7_fill_53178_3 : decode cJ7_fill_53178 3 = .ok (.arraylength, 1) := by decide +kernel
theorem dJ7_fill_53178_4 : decode cJ7_fill_53178 4 = .ok (.istore_n 3, 1) := by decide +kernel
theorem dJ7_fill_53178_5 : decode cJ7_fill_53178 5 = .ok (.iload_n 2, 1) := by decide +kernel
theorem dJ7_fill_53178_6 : decode cJ7_fill_53178 6 = .ok (.iload_n 3, 1) := by decide +kernel
theorem dJ7_fill_53178_7 : decode cJ7_fill_53178 7 = .ok (.if_icmp .ge 13, 3) := by decide +kernel
theorem dJ7_fill_53178_10 : decode cJ7_fill_53178 10 = .ok (.aload_n 0, 1) := by decide +kernel
theorem dJ7_fill_53178_11 : decode cJ7_fill_53178 11 = .ok (.iload_n 2, 1) := by decide +kernel
theorem dJ7_fill_53178_12 : decode cJ7_fill_53178 12 = .ok (.iload_n 1, 1) := by decide +kernel
theorem dJ7_fill_53178_13 : decode cJ7_fill_53178 13 = .ok (.iastore, 1) := by decide +kernel
theorem dJ7_fill_53178_14 : decode cJ7_fill_53178 14 = .ok (.iinc 2 1, 3) := by decide +kernel
theorem dJ7_fill_53178_17 : decode cJ7_fill_53178 17 = .ok (.goto (-12), 3) := by decide +kernel
theorem dJ7_fill_53178_20 : decode cJ7_fill_53178 20 = .ok (.return_, 1) := by decide +kernel
theorem dJ3_checkIndex_8e157_0 : decode cJ3_checkIndex_8e157 0 = .ok (.iload_n 0, 1) := by decide +kernel
theorem dJ3_checkIndex_8e157_1 : decode cJ3_checkIndex_8e157 1 = .ok (.ifCond .lt 8, 3) := by decide +kernel
theorem dJ3_checkIndex_8e157_4 : decode cJ3_checkIndex_8e157 4 = .ok (.iload_n 0, 1) := by decide +kernel
theorem dJ3_checkIndex_8e157_5 : decode cJ3_checkIndex_8e157 5 = .ok (.iload_n 1, 1) := by decide +kernel
theorem dJ3_checkIndex_8e157_6 : decode cJ3_checkIndex_8e157 6 = .ok (.if_icmp .lt 10, 3) := by decide +kernel
theorem dJ3_checkIndex_8e157_9 : decode cJ3_checkIndex_8e157 9 = .ok (.aload_n 2, 1) := by decide +kernel
theorem dJ3_checkIndex_8e157_10 : decode cJ3_checkIndex_8e157 10 = .ok (.iload_n 0, 1) := by decide +kernel
theorem dJ3_checkIndex_8e157_11 : decode cJ3_checkIndex_8e157 11 = .ok (.iload_n 1, 1) := by decide +kernel
theorem dJ3_checkIndex_8e157_12 : decode cJ3_checkIndex_8e157 12 = .ok (.invokestatic 95, 3) := by decide +kernel
theorem dJ3_checkIndex_8e157_15 : decode cJ3_checkIndex_8e157 15 = .ok (.athrow, 1) := by decide +kernel
theorem dJ3_checkIndex_8e157_16 : decode cJ3_checkIndex_8e157 16 = .ok (.iload_n 0, 1) := by decide +kernel
theorem dJ3_checkIndex_8e157_17 : decode cJ3_checkIndex_8e157 17 = .ok (.ireturn, 1) := by decide +kernel
theorem dJ3_checkFromToIndex_8c36e_0 : decode cJ3_checkFromToIndex_8c36e 0 = .ok (.iload_n 0, 1) := by decide +kernel
theorem dJ3_checkFromToIndex_8c36e_1 : decode cJ3_checkFromToIndex_8c36e 1 = .ok (.ifCond .lt 13, 3) := by decide +kernel
theorem dJ3_checkFromToIndex_8c36e_4 : decode cJ3_checkFromToIndex_8c36e 4 = .ok (.iload_n 0, 1) := by decide +kernel
theorem dJ3_checkFromToIndex_8c36e_5 : decode cJ3_checkFromToIndex_8c36e 5 = .ok (.iload_n 1, 1) := by decide +kernel
theorem dJ3_checkFromToIndex_8c36e_6 : decode cJ3_checkFromToIndex_8c36e 6 = .ok (.if_icmp .gt 8, 3) := by decide +kernel
theorem dJ3_checkFromToIndex_8c36e_9 : decode cJ3_checkFromToIndex_8c36e 9 = .ok (.iload_n 1, 1) := by decide +kernel
theorem dJ3_checkFromToIndex_8c36e_10 : decode cJ3_checkFromToIndex_8c36e 10 = .ok (.iload_n 2, 1) := by decide +kernel
theorem dJ3_checkFromToIndex_8c36e_11 : decode cJ3_checkFromToIndex_8c36e 11 = .ok (.if_icmp .le 11, 3) := by decide +kernel
theorem dJ3_checkFromToIndex_8c36e_14 : decode cJ3_checkFromToIndex_8c36e 14 = .ok (.aload_n 3, 1) := by decide +kernel
theorem dJ3_checkFromToIndex_8c36e_15 : decode cJ3_checkFromToIndex_8c36e 15 = .ok (.iload_n 0, 1) := by decide +kernel
theorem dJ3_checkFromToIndex_8c36e_16 : decode cJ3_checkFromToIndex_8c36e 16 = .ok (.iload_n 1, 1) := by decide +kernel
theorem dJ3_checkFromToIndex_8c36e_17 : decode cJ3_checkFromToIndex_8c36e 17 = .ok (.iload_n 2, 1) := by decide +kernel
theorem dJ3_checkFromToIndex_8c36e_18 : decode cJ3_checkFromToIndex_8c36e 18 = .ok (.invokestatic 99, 3) := by decide +kernel
theorem dJ3_checkFromToIndex_8c36e_21 : decode cJ3_checkFromToIndex_8c36e 21 = .ok (.athrow, 1) := by decide +kernel
theorem dJ3_checkFromToIndex_8c36e_22 : decode cJ3_checkFromToIndex_8c36e 22 = .ok (.iload_n 0, 1) := by decide +kernel
theorem dJ3_checkFromToIndex_8c36e_23 : decode cJ3_checkFromToIndex_8c36e 23 = .ok (.ireturn, 1) := by decide +kernel
