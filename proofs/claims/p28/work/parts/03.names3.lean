theorem dX4_init_1 : decode cX4_init 1 = .ok (.invokespecial 3, 3) := by decide +kernel
theorem dX4_init_4 : decode cX4_init 4 = .ok (.aload_n 0, 1) := by decide +kernel
theorem dX4_init_5 : decode cX4_init 5 = .ok (.new 9, 3) := by decide +kernel
theorem dX4_init_8 : decode cX4_init 8 = .ok (.dup, 1) := by decide +kernel
theorem dX4_init_9 : decode cX4_init 9 = .ok (.invokespecial 11, 3) := by decide +kernel
theorem dX4_init_12 : decode cX4_init 12 = .ok (.putfield 12, 3) := by decide +kernel
theorem dX4_init_15 : decode cX4_init 15 = .ok (.aload_n 0, 1) := by decide +kernel
theorem dX4_init_16 : decode cX4_init 16 = .ok (.new 18, 3) := by decide +kernel
theorem dX4_init_19 : decode cX4_init 19 = .ok (.dup, 1) := by decide +kernel
theorem dX4_init_20 : decode cX4_init 20 = .ok (.invokespecial 20, 3) := by decide +kernel
theorem dX4_init_23 : decode cX4_init 23 = .ok (.putfield 21, 3) := by decide +kernel
theorem dX4_init_26 : decode cX4_init 26 = .ok (.aload_n 0, 1) := by decide +kernel
theorem dX4_init_27 : decode cX4_init 27 = .ok (.new 25, 3) := by decide +kernel
theorem dX4_init_30 : decode cX4_init 30 = .ok (.dup, 1) := by decide +kernel
theorem dX4_init_31 : decode cX4_init 31 = .ok (.invokespecial 27, 3) := by decide +kernel
theorem dX4_init_34 : decode cX4_init 34 = .ok (.putfield 28, 3) := by decide +kernel
theorem dX4_init_37 : decode cX4_init 37 = .ok (.aload_n 0, 1) := by decide +kernel
theorem dX4_init_38 : decode cX4_init 38 = .ok (.iconst 4, 1) := by decide +kernel
theorem dX4_init_39 : decode cX4_init 39 = .ok (.putfield 32, 3) := by decide +kernel
theorem dX4_init_42 : decode cX4_init 42 = .ok (.return_, 1) := by decide +kernel
theorem dX4_speedNow_0 : decode cX4_speedNow 0 = .ok (.ldc 36, 2) := by decide +kernel
theorem dX4_speedNow_2 : decode cX4_speedNow 2 = .ok (.aload_n 0, 1) := by decide +kernel
theorem dX4_speedNow_3 : decode cX4_speedNow 3 = .ok (.getfield 32, 3) := by decide +kernel
theorem dX4_speedNow_6 : decode cX4_speedNow 6 = .ok (.i2f, 1) := by decide +kernel
theorem dX4_speedNow_7 : decode cX4_speedNow 7 = .ok (.fmul, 1) := by decide +kernel
theorem dX4_speedNow_8 : decode cX4_speedNow 8 = .ok (.aload_n 0, 1) := by decide +kernel
theorem dX4_speedNow_9 : decode cX4_speedNow 9 = .ok (.getfield 37, 3) := by decide +kernel
theorem dX4_speedNow_12 : decode cX4_speedNow 12 = .ok (.i2f, 1) := by decide +kernel
theorem dX4_speedNow_13 : decode cX4_speedNow 13 = .ok (.ldc 40, 2) := by decide +kernel
theorem dX4_speedNow_15 : decode cX4_speedNow 15 = .ok (.fmul, 1) := by decide +kernel
theorem dX4_speedNow_16 : decode cX4_speedNow 16 = .ok (.fadd, 1) := by decide +kernel
theorem dX4_speedNow_17 : decode cX4_speedNow 17 = .ok (.fstore_n 1, 1) := by decide +kernel
theorem dX4_speedNow_18 : decode cX4_speedNow 18 = .ok (.fload_n 1, 1) := by decide +kernel
theorem dX4_speedNow_19 : decode cX4_speedNow 19 = .ok (.fconst 2, 1) := by decide +kernel
theorem dX4_speedNow_20 : decode cX4_speedNow 20 = .ok (.fcmp .l, 1) := by decide +kernel
theorem dX4_speedNow_21 : decode cX4_speedNow 21 = .ok (.ifCond .le 7, 3) := by decide +kernel
theorem dX4_speedNow_24 : decode cX4_speedNow 24 = .ok (.fconst 2, 1) := by decide +kernel
theorem dX4_speedNow_25 : decode cX4_speedNow 25 = .ok (.goto 4, 3) := by decide +kernel
theorem dX4_speedNow_28 : decode cX4_speedNow 28 = .ok (.fload_n 1, 1) := by decide +kernel
theorem dX4_speedNow_29 : decode cX4_speedNow 29 = .ok (.freturn, 1) := by decide +kernel
set_option maxRecDepth 20000 in
theorem ggX4_run_X4_step : GoodIn wsX4_run wsX4_step := goodIn_r _ [6, 7, 8, 9, 10, 11, 12, 13, 14, 15, 1, 16, 17, 18, 19, 20, 21, 22, 5, 23, 24, 25, 26, 27, 28, 29, 30, 31, 32, 33, 34, 35, 36, 37, 38, 39, 40, 41, 42, 43, 44, 45, 46, 47, 48, 49, 50, 51, 52, 53, 54, 55, 56, 57, 58, 59, 60, 61, 62, 63, 64, 65, 66, 67, 68, 69, 70, 71, 72, 73, 74, 75, 76, 77, 78, 79, 80, 81, 82, 83, 84, 85, 86, 87, 88, 89, 90, 91, 92, 93, 94, 95, 96, 97, 98, 99] (by decide +kernel) (by decide +kernel)
set_option maxRecDepth 20000 in
theorem gX4_run_X4_step : GoodIn wsX4_run (wsV RX4 41 RX4 yX4_step wsX4_step) := goodIn_app (goodIn_of _ (by decide +kernel)) ggX4_run_X4_step
theorem dX4_run_0 : decode cX4_run 0 = .ok (.iconst 0, 1) := by decide +kernel
theorem dX4_run_1 : decode cX4_run 1 = .ok (.istore_n 2, 1) := by decide +kernel
theorem dX4_run_2 : decode cX4_run 2 = .ok (.iload_n 2, 1) := by decide +kernel
theorem dX4_run_3 : decode cX4_run 3 = .ok (.iload_n 1, 1) := by decide +kernel
theorem dX4_run_4 : decode cX4_run 4 = .ok (.if_icmp .ge 20, 3) := by decide +kernel
theorem dX4_run_7 : decode cX4_run 7 = .ok (.aload_n 0, 1) := by decide +kernel
theorem dX4_run_8 : decode cX4_run 8 = .ok (.getfield 37, 3) := by decide +kernel
theorem dX4_run_11 : decode cX4_run 11 = .ok (.ifCond .le 13, 3) := by decide +kernel
theorem dX4_run_14 : decode cX4_run 14 = .ok (.aload_n 0, 1) := by decide +kernel
theorem dX4_run_15 : decode cX4_run 15 = .ok (.invokevirtual 41, 3) := by decide +kernel
theorem dX4_run_18 : decode cX4_run 18 = .ok (.iinc 2 1, 3) := by decide +kernel
theorem dX4_run_21 : decode cX4_run 21 = .ok (.goto (-19), 3) := by decide +kernel
theorem dX4_run_24 : decode cX4_run 24 = .ok (.return_, 1) := by decide +kernel
set_option maxRecDepth 20000 in
theorem ggX4_step_X4_speedNow : GoodIn wsX4_step wsX4_speedNow := goodIn_r _ [19, 20, 21, 10, 22, 72, 73, 74, 75, 76, 77, 78, 79, 80, 81, 82] (by decide +kernel) (by decide +kernel)
set_option maxRecDepth 20000 in
theorem gX4_step_X4_speedNow : GoodIn wsX4_step (wsV RX4 50 RX4 yX4_speedNow wsX4_speedNow) := goodIn_app (goodIn_of _ (by decide +kernel)) ggX4_step_X4_speedNow
set_option maxRecDepth 20000 in
theorem ggX4_step_X0_hasPin : GoodIn wsX4_step wsX0_hasPin := goodIn_r _ [27, 28, 29, 30, 26, 31, 89, 90] (by decide +kernel) (by decide +kernel)
set_option maxRecDepth 20000 in
theorem gX4_step_X0_hasPin : GoodIn wsX4_step (wsV RX4 70 RX0 yX0_hasPin wsX0_hasPin) := goodIn_app (goodIn_of _ (by decide +kernel)) ggX4_step_X0_hasPin
set_option maxRecDepth 20000 in
theorem ggX4_step_X4_pluck : GoodIn wsX4_step wsX4_pluck := goodIn_r _ [35, 5, 4, 36, 37, 38, 1, 8, 9, 3, 39, 40, 41, 42, 43, 44, 45, 46, 47, 48, 49, 50, 51, 52, 53, 54, 55, 56, 57, 58, 59, 60, 61, 62, 63, 64, 65, 26, 66, 67, 28, 68, 69, 70, 71, 29, 30, 31, 72, 73, 74, 75, 76, 77, 78, 79, 80, 81, 82, 83, 84, 85, 86, 87, 88, 91, 92, 93, 94, 95, 89, 90] (by decide +kernel) (by decide +kernel)
set_option maxRecDepth 20000 in
theorem gX4_step_X4_pluck : GoodIn wsX4_step (wsV RX4 74 RX4 yX4_pluck wsX4_pluck) := goodIn_app (goodIn_of _ (by decide +kernel)) ggX4_step_X4_pluck
theorem dX4_step_0 : decode cX4_step 0 = .ok (.aload_n 0, 1) := by decide +kernel
theorem dX4_step_1 : decode cX4_step 1 = .ok (.dup, 1) := by decide +kernel
theorem dX4_step_2 : decode cX4_step 2 = .ok (.getfield 44, 3) := by decide +kernel
theorem dX4_step_5 : decode cX4_step 5 = .ok (.ldc2_w 48, 3) := by decide +kernel
theorem dX4_step_8 : decode cX4_step 8 = .ok (.aload_n 0, 1) := by decide +kernel
theorem dX4_step_9 : decode cX4_step 9 = .ok (.invokevirtual 50, 3) := by decide +kernel
theorem dX4_step_12 : decode cX4_step 12 = .ok (.f2d, 1) := by decide +kernel
theorem dX4_step_13 : decode cX4_step 13 = .ok (.ddiv, 1) := by decide +kernel
theorem dX4_step_14 : decode cX4_step 14 = .ok (.dadd, 1) := by decide +kernel
theorem dX4_step_15 : decode cX4_step 15 = .ok (.putfield 44, 3) := by decide +kernel
theorem dX4_step_18 : decode cX4_step 18 = .ok (.aload_n 0, 1) := by decide +kernel
theorem dX4_step_19 : decode cX4_step 19 = .ok (.aload_n 0, 1) := by decide +kernel
theorem dX4_step_20 : decode cX4_step 20 = .ok (.getfield 54, 3) := by decide +kernel
theorem dX4_step_23 : decode cX4_step 23 = .ok (.iconst 1, 1) := by decide +kernel
theorem dX4_step_24 : decode cX4_step 24 = .ok (.iadd, 1) := by decide +kernel
theorem dX4_step_25 : decode cX4_step 25 = .ok (.bipush 64, 2) := by decide +kernel
theorem dX4_step_27 : decode cX4_step 27 = .ok (.irem, 1) := by decide +kernel
theorem dX4_step_28 : decode cX4_step 28 = .ok (.putfield 54, 3) := by decide +kernel
theorem dX4_step_31 : decode cX4_step 31 = .ok (.aload_n 0, 1) := by decide +kernel
theorem dX4_step_32 : decode cX4_step 32 = .ok (.dup, 1) := by decide +kernel
theorem dX4_step_33 : decode cX4_step 33 = .ok (.getfield 57, 3) := by decide +kernel
theorem dX4_step_36 : decode cX4_step 36 = .ok (.iconst 1, 1) := by decide +kernel
theorem dX4_step_37 : decode cX4_step 37 = .ok (.iadd, 1) := by decide +kernel
theorem dX4_step_38 : decode cX4_step 38 = .ok (.putfield 57, 3) := by decide +kernel
theorem dX4_step_41 : decode cX4_step 41 = .ok (.iconst 0, 1) := by decide +kernel
theorem dX4_step_42 : decode cX4_step 42 = .ok (.istore_n 1, 1) := by decide +kernel
theorem dX4_step_43 : decode cX4_step 43 = .ok (.iconst 0, 1) := by decide +kernel
theorem dX4_step_44 : decode cX4_step 44 = .ok (.istore_n 2, 1) := by decide +kernel
theorem dX4_step_45 : decode cX4_step 45 = .ok (.iload_n 2, 1) := by decide +kernel
theorem dX4_step_46 : decode cX4_step 46 = .ok (.aload_n 0, 1) := by decide +kernel
theorem dX4_step_47 : decode cX4_step 47 = .ok (.getfield 12, 3) := by decide +kernel
theorem dX4_step_50 : decode cX4_step 50 = .ok (.getfield 60, 3) := by decide +kernel
theorem dX4_step_53 : decode cX4_step 53 = .ok (.if_icmp .ge 48, 3) := by decide +kernel
theorem dX4_step_56 : decode cX4_step 56 = .ok (.aload_n 0, 1) := by decide +kernel
theorem dX4_step_57 : decode cX4_step 57 = .ok (.getfield 12, 3) := by decide +kernel
theorem dX4_step_60 : decode cX4_step 60 = .ok (.getfield 63, 3) := by decide +kernel
theorem dX4_step_63 : decode cX4_step 63 = .ok (.iload_n 2, 1) := by decide +kernel
theorem dX4_step_64 : decode cX4_step 64 = .ok (.baload, 1) := by decide +kernel
theorem dX4_step_65 : decode cX4_step 65 = .ok (.ifCond .ne 30, 3) := by decide +kernel
theorem dX4_step_68 : decode cX4_step 68 = .ok (.aload_n 0, 1) := by decide +kernel
theorem dX4_step_69 : decode cX4_step 69 = .ok (.getfield 21, 3) := by decide +kernel
theorem dX4_step_72 : decode cX4_step 72 = .ok (.iload_n 2, 1) := by decide +kernel
theorem dX4_step_73 : decode cX4_step 73 = .ok (.aload_n 0, 1) := by decide +kernel
theorem dX4_step_74 : decode cX4_step 74 = .ok (.getfield 67, 3) := by decide +kernel
theorem dX4_step_77 : decode cX4_step 77 = .ok (.aload_n 0, 1) := by decide +kernel
theorem dX4_step_78 : decode cX4_step 78 = .ok (.getfield 54, 3) := by decide +kernel
theorem dX4_step_81 : decode cX4_step 81 = .ok (.invokevirtual 70, 3) := by decide +kernel
theorem dX4_step_84 : decode cX4_step 84 = .ok (.ifCond .eq 11, 3) := by decide +kernel
theorem dX4_step_87 : decode cX4_step 87 = .ok (.aload_n 0, 1) := by decide +kernel
theorem dX4_step_88 : decode cX4_step 88 = .ok (.iload_n 2, 1) := by decide +kernel
theorem dX4_step_89 : decode cX4_step 89 = .ok (.invokevirtual 74, 3) := by decide +kernel
theorem dX4_step_92 : decode cX4_step 92 = .ok (.iinc 1 1, 3) := by decide +kernel
theorem dX4_step_95 : decode cX4_step 95 = .ok (.iinc 2 1, 3) := by decide +kernel
theorem dX4_step_98 : decode cX4_step 98 = .ok (.goto (-53), 3) := by decide +kernel
theorem dX4_step_101 : decode cX4_step 101 = .ok (.aload_n 0, 1) := by decide +kernel
theorem dX4_step_102 : decode cX4_step 102 = .ok (.iconst 0, 1) := by decide +kernel
theorem dX4_step_103 : decode cX4_step 103 = .ok (.aload_n 0, 1) := by decide +kernel
theorem dX4_step_104 : decode cX4_step 104 = .ok (.getfield 37, 3) := by decide +kernel
theorem dX4_step_107 : decode cX4_step 107 = .ok (.iconst 2, 1) := by decide +kernel
theorem dX4_step_108 : decode cX4_step 108 = .ok (.isub, 1) := by decide +kernel
theorem dX4_step_109 : decode cX4_step 109 = .ok (.iload_n 1, 1) := by decide +kernel
theorem dX4_step_110 : decode cX4_step 110 = .ok (.isub, 1) := by decide +kernel
theorem dX4_step_111 : decode cX4_step 111 = .ok (.invokestatic 78, 3) := by decide +kernel
theorem dX4_step_114 : decode cX4_step 114 = .ok (.putfield 37, 3) := by decide +kernel
theorem dX4_step_117 : decode cX4_step 117 = .ok (.return_, 1) := by decide +kernel
set_option maxRecDepth 20000 in
theorem ggX4_pluck_X1_pluckTooth : GoodIn wsX4_pluck wsX1_pluckTooth := goodIn_r _ [15, 16, 17, 18, 19, 59, 60, 61, 62, 63, 64] (by decide +kernel) (by decide +kernel)
set_option maxRecDepth 20000 in
theorem gX4_pluck_X1_pluckTooth : GoodIn wsX4_pluck (wsV RX4 84 RX1 yX1_pluckTooth wsX1_pluckTooth) := goodIn_app (goodIn_of _ (by decide +kernel)) ggX4_pluck_X1_pluckTooth
set_option maxRecDepth 20000 in
theorem ggX4_pluck_X2_addSound : GoodIn wsX4_pluck wsX2_addSound := goodIn_r _ [24, 25, 26, 27, 28, 29, 30, 31, 32, 23, 33, 65, 66, 67, 68, 69] (by decide +kernel) (by decide +kernel)
set_option maxRecDepth 20000 in
theorem gX4_pluck_X2_addSound : GoodIn wsX4_pluck (wsV RX4 95 RX2 yX2_addSound wsX2_addSound) := goodIn_app (goodIn_of _ (by decide +kernel)) ggX4_pluck_X2_addSound
set_option maxRecDepth 20000 in
theorem ggX4_pluck_X0_wearDown : GoodIn wsX4_pluck wsX0_wearDown := goodIn_r _ [38, 39, 40, 41, 42, 43, 37, 44, 45, 46, 47, 70, 71] (by decide +kernel) (by decide +kernel)
set_option maxRecDepth 20000 in
theorem gX4_pluck_X0_wearDown : GoodIn wsX4_pluck (wsV RX4 99 RX0 yX0_wearDown wsX0_wearDown) := goodIn_app (goodIn_of _ (by decide +kernel)) ggX4_pluck_X0_wearDown
theorem dX4_pluck_0 : decode cX4_pluck 0 = .ok (.aload_n 0, 1) := by decide +kernel
theorem dX4_pluck_1 : decode cX4_pluck 1 = .ok (.getfield 12, 3) := by decide +kernel
theorem dX4_pluck_4 : decode cX4_pluck 4 = .ok (.iload_n 1, 1) := by decide +kernel
theorem dX4_pluck_5 : decode cX4_pluck 5 = .ok (.aload_n 0, 1) := by decide +kernel
theorem dX4_pluck_6 : decode cX4_pluck 6 = .ok (.getfield 57, 3) := by decide +kernel
theorem dX4_pluck_9 : decode cX4_pluck 9 = .ok (.invokevirtual 84, 3) := by decide +kernel
theorem dX4_pluck_12 : decode cX4_pluck 12 = .ok (.ifCond .eq 16, 3) := by decide +kernel
theorem dX4_pluck_15 : decode cX4_pluck 15 = .ok (.aload_n 0, 1) := by decide +kernel
theorem dX4_pluck_16 : decode cX4_pluck 16 = .ok (.dup, 1) := by decide +kernel
theorem dX4_pluck_17 : decode cX4_pluck 17 = .ok (.getfield 88, 3) := by decide +kernel
theorem dX4_pluck_20 : decode cX4_pluck 20 = .ok (.iconst 1, 1) := by decide +kernel
theorem dX4_pluck_21 : decode cX4_pluck 21 = .ok (.iadd, 1) := by decide +kernel
theorem dX4_pluck_22 : decode cX4_pluck 22 = .ok (.putfield 88, 3) := by decide +kernel
theorem dX4_pluck_25 : decode cX4_pluck 25 = .ok (.goto 23, 3) := by decide +kernel
theorem dX4_pluck_28 : decode cX4_pluck 28 = .ok (.aload_n 0, 1) := by decide +kernel
theorem dX4_pluck_29 : decode cX4_pluck 29 = .ok (.getfield 28, 3) := by decide +kernel
theorem dX4_pluck_32 : decode cX4_pluck 32 = .ok (.aload_n 0, 1) := by decide +kernel
theorem dX4_pluck_33 : decode cX4_pluck 33 = .ok (.getfield 12, 3) := by decide +kernel
theorem dX4_pluck_36 : decode cX4_pluck 36 = .ok (.getfield 91, 3) := by decide +kernel
theorem dX4_pluck_39 : decode cX4_pluck 39 = .ok (.iload_n 1, 1) := by decide +kernel
theorem dX4_pluck_40 : decode cX4_pluck 40 = .ok (.iaload, 1) := by decide +kernel
theorem dX4_pluck_41 : decode cX4_pluck 41 = .ok (.aload_n 0, 1) := by decide +kernel
theorem dX4_pluck_42 : decode cX4_pluck 42 = .ok (.getfield 44, 3) := by decide +kernel
theorem dX4_pluck_45 : decode cX4_pluck 45 = .ok (.invokevirtual 95, 3) := by decide +kernel
theorem dX4_pluck_48 : decode cX4_pluck 48 = .ok (.aload_n 0, 1) := by decide +kernel
theorem dX4_pluck_49 : decode cX4_pluck 49 = .ok (.getfield 21, 3) := by decide +kernel
theorem dX4_pluck_52 : decode cX4_pluck 52 = .ok (.iload_n 1, 1) := by decide +kernel
theorem dX4_pluck_53 : decode cX4_pluck 53 = .ok (.aload_n 0, 1) := by decide +kernel
theorem dX4_pluck_54 : decode cX4_pluck 54 = .ok (.getfield 67, 3) := by decide +kernel
theorem dX4_pluck_57 : decode cX4_pluck 57 = .ok (.aload_n 0, 1) := by decide +kernel
theorem dX4_pluck_58 : decode cX4_pluck 58 = .ok (.getfield 54, 3) := by decide +kernel
theorem dX4_pluck_61 : decode cX4_pluck 61 = .ok (.invokevirtual 99, 3) := by decide +kernel
theorem dX4_pluck_64 : decode cX4_pluck 64 = .ok (.ifCond .eq 13, 3) := by decide +kernel
theorem dX4_pluck_67 : decode cX4_pluck 67 = .ok (.aload_n 0, 1) := by decide +kernel
theorem dX4_pluck_68 : decode cX4_pluck 68 = .ok (.dup, 1) := by decide +kernel
theorem dX4_pluck_69 : decode cX4_pluck 69 = .ok (.getfield 102, 3) := by decide +kernel
theorem dX4_pluck_72 : decode cX4_pluck 72 = .ok (.iconst 1, 1) := by decide +kernel
theorem dX4_pluck_73 : decode cX4_pluck 73 = .ok (.iadd, 1) := by decide +kernel
theorem dX4_pluck_74 : decode cX4_pluck 74 = .ok (.putfield 102, 3) := by decide +kernel
theorem dX4_pluck_77 : decode cX4_pluck 77 = .ok (.return_, 1) := by decide +kernel
set_option maxRecDepth 20000 in
theorem ggX4_takeOver_X1_takeTeeth : GoodIn wsX4_takeOver wsX1_takeTeeth := goodIn_r _ [15, 16, 17, 18, 19, 20, 21, 54, 55, 56, 57, 58, 59] (by decide +kernel) (by decide +kernel)
set_option maxRecDepth 20000 in
theorem gX4_takeOver_X1_takeTeeth : GoodIn wsX4_takeOver (wsV RX4 105 RX1 yX1_takeTeeth wsX1_takeTeeth) := goodIn_app (goodIn_of _ (by decide +kernel)) ggX4_takeOver_X1_takeTeeth
set_option maxRecDepth 20000 in
theorem ggX4_takeOver_X0_takePins : GoodIn wsX4_takeOver wsX0_takePins := goodIn_r _ [26, 27, 28, 29, 30, 31, 32, 33, 25, 34, 60, 61] (by decide +kernel) (by decide +kernel)
set_option maxRecDepth 20000 in
theorem gX4_takeOver_X0_takePins : GoodIn wsX4_takeOver (wsV RX4 109 RX0 yX0_takePins wsX0_takePins) := goodIn_app (goodIn_of _ (by decide +kernel)) ggX4_takeOver_X0_takePins
set_option maxRecDepth 20000 in
theorem ggX4_takeOver_X0_takeWears : GoodIn wsX4_takeOver wsX0_takeWears := goodIn_r _ [38, 39, 28, 29, 30, 31, 40, 41, 25, 42, 60, 61] (by decide +kernel) (by decide +kernel)
set_option maxRecDepth 20000 in
theorem gX4_takeOver_X0_takeWears : GoodIn wsX4_takeOver (wsV RX4 113 RX0 yX0_takeWears wsX0_takeWears) := goodIn_app (goodIn_of _ (by decide +kernel)) ggX4_takeOver_X0_takeWears
theorem dX4_takeOver_0 : decode cX4_takeOver 0 = .ok (.aload_n 0, 1) := by decide +kernel
theorem dX4_takeOver_1 : decode cX4_takeOver 1 = .ok (.getfield 12, 3) := by decide +kernel
theorem dX4_takeOver_4 : decode cX4_takeOver 4 = .ok (.aload_n 1, 1) := by decide +kernel
theorem dX4_takeOver_5 : decode cX4_takeOver 5 = .ok (.getfield 12, 3) := by decide +kernel
theorem dX4_takeOver_8 : decode cX4_takeOver 8 = .ok (.invokevirtual 105, 3) := by decide +kernel
theorem dX4_takeOver_11 : decode cX4_takeOver 11 = .ok (.aload_n 0, 1) := by decide +kernel
theorem dX4_takeOver_12 : decode cX4_takeOver 12 = .ok (.getfield 21, 3) := by decide +kernel
theorem dX4_takeOver_15 : decode cX4_takeOver 15 = .ok (.aload_n 1, 1) := by decide +kernel
theorem dX4_takeOver_16 : decode cX4_takeOver 16 = .ok (.getfield 21, 3) := by decide +kernel
theorem dX4_takeOver_19 : decode cX4_takeOver 19 = .ok (.aload_n 1, 1) := by decide +kernel
theorem dX4_takeOver_20 : decode cX4_takeOver 20 = .ok (.getfield 67, 3) := by decide +kernel
theorem dX4_takeOver_23 : decode cX4_takeOver 23 = .ok (.invokevirtual 109, 3) := by decide +kernel
theorem dX4_takeOver_26 : decode cX4_takeOver 26 = .ok (.aload_n 0, 1) := by decide +kernel
theorem dX4_takeOver_27 : decode cX4_takeOver 27 = .ok (.getfield 21, 3) := by decide +kernel
theorem dX4_takeOver_30 : decode cX4_takeOver 30 = .ok (.aload_n 1, 1) := by decide +kernel
theorem dX4_takeOver_31 : decode cX4_takeOver 31 = .ok (.getfield 21, 3) := by decide +kernel
theorem dX4_takeOver_34 : decode cX4_takeOver 34 = .ok (.aload_n 1, 1) := by decide +kernel
theorem dX4_takeOver_35 : decode cX4_takeOver 35 = .ok (.getfield 67, 3) := by decide +kernel
theorem dX4_takeOver_38 : decode cX4_takeOver 38 = .ok (.invokevirtual 113, 3) := by decide +kernel
theorem dX4_takeOver_41 : decode cX4_takeOver 41 = .ok (.aload_n 0, 1) := by decide +kernel
theorem dX4_takeOver_42 : decode cX4_takeOver 42 = .ok (.aload_n 1, 1) := by decide +kernel
theorem dX4_takeOver_43 : decode cX4_takeOver 43 = .ok (.getfield 37, 3) := by decide +kernel
theorem dX4_takeOver_46 : decode cX4_takeOver 46 = .ok (.putfield 37, 3) := by decide +kernel
theorem dX4_takeOver_49 : decode cX4_takeOver 49 = .ok (.aload_n 0, 1) := by decide +kernel
theorem dX4_takeOver_50 : decode cX4_takeOver 50 = .ok (.aload_n 1, 1) := by decide +kernel
theorem dX4_takeOver_51 : decode cX4_takeOver 51 = .ok (.getfield 32, 3) := by decide +kernel
theorem dX4_takeOver_54 : decode cX4_takeOver 54 = .ok (.putfield 32, 3) := by decide +kernel
theorem dX4_takeOver_57 : decode cX4_takeOver 57 = .ok (.aload_n 0, 1) := by decide +kernel
theorem dX4_takeOver_58 : decode cX4_takeOver 58 = .ok (.aload_n 1, 1) := by decide +kernel
theorem dX4_takeOver_59 : decode cX4_takeOver 59 = .ok (.getfield 54, 3) := by decide +kernel
theorem dX4_takeOver_62 : decode cX4_takeOver 62 = .ok (.putfield 54, 3) := by decide +kernel
theorem dX4_takeOver_65 : decode cX4_takeOver 65 = .ok (.aload_n 0, 1) := by decide +kernel
theorem dX4_takeOver_66 : decode cX4_takeOver 66 = .ok (.aload_n 1, 1) := by decide +kernel
theorem dX4_takeOver_67 : decode cX4_takeOver 67 = .ok (.getfield 67, 3) := by decide +kernel
theorem dX4_takeOver_70 : decode cX4_takeOver 70 = .ok (.putfield 67, 3) := by decide +kernel
theorem dX4_takeOver_73 : decode cX4_takeOver 73 = .ok (.aload_n 0, 1) := by decide +kernel
theorem dX4_takeOver_74 : decode cX4_takeOver 74 = .ok (.aload_n 1, 1) := by decide +kernel
theorem dX4_takeOver_75 : decode cX4_takeOver 75 = .ok (.getfield 57, 3) := by decide +kernel
theorem dX4_takeOver_78 : decode cX4_takeOver 78 = .ok (.putfield 57, 3) := by decide +kernel
theorem dX4_takeOver_81 : decode cX4_takeOver 81 = .ok (.aload_n 0, 1) := by decide +kernel
theorem dX4_takeOver_82 : decode cX4_takeOver 82 = .ok (.aload_n 1, 1) := by decide +kernel
theorem dX4_takeOver_83 : decode cX4_takeOver 83 = .ok (.getfield 88, 3) := by decide +kernel
theorem dX4_takeOver_86 : decode cX4_takeOver 86 = .ok (.putfield 88, 3) := by decide +kernel
theorem dX4_takeOver_89 : decode cX4_takeOver 89 = .ok (.aload_n 0, 1) := by decide +kernel
theorem dX4_takeOver_90 : decode cX4_takeOver 90 = .ok (.aload_n 1, 1) := by decide +kernel
theorem dX4_takeOver_91 : decode cX4_takeOver 91 = .ok (.getfield 102, 3) := by decide +kernel
theorem dX4_takeOver_94 : decode cX4_takeOver 94 = .ok (.putfield 102, 3) := by decide +kernel
theorem dX4_takeOver_97 : decode cX4_takeOver 97 = .ok (.aload_n 0, 1) := by decide +kernel
theorem dX4_takeOver_98 : decode cX4_takeOver 98 = .ok (.aload_n 1, 1) := by decide +kernel
theorem dX4_takeOver_99 : decode cX4_takeOver 99 = .ok (.getfield 44, 3) := by decide +kernel
theorem dX4_takeOver_102 : decode cX4_takeOver 102 = .ok (.putfield 44, 3) := by decide +kernel
theorem dX4_takeOver_105 : decode cX4_takeOver 105 = .ok (.return_, 1) := by decide +kernel
set_option maxRecDepth 20000 in
theorem ggX5_init_X3_init : GoodIn wsX5_init wsX3_init := goodIn_r _ [21, 22, 2, 3, 23, 24, 25, 67, 68, 69] (by decide +kernel) (by decide +kernel)
set_option maxRecDepth 20000 in
theorem gX5_init_X3_init : GoodIn wsX5_init (wsX3_init) := ggX5_init_X3_init
set_option maxRecDepth 20000 in
theorem ggX5_init_X4_init : GoodIn wsX5_init wsX4_init := goodIn_r _ [28, 29, 2, 3, 30, 31, 32, 33, 34, 35, 36, 37, 38, 39, 40, 41, 42, 43, 44, 45, 46, 23, 47, 48, 49, 50, 51, 52, 53, 54, 55, 56, 57, 58, 59, 60, 61, 62, 63, 64, 65, 66, 88, 89, 90, 91, 92, 93, 77, 78, 79, 80, 81, 82, 83, 84, 85, 86, 87, 94, 95, 96, 97, 98, 99, 100] (by decide +kernel) (by decide +kernel)
set_option maxRecDepth 20000 in
theorem gX5_init_X4_init : GoodIn wsX5_init (wsX4_init) := ggX5_init_X4_init
theorem dX5_init_0 : decode cX5_init 0 = .ok (.aload_n 0, 1) := by decide +kernel
theorem dX5_init_1 : decode cX5_init 1 = .ok (.invokespecial 1, 3) := by decide +kernel
theorem dX5_init_4 : decode cX5_init 4 = .ok (.aload_n 0, 1) := by decide +kernel
theorem dX5_init_5 : decode cX5_init 5 = .ok (.new 7, 3) := by decide +kernel
theorem dX5_init_8 : decode cX5_init 8 = .ok (.dup, 1) := by decide +kernel
theorem dX5_init_9 : decode cX5_init 9 = .ok (.invokespecial 9, 3) := by decide +kernel
theorem dX5_init_12 : decode cX5_init 12 = .ok (.putfield 10, 3) := by decide +kernel
theorem dX5_init_15 : decode cX5_init 15 = .ok (.aload_n 0, 1) := by decide +kernel
theorem dX5_init_16 : decode cX5_init 16 = .ok (.new 16, 3) := by decide +kernel
theorem dX5_init_19 : decode cX5_init 19 = .ok (.dup, 1) := by decide +kernel
theorem dX5_init_20 : decode cX5_init 20 = .ok (.invokespecial 18, 3) := by decide +kernel
theorem dX5_init_23 : decode cX5_init 23 = .ok (.putfield 19, 3) := by decide +kernel
theorem dX5_init_26 : decode cX5_init 26 = .ok (.aload_n 0, 1) := by decide +kernel
theorem dX5_init_27 : decode cX5_init 27 = .ok (.aload_n 0, 1) := by decide +kernel
theorem dX5_init_28 : decode cX5_init 28 = .ok (.getfield 19, 3) := by decide +kernel
theorem dX5_init_31 : decode cX5_init 31 = .ok (.getfield 23, 3) := by decide +kernel
theorem dX5_init_34 : decode cX5_init 34 = .ok (.putfield 27, 3) := by decide +kernel
theorem dX5_init_37 : decode cX5_init 37 = .ok (.aload_n 0, 1) := by decide +kernel
theorem dX5_init_38 : decode cX5_init 38 = .ok (.aload_n 0, 1) := by decide +kernel
theorem dX5_init_39 : decode cX5_init 39 = .ok (.getfield 19, 3) := by decide +kernel
theorem dX5_init_42 : decode cX5_init 42 = .ok (.getfield 28, 3) := by decide +kernel
theorem dX5_init_45 : decode cX5_init 45 = .ok (.putfield 32, 3) := by decide +kernel
theorem dX5_init_48 : decode cX5_init 48 = .ok (.aload_n 0, 1) := by decide +kernel
theorem dX5_init_49 : decode cX5_init 49 = .ok (.aload_n 0, 1) := by decide +kernel
theorem dX5_init_50 : decode cX5_init 50 = .ok (.getfield 19, 3) := by decide +kernel
theorem dX5_init_53 : decode cX5_init 53 = .ok (.getfield 33, 3) := by decide +kernel
theorem dX5_init_56 : decode cX5_init 56 = .ok (.putfield 37, 3) := by decide +kernel
theorem dX5_init_59 : decode cX5_init 59 = .ok (.aload_n 0, 1) := by decide +kernel
theorem dX5_init_60 : decode cX5_init 60 = .ok (.new 16, 3) := by decide +kernel
theorem dX5_init_63 : decode cX5_init 63 = .ok (.dup, 1) := by decide +kernel
theorem dX5_init_64 : decode cX5_init 64 = .ok (.invokespecial 18, 3) := by decide +kernel
theorem dX5_init_67 : decode cX5_init 67 = .ok (.putfield 38, 3) := by decide +kernel
theorem dX5_init_70 : decode cX5_init 70 = .ok (.return_, 1) := by decide +kernel
set_option maxRecDepth 20000 in
theorem ggX5_tooth_X5_needPitch : GoodIn wsX5_tooth wsX5_needPitch := goodIn_ca (goodIn_r _ [8, 9, 10] (by decide +kernel) (by decide +kernel)) (goodIn_sub (fun _ h => List.mem_cons_of_mem _ (List.mem_append_right _ h)) (by decide +kernel))
set_option maxRecDepth 20000 in
theorem gX5_tooth_X5_needPitch : GoodIn wsX5_tooth (va_wsS RX5 41 yX5_needPitch wsX5_needPitch) := goodIn_app (goodIn_of _ (by decide +kernel)) ggX5_tooth_X5_needPitch
set_option maxRecDepth 20000 in
theorem ggX5_tooth_X1_addTooth : GoodIn wsX5_tooth wsX1_addTooth := goodIn_r _ [15, 16, 17, 25, 26, 27, 28, 29, 30] (by decide +kernel) (by decide +kernel)
set_option maxRecDepth 20000 in
theorem gX5_tooth_X1_addTooth : GoodIn wsX5_tooth (wsV RX5 58 RX1 yX1_addTooth wsX1_addTooth) := goodIn_app (goodIn_of _ (by decide +kernel)) ggX5_tooth_X1_addTooth
theorem dX5_tooth_0 : decode cX5_tooth 0 = .ok (.iload_n 1, 1) := by decide +kernel
theorem dX5_tooth_1 : decode cX5_tooth 1 = .ok (.invokestatic 41, 3) := by decide +kernel
theorem dX5_tooth_4 : decode cX5_tooth 4 = .ok (.aload_n 0, 1) := by decide +kernel
theorem dX5_tooth_5 : decode cX5_tooth 5 = .ok (.getfield 27, 3) := by decide +kernel
theorem dX5_tooth_8 : decode cX5_tooth 8 = .ok (.getfield 45, 3) := by decide +kernel
theorem dX5_tooth_11 : decode cX5_tooth 11 = .ok (.bipush 24, 2) := by decide +kernel
theorem dX5_tooth_13 : decode cX5_tooth 13 = .ok (.if_icmp .lt 13, 3) := by decide +kernel
theorem dX5_tooth_16 : decode cX5_tooth 16 = .ok (.new 51, 3) := by decide +kernel
theorem dX5_tooth_19 : decode cX5_tooth 19 = .ok (.dup, 1) := by decide +kernel
theorem dX5_tooth_20 : decode cX5_tooth 20 = .ok (.ldc 53, 2) := by decide +kernel
theorem dX5_tooth_22 : decode cX5_tooth 22 = .ok (.invokespecial 55, 3) := by decide +kernel
theorem dX5_tooth_25 : decode cX5_tooth 25 = .ok (.athrow, 1) := by decide +kernel
theorem dX5_tooth_26 : decode cX5_tooth 26 = .ok (.aload_n 0, 1) := by decide +kernel
theorem dX5_tooth_27 : decode cX5_tooth 27 = .ok (.getfield 27, 3) := by decide +kernel
theorem dX5_tooth_30 : decode cX5_tooth 30 = .ok (.iload_n 1, 1) := by decide +kernel
theorem dX5_tooth_31 : decode cX5_tooth 31 = .ok (.invokevirtual 58, 3) := by decide +kernel
theorem dX5_tooth_34 : decode cX5_tooth 34 = .ok (.ireturn, 1) := by decide +kernel
set_option maxRecDepth 20000 in
theorem ggX5_file_X5_needTooth : GoodIn wsX5_file wsX5_needTooth := goodIn_ca (goodIn_r _ [7, 8, 9, 1, 10, 16, 17, 18, 19, 20, 21, 22, 23, 24, 25, 26, 27, 28] (by decide +kernel) (by decide +kernel)) (goodIn_sub (fun _ h => List.mem_cons_of_mem _ (List.mem_append_left _ (List.mem_append_right _ h))) (by decide +kernel))
set_option maxRecDepth 20000 in
theorem gX5_file_X5_needTooth : GoodIn wsX5_file (wsV RX5 62 RX5 yX5_needTooth wsX5_needTooth) := goodIn_app (goodIn_of _ (by decide +kernel)) ggX5_file_X5_needTooth
set_option maxRecDepth 20000 in
theorem ggX5_file_X5_needPitch : GoodIn wsX5_file wsX5_needPitch := goodIn_ca (goodIn_r _ [13, 14, 15] (by decide +kernel) (by decide +kernel)) (goodIn_sub (fun _ h => List.mem_cons_of_mem _ (List.mem_append_right _ h)) (by decide +kernel))
set_option maxRecDepth 20000 in
theorem gX5_file_X5_needPitch : GoodIn wsX5_file (va_wsS RX5 41 yX5_needPitch wsX5_needPitch) := goodIn_app (goodIn_of _ (by decide +kernel)) ggX5_file_X5_needPitch
theorem dX5_file_0 : decode cX5_file 0 = .ok (.aload_n 0, 1) := by decide +kernel
theorem dX5_file_1 : decode cX5_file 1 = .ok (.iload_n 1, 1) := by decide +kernel
theorem dX5_file_2 : decode cX5_file 2 = .ok (.invokevirtual 62, 3) := by decide +kernel
theorem dX5_file_5 : decode cX5_file 5 = .ok (.iload_n 2, 1) := by decide +kernel
theorem dX5_file_6 : decode cX5_file 6 = .ok (.invokestatic 41, 3) := by decide +kernel
theorem dX5_file_9 : decode cX5_file 9 = .ok (.aload_n 0, 1) := by decide +kernel
theorem dX5_file_10 : decode cX5_file 10 = .ok (.getfield 27, 3) := by decide +kernel
theorem dX5_file_13 : decode cX5_file 13 = .ok (.getfield 65, 3) := by decide +kernel
theorem dX5_file_16 : decode cX5_file 16 = .ok (.iload_n 1, 1) := by decide +kernel
theorem dX5_file_17 : decode cX5_file 17 = .ok (.iaload, 1) := by decide +kernel
theorem dX5_file_18 : decode cX5_file 18 = .ok (.istore_n 3, 1) := by decide +kernel
theorem dX5_file_19 : decode cX5_file 19 = .ok (.aload_n 0, 1) := by decide +kernel
theorem dX5_file_20 : decode cX5_file 20 = .ok (.getfield 27, 3) := by decide +kernel
theorem dX5_file_23 : decode cX5_file 23 = .ok (.getfield 65, 3) := by decide +kernel
theorem dX5_file_26 : decode cX5_file 26 = .ok (.iload_n 1, 1) := by decide +kernel
theorem dX5_file_27 : decode cX5_file 27 = .ok (.iload_n 2, 1) := by decide +kernel
theorem dX5_file_28 : decode cX5_file 28 = .ok (.iastore, 1) := by decide +kernel
theorem dX5_file_29 : decode cX5_file 29 = .ok (.iload_n 3, 1) := by decide +kernel
theorem dX5_file_30 : decode cX5_file 30 = .ok (.ireturn, 1) := by decide +kernel
theorem dX5_tune_0 : decode cX5_tune 0 = .ok (.aload_n 0, 1) := by decide +kernel
theorem dX5_tune_1 : decode cX5_tune 1 = .ok (.getfield 10, 3) := by decide +kernel
theorem dX5_tune_4 : decode cX5_tune 4 = .ok (.getfield 69, 3) := by decide +kernel
theorem dX5_tune_7 : decode cX5_tune 7 = .ok (.iconst 4, 1) := by decide +kernel
theorem dX5_tune_8 : decode cX5_tune 8 = .ok (.if_icmp .lt 13, 3) := by decide +kernel
theorem dX5_tune_11 : decode cX5_tune 11 = .ok (.new 51, 3) := by decide +kernel
theorem dX5_tune_14 : decode cX5_tune 14 = .ok (.dup, 1) := by decide +kernel
theorem dX5_tune_15 : decode cX5_tune 15 = .ok (.ldc 70, 2) := by decide +kernel
theorem dX5_tune_17 : decode cX5_tune 17 = .ok (.invokespecial 55, 3) := by decide +kernel
theorem dX5_tune_20 : decode cX5_tune 20 = .ok (.athrow, 1) := by decide +kernel
theorem dX5_tune_21 : decode cX5_tune 21 = .ok (.aload_n 0, 1) := by decide +kernel
theorem dX5_tune_22 : decode cX5_tune 22 = .ok (.getfield 10, 3) := by decide +kernel
theorem dX5_tune_25 : decode cX5_tune 25 = .ok (.dup, 1) := by decide +kernel
theorem dX5_tune_26 : decode cX5_tune 26 = .ok (.getfield 69, 3) := by decide +kernel
theorem dX5_tune_29 : decode cX5_tune 29 = .ok (.iconst 1, 1) := by decide +kernel
theorem dX5_tune_30 : decode cX5_tune 30 = .ok (.iadd, 1) := by decide +kernel
theorem dX5_tune_31 : decode cX5_tune 31 = .ok (.putfield 69, 3) := by decide +kernel
theorem dX5_tune_34 : decode cX5_tune 34 = .ok (.aload_n 0, 1) := by decide +kernel
theorem dX5_tune_35 : decode cX5_tune 35 = .ok (.getfield 10, 3) := by decide +kernel
theorem dX5_tune_38 : decode cX5_tune 38 = .ok (.getfield 69, 3) := by decide +kernel
theorem dX5_tune_41 : decode cX5_tune 41 = .ok (.iconst 1, 1) := by decide +kernel
theorem dX5_tune_42 : decode cX5_tune 42 = .ok (.isub, 1) := by decide +kernel
theorem dX5_tune_43 : decode cX5_tune 43 = .ok (.ireturn, 1) := by decide +kernel
set_option maxRecDepth 20000 in
theorem ggX5_note_X5_needTune : GoodIn wsX5_note wsX5_needTune := goodIn_ca (goodIn_r _ [11, 12, 13, 5, 14, 37, 38, 39, 40, 41, 42, 43, 44, 45, 46] (by decide +kernel) (by decide +kernel)) (goodIn_sub (fun _ h => List.mem_cons_of_mem _ (List.mem_append_right _ h)) (by decide +kernel))
set_option maxRecDepth 20000 in
theorem gX5_note_X5_needTune : GoodIn wsX5_note (wsV RX5 72 RX5 yX5_needTune wsX5_needTune) := goodIn_app (goodIn_of _ (by decide +kernel)) ggX5_note_X5_needTune
set_option maxRecDepth 20000 in
theorem ggX5_note_X5_needPitch : GoodIn wsX5_note wsX5_needPitch := goodIn_ca (goodIn_r _ [17, 1, 2] (by decide +kernel) (by decide +kernel)) (goodIn_sub (fun _ h => List.mem_cons_of_mem _ (List.mem_append_left _ (List.mem_append_left _ (List.mem_append_right _ h)))) (by decide +kernel))
set_option maxRecDepth 20000 in
theorem gX5_note_X5_needPitch : GoodIn wsX5_note (va_wsS RX5 41 yX5_needPitch wsX5_needPitch) := goodIn_app (goodIn_of _ (by decide +kernel)) ggX5_note_X5_needPitch
set_option maxRecDepth 20000 in
theorem ggX5_note_X3_holds : GoodIn wsX5_note wsX3_holds := goodIn_r _ [22, 23, 24, 25, 26, 27, 21, 28, 44, 45, 46] (by decide +kernel) (by decide +kernel)
set_option maxRecDepth 20000 in
theorem gX5_note_X3_holds : GoodIn wsX5_note (wsV RX5 80 RX3 yX3_holds wsX3_holds) := goodIn_app (goodIn_of _ (by decide +kernel)) ggX5_note_X3_holds
set_option maxRecDepth 20000 in
theorem ggX5_note_X3_strike : GoodIn wsX5_note wsX3_strike := goodIn_r _ [32, 23, 24, 25, 26, 27, 21, 28, 44, 45, 46] (by decide +kernel) (by decide +kernel)
set_option maxRecDepth 20000 in
theorem gX5_note_X3_strike : GoodIn wsX5_note (wsV RX5 89 RX3 yX3_strike wsX3_strike) := goodIn_app (goodIn_of _ (by decide +kernel)) ggX5_note_X3_strike
set_option maxRecDepth 20000 in
theorem ggX5_note_X3_write : GoodIn wsX5_note wsX3_write := goodIn_r _ [36, 23, 24, 25, 26, 27, 21, 28, 44, 45, 46] (by decide +kernel) (by decide +kernel)
set_option maxRecDepth 20000 in
theorem gX5_note_X3_write : GoodIn wsX5_note (wsV RX5 93 RX3 yX3_write wsX3_write) := goodIn_app (goodIn_of _ (by decide +kernel)) ggX5_note_X3_write
theorem dX5_note_0 : decode cX5_note 0 = .ok (.aload_n 0, 1) := by decide +kernel
theorem dX5_note_1 : decode cX5_note 1 = .ok (.iload_n 1, 1) := by decide +kernel
theorem dX5_note_2 : decode cX5_note 2 = .ok (.invokevirtual 72, 3) := by decide +kernel
theorem dX5_note_5 : decode cX5_note 5 = .ok (.iload_n 2, 1) := by decide +kernel
theorem dX5_note_6 : decode cX5_note 6 = .ok (.ifCond .lt 9, 3) := by decide +kernel
theorem dX5_note_9 : decode cX5_note 9 = .ok (.iload_n 2, 1) := by decide +kernel
theorem dX5_note_10 : decode cX5_note 10 = .ok (.bipush 64, 2) := by decide +kernel
theorem dX5_note_12 : decode cX5_note 12 = .ok (.if_icmp .lt 13, 3) := by decide +kernel
theorem dX5_note_15 : decode cX5_note 15 = .ok (.new 75, 3) := by decide +kernel
theorem dX5_note_18 : decode cX5_note 18 = .ok (.dup, 1) := by decide +kernel
theorem dX5_note_19 : decode cX5_note 19 = .ok (.ldc 77, 2) := by decide +kernel
theorem dX5_note_21 : decode cX5_note 21 = .ok (.invokespecial 79, 3) := by decide +kernel
theorem dX5_note_24 : decode cX5_note 24 = .ok (.athrow, 1) := by decide +kernel
theorem dX5_note_25 : decode cX5_note 25 = .ok (.iload_n 3, 1) := by decide +kernel
theorem dX5_note_26 : decode cX5_note 26 = .ok (.invokestatic 41, 3) := by decide +kernel
theorem dX5_note_29 : decode cX5_note 29 = .ok (.aload_n 0, 1) := by decide +kernel
theorem dX5_note_30 : decode cX5_note 30 = .ok (.getfield 10, 3) := by decide +kernel
theorem dX5_note_33 : decode cX5_note 33 = .ok (.iload_n 1, 1) := by decide +kernel
theorem dX5_note_34 : decode cX5_note 34 = .ok (.iload_n 2, 1) := by decide +kernel
theorem dX5_note_35 : decode cX5_note 35 = .ok (.iload_n 3, 1) := by decide +kernel
theorem dX5_note_36 : decode cX5_note 36 = .ok (.invokevirtual 80, 3) := by decide +kernel
theorem dX5_note_39 : decode cX5_note 39 = .ok (.istore 4, 2) := by decide +kernel
theorem dX5_note_41 : decode cX5_note 41 = .ok (.iload 4, 2) := by decide +kernel
theorem dX5_note_43 : decode cX5_note 43 = .ok (.ifCond .ne 27, 3) := by decide +kernel
theorem dX5_note_46 : decode cX5_note 46 = .ok (.aload_n 0, 1) := by decide +kernel
theorem dX5_note_47 : decode cX5_note 47 = .ok (.getfield 10, 3) := by decide +kernel
theorem dX5_note_50 : decode cX5_note 50 = .ok (.getfield 84, 3) := by decide +kernel
theorem dX5_note_53 : decode cX5_note 53 = .ok (.iload_n 1, 1) := by decide +kernel
theorem dX5_note_54 : decode cX5_note 54 = .ok (.iaload, 1) := by decide +kernel
theorem dX5_note_55 : decode cX5_note 55 = .ok (.bipush 30, 2) := by decide +kernel
theorem dX5_note_57 : decode cX5_note 57 = .ok (.if_icmp .lt 13, 3) := by decide +kernel
theorem dX5_note_60 : decode cX5_note 60 = .ok (.new 51, 3) := by decide +kernel
theorem dX5_note_63 : decode cX5_note 63 = .ok (.dup, 1) := by decide +kernel
theorem dX5_note_64 : decode cX5_note 64 = .ok (.ldc 87, 2) := by decide +kernel
theorem dX5_note_66 : decode cX5_note 66 = .ok (.invokespecial 55, 3) := by decide +kernel
theorem dX5_note_69 : decode cX5_note 69 = .ok (.athrow, 1) := by decide +kernel
theorem dX5_note_70 : decode cX5_note 70 = .ok (.iload 4, 2) := by decide +kernel
theorem dX5_note_72 : decode cX5_note 72 = .ok (.ifCond .eq 16, 3) := by decide +kernel
theorem dX5_note_75 : decode cX5_note 75 = .ok (.aload_n 0, 1) := by decide +kernel
theorem dX5_note_76 : decode cX5_note 76 = .ok (.getfield 10, 3) := by decide +kernel
theorem dX5_note_79 : decode cX5_note 79 = .ok (.iload_n 1, 1) := by decide +kernel
theorem dX5_note_80 : decode cX5_note 80 = .ok (.iload_n 2, 1) := by decide +kernel
theorem dX5_note_81 : decode cX5_note 81 = .ok (.iload_n 3, 1) := by decide +kernel
theorem dX5_note_82 : decode cX5_note 82 = .ok (.invokevirtual 89, 3) := by decide +kernel
theorem dX5_note_85 : decode cX5_note 85 = .ok (.goto 13, 3) := by decide +kernel
theorem dX5_note_88 : decode cX5_note 88 = .ok (.aload_n 0, 1) := by decide +kernel
theorem dX5_note_89 : decode cX5_note 89 = .ok (.getfield 10, 3) := by decide +kernel
theorem dX5_note_92 : decode cX5_note 92 = .ok (.iload_n 1, 1) := by decide +kernel
theorem dX5_note_93 : decode cX5_note 93 = .ok (.iload_n 2, 1) := by decide +kernel
theorem dX5_note_94 : decode cX5_note 94 = .ok (.iload_n 3, 1) := by decide +kernel
theorem dX5_note_95 : decode cX5_note 95 = .ok (.invokevirtual 93, 3) := by decide +kernel
theorem dX5_note_98 : decode cX5_note 98 = .ok (.aload_n 0, 1) := by decide +kernel
theorem dX5_note_99 : decode cX5_note 99 = .ok (.getfield 10, 3) := by decide +kernel
theorem dX5_note_102 : decode cX5_note 102 = .ok (.getfield 84, 3) := by decide +kernel
theorem dX5_note_105 : decode cX5_note 105 = .ok (.iload_n 1, 1) := by decide +kernel
theorem dX5_note_106 : decode cX5_note 106 = .ok (.iaload, 1) := by decide +kernel
theorem dX5_note_107 : decode cX5_note 107 = .ok (.ireturn, 1) := by decide +kernel
set_option maxRecDepth 20000 in
theorem ggX5_pin_X5_needTune : GoodIn wsX5_pin wsX5_needTune := goodIn_ca (goodIn_r _ [6, 7, 8, 9, 10, 66, 67, 68, 69, 70, 71, 72, 73, 74, 75] (by decide +kernel) (by decide +kernel)) (goodIn_sub (fun _ h => List.mem_cons_of_mem _ (List.mem_append_left _ (List.mem_append_right _ h))) (by decide +kernel))
set_option maxRecDepth 20000 in
theorem gX5_pin_X5_needTune : GoodIn wsX5_pin (wsV RX5 72 RX5 yX5_needTune wsX5_needTune) := goodIn_app (goodIn_of _ (by decide +kernel)) ggX5_pin_X5_needTune
set_option maxRecDepth 20000 in
theorem ggX5_pin_X5_needLine : GoodIn wsX5_pin wsX5_needLine := goodIn_ca (goodIn_r _ [13, 7, 8] (by decide +kernel) (by decide +kernel)) (goodIn_sub (fun _ h => List.mem_cons_of_mem _ (List.mem_append_left _ (List.mem_append_right _ h))) (by decide +kernel))
set_option maxRecDepth 20000 in
theorem gX5_pin_X5_needLine : GoodIn wsX5_pin (va_wsS RX5 96 yX5_needLine wsX5_needLine) := goodIn_app (goodIn_of _ (by decide +kernel)) ggX5_pin_X5_needLine
set_option maxRecDepth 20000 in
theorem ggX5_pin_X5_needKey : GoodIn wsX5_pin wsX5_needKey := goodIn_ca (goodIn_r _ [16, 17, 18] (by decide +kernel) (by decide +kernel)) (goodIn_sub (fun _ h => List.mem_cons_of_mem _ (List.mem_append_right _ h)) (by decide +kernel))
set_option maxRecDepth 20000 in
theorem gX5_pin_X5_needKey : GoodIn wsX5_pin (va_wsS RX5 99 yX5_needKey wsX5_needKey) := goodIn_app (goodIn_of _ (by decide +kernel)) ggX5_pin_X5_needKey
set_option maxRecDepth 20000 in
theorem ggX5_pin_X5_pinTune : GoodIn wsX5_pin wsX5_pinTune := goodIn_r _ [22, 9, 23, 24, 25, 26, 27, 28, 29, 30, 31, 32, 33, 34, 35, 36, 37, 38, 39, 40, 41, 42, 43, 44, 45, 46, 47, 48, 49, 50, 51, 52, 53, 54, 55, 56, 57, 58, 59, 60, 61, 62, 63, 64, 65, 66, 67, 68, 69, 70, 71, 72, 73, 74, 75, 76, 77, 78, 79, 80, 81, 82, 83] (by decide +kernel) (by decide +kernel)
set_option maxRecDepth 20000 in
theorem gX5_pin_X5_pinTune : GoodIn wsX5_pin (wsV RX5 102 RX5 yX5_pinTune wsX5_pinTune) := goodIn_app (goodIn_of _ (by decide +kernel)) ggX5_pin_X5_pinTune
theorem dX5_pin_0 : decode cX5_pin 0 = .ok (.aload_n 0, 1) := by decide +kernel
theorem dX5_pin_1 : decode cX5_pin 1 = .ok (.iload_n 1, 1) := by decide +kernel
theorem dX5_pin_2 : decode cX5_pin 2 = .ok (.invokevirtual 72, 3) := by decide +kernel
theorem dX5_pin_5 : decode cX5_pin 5 = .ok (.iload_n 2, 1) := by decide +kernel
theorem dX5_pin_6 : decode cX5_pin 6 = .ok (.invokestatic 96, 3) := by decide +kernel
theorem dX5_pin_9 : decode cX5_pin 9 = .ok (.iload_n 3, 1) := by decide +kernel
theorem dX5_pin_10 : decode cX5_pin 10 = .ok (.invokestatic 99, 3) := by decide +kernel
theorem dX5_pin_13 : decode cX5_pin 13 = .ok (.aload_n 0, 1) := by decide +kernel
theorem dX5_pin_14 : decode cX5_pin 14 = .ok (.aload_n 0, 1) := by decide +kernel
theorem dX5_pin_15 : decode cX5_pin 15 = .ok (.getfield 32, 3) := by decide +kernel
theorem dX5_pin_18 : decode cX5_pin 18 = .ok (.iload_n 1, 1) := by decide +kernel
theorem dX5_pin_19 : decode cX5_pin 19 = .ok (.iload_n 2, 1) := by decide +kernel
theorem dX5_pin_20 : decode cX5_pin 20 = .ok (.iload_n 3, 1) := by decide +kernel
theorem dX5_pin_21 : decode cX5_pin 21 = .ok (.invokevirtual 102, 3) := by decide +kernel
theorem dX5_pin_24 : decode cX5_pin 24 = .ok (.ireturn, 1) := by decide +kernel
set_option maxRecDepth 20000 in
theorem ggX5_pull_X5_needLine : GoodIn wsX5_pull wsX5_needLine := goodIn_ca (goodIn_r _ [7, 8, 9] (by decide +kernel) (by decide +kernel)) (goodIn_sub (fun _ h => List.mem_cons_of_mem _ (List.mem_append_right _ h)) (by decide +kernel))
set_option maxRecDepth 20000 in
theorem gX5_pull_X5_needLine : GoodIn wsX5_pull (va_wsS RX5 96 yX5_needLine wsX5_needLine) := goodIn_app (goodIn_of _ (by decide +kernel)) ggX5_pull_X5_needLine
set_option maxRecDepth 20000 in
theorem ggX5_pull_X0_pullFrom : GoodIn wsX5_pull wsX0_pullFrom := goodIn_r _ [14, 15, 16, 17, 18, 19, 13, 20, 21, 22, 23, 24, 25, 26, 27, 28, 29, 30, 31, 45, 46] (by decide +kernel) (by decide +kernel)
set_option maxRecDepth 20000 in
theorem gX5_pull_X0_pullFrom : GoodIn wsX5_pull (wsV RX5 106 RX0 yX0_pullFrom wsX0_pullFrom) := goodIn_app (goodIn_of _ (by decide +kernel)) ggX5_pull_X0_pullFrom
theorem dX5_pull_0 : decode cX5_pull 0 = .ok (.iload_n 1, 1) := by decide +kernel
theorem dX5_pull_1 : decode cX5_pull 1 = .ok (.invokestatic 96, 3) := by decide +kernel
theorem dX5_pull_4 : decode cX5_pull 4 = .ok (.iconst 0, 1) := by decide +kernel
theorem dX5_pull_5 : decode cX5_pull 5 = .ok (.istore_n 3, 1) := by decide +kernel
theorem dX5_pull_6 : decode cX5_pull 6 = .ok (.iconst 0, 1) := by decide +kernel
theorem dX5_pull_7 : decode cX5_pull 7 = .ok (.istore 4, 2) := by decide +kernel
theorem dX5_pull_9 : decode cX5_pull 9 = .ok (.iload 4, 2) := by decide +kernel
theorem dX5_pull_11 : decode cX5_pull 11 = .ok (.aload_n 0, 1) := by decide +kernel
theorem dX5_pull_12 : decode cX5_pull 12 = .ok (.getfield 27, 3) := by decide +kernel
theorem dX5_pull_15 : decode cX5_pull 15 = .ok (.getfield 45, 3) := by decide +kernel
theorem dX5_pull_18 : decode cX5_pull 18 = .ok (.if_icmp .ge 31, 3) := by decide +kernel
theorem dX5_pull_21 : decode cX5_pull 21 = .ok (.iload_n 3, 1) := by decide +kernel
theorem dX5_pull_22 : decode cX5_pull 22 = .ok (.aload_n 0, 1) := by decide +kernel
theorem dX5_pull_23 : decode cX5_pull 23 = .ok (.getfield 32, 3) := by decide +kernel
theorem dX5_pull_26 : decode cX5_pull 26 = .ok (.iload 4, 2) := by decide +kernel
theorem dX5_pull_28 : decode cX5_pull 28 = .ok (.iload_n 1, 1) := by decide +kernel
theorem dX5_pull_29 : decode cX5_pull 29 = .ok (.iload_n 2, 1) := by decide +kernel
theorem dX5_pull_30 : decode cX5_pull 30 = .ok (.ifCond .eq 7, 3) := by decide +kernel
theorem dX5_pull_33 : decode cX5_pull 33 = .ok (.iconst 3, 1) := by decide +kernel
theorem dX5_pull_34 : decode cX5_pull 34 = .ok (.goto 4, 3) := by decide +kernel
theorem dX5_pull_37 : decode cX5_pull 37 = .ok (.iconst 0, 1) := by decide +kernel
theorem dX5_pull_38 : decode cX5_pull 38 = .ok (.invokevirtual 106, 3) := by decide +kernel
theorem dX5_pull_41 : decode cX5_pull 41 = .ok (.iadd, 1) := by decide +kernel
theorem dX5_pull_42 : decode cX5_pull 42 = .ok (.istore_n 3, 1) := by decide +kernel
theorem dX5_pull_43 : decode cX5_pull 43 = .ok (.iinc 4 1, 3) := by decide +kernel
theorem dX5_pull_46 : decode cX5_pull 46 = .ok (.goto (-37), 3) := by decide +kernel
theorem dX5_pull_49 : decode cX5_pull 49 = .ok (.iload_n 3, 1) := by decide +kernel
theorem dX5_pull_50 : decode cX5_pull 50 = .ok (.ireturn, 1) := by decide +kernel
set_option maxRecDepth 20000 in
theorem ggX5_shift_X5_needLine : GoodIn wsX5_shift wsX5_needLine := goodIn_ca (goodIn_r _ [6, 7, 8] (by decide +kernel) (by decide +kernel)) (goodIn_sub (fun _ h => List.mem_cons_of_mem _ (List.mem_append_right _ h)) (by decide +kernel))
set_option maxRecDepth 20000 in
theorem gX5_shift_X5_needLine : GoodIn wsX5_shift (va_wsS RX5 96 yX5_needLine wsX5_needLine) := goodIn_app (goodIn_of _ (by decide +kernel)) ggX5_shift_X5_needLine
theorem dX5_shift_0 : decode cX5_shift 0 = .ok (.iload_n 1, 1) := by decide +kernel
theorem dX5_shift_1 : decode cX5_shift 1 = .ok (.invokestatic 96, 3) := by decide +kernel
theorem dX5_shift_4 : decode cX5_shift 4 = .ok (.aload_n 0, 1) := by decide +kernel
theorem dX5_shift_5 : decode cX5_shift 5 = .ok (.getfield 19, 3) := by decide +kernel
theorem dX5_shift_8 : decode cX5_shift 8 = .ok (.getfield 112, 3) := by decide +kernel
theorem dX5_shift_11 : decode cX5_shift 11 = .ok (.istore_n 2, 1) := by decide +kernel
theorem dX5_shift_12 : decode cX5_shift 12 = .ok (.aload_n 0, 1) := by decide +kernel
theorem dX5_shift_13 : decode cX5_shift 13 = .ok (.getfield 19, 3) := by decide +kernel
theorem dX5_shift_16 : decode cX5_shift 16 = .ok (.iload_n 1, 1) := by decide +kernel
theorem dX5_shift_17 : decode cX5_shift 17 = .ok (.putfield 112, 3) := by decide +kernel
theorem dX5_shift_20 : decode cX5_shift 20 = .ok (.iload_n 2, 1) := by decide +kernel
theorem dX5_shift_21 : decode cX5_shift 21 = .ok (.ireturn, 1) := by decide +kernel
theorem dX5_wind_0 : decode cX5_wind 0 = .ok (.iload_n 1, 1) := by decide +kernel
theorem dX5_wind_1 : decode cX5_wind 1 = .ok (.iconst 1, 1) := by decide +kernel
theorem dX5_wind_2 : decode cX5_wind 2 = .ok (.if_icmp .lt 10, 3) := by decide +kernel
theorem dX5_wind_5 : decode cX5_wind 5 = .ok (.iload_n 1, 1) := by decide +kernel
theorem dX5_wind_6 : decode cX5_wind 6 = .ok (.sipush 500, 3) := by decide +kernel
theorem dX5_wind_9 : decode cX5_wind 9 = .ok (.if_icmp .le 13, 3) := by decide +kernel
theorem dX5_wind_12 : decode cX5_wind 12 = .ok (.new 75, 3) := by decide +kernel
theorem dX5_wind_15 : decode cX5_wind 15 = .ok (.dup, 1) := by decide +kernel
theorem dX5_wind_16 : decode cX5_wind 16 = .ok (.ldc 115, 2) := by decide +kernel
theorem dX5_wind_18 : decode cX5_wind 18 = .ok (.invokespecial 79, 3) := by decide +kernel
theorem dX5_wind_21 : decode cX5_wind 21 = .ok (.athrow, 1) := by decide +kernel
theorem dX5_wind_22 : decode cX5_wind 22 = .ok (.aload_n 0, 1) := by decide +kernel
theorem dX5_wind_23 : decode cX5_wind 23 = .ok (.getfield 19, 3) := by decide +kernel
theorem dX5_wind_26 : decode cX5_wind 26 = .ok (.getfield 117, 3) := by decide +kernel
theorem dX5_wind_29 : decode cX5_wind 29 = .ok (.sipush 2000, 3) := by decide +kernel
theorem dX5_wind_32 : decode cX5_wind 32 = .ok (.if_icmp .lt 16, 3) := by decide +kernel
theorem dX5_wind_35 : decode cX5_wind 35 = .ok (.aload_n 0, 1) := by decide +kernel
theorem dX5_wind_36 : decode cX5_wind 36 = .ok (.dup, 1) := by decide +kernel
theorem dX5_wind_37 : decode cX5_wind 37 = .ok (.getfield 120, 3) := by decide +kernel
theorem dX5_wind_40 : decode cX5_wind 40 = .ok (.iconst 1, 1) := by decide +kernel
theorem dX5_wind_41 : decode cX5_wind 41 = .ok (.iadd, 1) := by decide +kernel
theorem dX5_wind_42 : decode cX5_wind 42 = .ok (.putfield 120, 3) := by decide +kernel
theorem dX5_wind_45 : decode cX5_wind 45 = .ok (.goto 25, 3) := by decide +kernel
theorem dX5_wind_48 : decode cX5_wind 48 = .ok (.aload_n 0, 1) := by decide +kernel
theorem dX5_wind_49 : decode cX5_wind 49 = .ok (.getfield 19, 3) := by decide +kernel
theorem dX5_wind_52 : decode cX5_wind 52 = .ok (.sipush 2000, 3) := by decide +kernel
theorem dX5_wind_55 : decode cX5_wind 55 = .ok (.aload_n 0, 1) := by decide +kernel
theorem dX5_wind_56 : decode cX5_wind 56 = .ok (.getfield 19, 3) := by decide +kernel
theorem dX5_wind_59 : decode cX5_wind 59 = .ok (.getfield 117, 3) := by decide +kernel
theorem dX5_wind_62 : decode cX5_wind 62 = .ok (.iload_n 1, 1) := by decide +kernel
theorem dX5_wind_63 : decode cX5_wind 63 = .ok (.iadd, 1) := by decide +kernel
theorem dX5_wind_64 : decode cX5_wind 64 = .ok (.invokestatic 123, 3) := by decide +kernel
theorem dX5_wind_67 : decode cX5_wind 67 = .ok (.putfield 117, 3) := by decide +kernel
theorem dX5_wind_70 : decode cX5_wind 70 = .ok (.aload_n 0, 1) := by decide +kernel
theorem dX5_wind_71 : decode cX5_wind 71 = .ok (.getfield 19, 3) := by decide +kernel
theorem dX5_wind_74 : decode cX5_wind 74 = .ok (.getfield 117, 3) := by decide +kernel
theorem dX5_wind_77 : decode cX5_wind 77 = .ok (.ireturn, 1) := by decide +kernel
set_option maxRecDepth 20000 in
theorem ggX5_govern_X5_speed : GoodIn wsX5_govern wsX5_speed := goodIn_r _ [9, 3, 10, 11, 12, 13, 14, 15, 16, 17, 18, 19, 20, 21, 22, 23, 24, 25, 26, 27, 28, 29, 30, 31, 32, 33, 34, 35, 36] (by decide +kernel) (by decide +kernel)
set_option maxRecDepth 20000 in
theorem gX5_govern_X5_speed : GoodIn wsX5_govern (wsV RX5 134 RX5 yX5_speed wsX5_speed) := goodIn_app (goodIn_of _ (by decide +kernel)) ggX5_govern_X5_speed
theorem dX5_govern_0 : decode cX5_govern 0 = .ok (.iload_n 1, 1) := by decide +kernel
theorem dX5_govern_1 : decode cX5_govern 1 = .ok (.iconst 1, 1) := by decide +kernel
theorem dX5_govern_2 : decode cX5_govern 2 = .ok (.if_icmp .lt 9, 3) := by decide +kernel
theorem dX5_govern_5 : decode cX5_govern 5 = .ok (.iload_n 1, 1) := by decide +kernel
theorem dX5_govern_6 : decode cX5_govern 6 = .ok (.bipush 8, 2) := by decide +kernel
theorem dX5_govern_8 : decode cX5_govern 8 = .ok (.if_icmp .le 13, 3) := by decide +kernel
theorem dX5_govern_11 : decode cX5_govern 11 = .ok (.new 75, 3) := by decide +kernel
theorem dX5_govern_14 : decode cX5_govern 14 = .ok (.dup, 1) := by decide +kernel
theorem dX5_govern_15 : decode cX5_govern 15 = .ok (.ldc 129, 2) := by decide +kernel
theorem dX5_govern_17 : decode cX5_govern 17 = .ok (.invokespecial 79, 3) := by decide +kernel
theorem dX5_govern_20 : decode cX5_govern 20 = .ok (.athrow, 1) := by decide +kernel
theorem dX5_govern_21 : decode cX5_govern 21 = .ok (.aload_n 0, 1) := by decide +kernel
theorem dX5_govern_22 : decode cX5_govern 22 = .ok (.getfield 19, 3) := by decide +kernel
theorem dX5_govern_25 : decode cX5_govern 25 = .ok (.iload_n 1, 1) := by decide +kernel
theorem dX5_govern_26 : decode cX5_govern 26 = .ok (.putfield 131, 3) := by decide +kernel
theorem dX5_govern_29 : decode cX5_govern 29 = .ok (.aload_n 0, 1) := by decide +kernel
theorem dX5_govern_30 : decode cX5_govern 30 = .ok (.invokevirtual 134, 3) := by decide +kernel
theorem dX5_govern_33 : decode cX5_govern 33 = .ok (.dreturn, 1) := by decide +kernel
set_option maxRecDepth 20000 in
theorem ggX5_play_X5_needSteps : GoodIn wsX5_play wsX5_needSteps := goodIn_ca (goodIn_r _ [7, 8, 9] (by decide +kernel) (by decide +kernel)) (goodIn_sub (fun _ h => List.mem_cons_of_mem _ (List.mem_append_right _ h)) (by decide +kernel))
set_option maxRecDepth 20000 in
theorem gX5_play_X5_needSteps : GoodIn wsX5_play (va_wsS RX5 138 yX5_needSteps wsX5_needSteps) := goodIn_app (goodIn_of _ (by decide +kernel)) ggX5_play_X5_needSteps
set_option maxRecDepth 20000 in
theorem ggX5_play_X4_run : GoodIn wsX5_play wsX4_run := goodIn_r _ [14, 15, 16, 17, 18, 13, 19, 20, 21, 22, 23, 24, 25, 26, 27, 28, 29, 30, 31, 32, 33, 34, 35, 36, 37, 38, 39, 40, 41, 42, 43, 44, 45, 46, 47, 48, 49, 50, 51, 52, 53, 54, 55, 56, 57, 58, 59, 60, 61, 62, 63, 64, 65, 66, 67, 68, 69, 70, 71, 72, 73, 74, 75, 76, 77, 78, 79, 80, 81, 82, 83, 84, 85, 86, 87, 88, 101, 102, 103, 104, 105, 106, 107, 108, 109, 110, 111, 112, 113, 114, 115, 116, 117, 118, 119, 96, 97, 98, 99, 100] (by decide +kernel) (by decide +kernel)
set_option maxRecDepth 20000 in
theorem gX5_play_X4_run : GoodIn wsX5_play (wsV RX5 146 RX4 yX4_run wsX4_run) := goodIn_app (goodIn_of _ (by decide +kernel)) ggX5_play_X4_run
theorem dX5_play_0 : decode cX5_play 0 = .ok (.iload_n 1, 1) := by decide +kernel
theorem dX5_play_1 : decode cX5_play 1 = .ok (.invokestatic 138, 3) := by decide +kernel
theorem dX5_play_4 : decode cX5_play 4 = .ok (.aload_n 0, 1) := by decide +kernel
theorem dX5_play_5 : decode cX5_play 5 = .ok (.getfield 37, 3) := by decide +kernel
theorem dX5_play_8 : decode cX5_play 8 = .ok (.getfield 141, 3) := by decide +kernel
theorem dX5_play_11 : decode cX5_play 11 = .ok (.istore_n 2, 1) := by decide +kernel
theorem dX5_play_12 : decode cX5_play 12 = .ok (.aload_n 0, 1) := by decide +kernel
theorem dX5_play_13 : decode cX5_play 13 = .ok (.getfield 19, 3) := by decide +kernel
theorem dX5_play_16 : decode cX5_play 16 = .ok (.iload_n 1, 1) := by decide +kernel
theorem dX5_play_17 : decode cX5_play 17 = .ok (.invokevirtual 146, 3) := by decide +kernel
theorem dX5_play_20 : decode cX5_play 20 = .ok (.aload_n 0, 1) := by decide +kernel
theorem dX5_play_21 : decode cX5_play 21 = .ok (.getfield 37, 3) := by decide +kernel
theorem dX5_play_24 : decode cX5_play 24 = .ok (.getfield 141, 3) := by decide +kernel
theorem dX5_play_27 : decode cX5_play 27 = .ok (.iload_n 2, 1) := by decide +kernel
theorem dX5_play_28 : decode cX5_play 28 = .ok (.isub, 1) := by decide +kernel
theorem dX5_play_29 : decode cX5_play 29 = .ok (.ireturn, 1) := by decide +kernel
set_option maxRecDepth 20000 in
theorem ggX5_mend_X1_mendTooth : GoodIn wsX5_mend wsX1_mendTooth := goodIn_r _ [8, 9, 10, 39, 40, 41, 42, 43, 44] (by decide +kernel) (by decide +kernel)
set_option maxRecDepth 20000 in
theorem gX5_mend_X1_mendTooth : GoodIn wsX5_mend (wsV RX5 149 RX1 yX1_mendTooth wsX1_mendTooth) := goodIn_app (goodIn_of _ (by decide +kernel)) ggX5_mend_X1_mendTooth
set_option maxRecDepth 20000 in
theorem ggX5_mend_X0_renewPins : GoodIn wsX5_mend wsX0_renewPins := goodIn_r _ [15, 16, 17, 18, 19, 14, 20, 21, 22, 23, 24, 25, 26, 27, 28, 29, 30, 31, 45, 46] (by decide +kernel) (by decide +kernel)
set_option maxRecDepth 20000 in
theorem gX5_mend_X0_renewPins : GoodIn wsX5_mend (wsV RX5 152 RX0 yX0_renewPins wsX0_renewPins) := goodIn_app (goodIn_of _ (by decide +kernel)) ggX5_mend_X0_renewPins
theorem dX5_mend_0 : decode cX5_mend 0 = .ok (.iconst 0, 1) := by decide +kernel
theorem dX5_mend_1 : decode cX5_mend 1 = .ok (.istore_n 1, 1) := by decide +kernel
theorem dX5_mend_2 : decode cX5_mend 2 = .ok (.iconst 0, 1) := by decide +kernel
theorem dX5_mend_3 : decode cX5_mend 3 = .ok (.istore_n 2, 1) := by decide +kernel
theorem dX5_mend_4 : decode cX5_mend 4 = .ok (.iload_n 2, 1) := by decide +kernel
theorem dX5_mend_5 : decode cX5_mend 5 = .ok (.aload_n 0, 1) := by decide +kernel
theorem dX5_mend_6 : decode cX5_mend 6 = .ok (.getfield 27, 3) := by decide +kernel
theorem dX5_mend_9 : decode cX5_mend 9 = .ok (.getfield 45, 3) := by decide +kernel
theorem dX5_mend_12 : decode cX5_mend 12 = .ok (.if_icmp .ge 45, 3) := by decide +kernel
theorem dX5_mend_15 : decode cX5_mend 15 = .ok (.iload_n 1, 1) := by decide +kernel
theorem dX5_mend_16 : decode cX5_mend 16 = .ok (.aload_n 0, 1) := by decide +kernel
theorem dX5_mend_17 : decode cX5_mend 17 = .ok (.getfield 27, 3) := by decide +kernel
theorem dX5_mend_20 : decode cX5_mend 20 = .ok (.iload_n 2, 1) := by decide +kernel
theorem dX5_mend_21 : decode cX5_mend 21 = .ok (.invokevirtual 149, 3) := by decide +kernel
theorem dX5_mend_24 : decode cX5_mend 24 = .ok (.iadd, 1) := by decide +kernel
theorem dX5_mend_25 : decode cX5_mend 25 = .ok (.istore_n 1, 1) := by decide +kernel
theorem dX5_mend_26 : decode cX5_mend 26 = .ok (.iconst 0, 1) := by decide +kernel
theorem dX5_mend_27 : decode cX5_mend 27 = .ok (.istore_n 3, 1) := by decide +kernel
theorem dX5_mend_28 : decode cX5_mend 28 = .ok (.iload_n 3, 1) := by decide +kernel
theorem dX5_mend_29 : decode cX5_mend 29 = .ok (.iconst 3, 1) := by decide +kernel
theorem dX5_mend_30 : decode cX5_mend 30 = .ok (.if_icmp .ge 21, 3) := by decide +kernel
theorem dX5_mend_33 : decode cX5_mend 33 = .ok (.iload_n 1, 1) := by decide +kernel
theorem dX5_mend_34 : decode cX5_mend 34 = .ok (.aload_n 0, 1) := by decide +kernel
theorem dX5_mend_35 : decode cX5_mend 35 = .ok (.getfield 32, 3) := by decide +kernel
theorem dX5_mend_38 : decode cX5_mend 38 = .ok (.iload_n 2, 1) := by decide +kernel
theorem dX5_mend_39 : decode cX5_mend 39 = .ok (.iload_n 3, 1) := by decide +kernel
theorem dX5_mend_40 : decode cX5_mend 40 = .ok (.invokevirtual 152, 3) := by decide +kernel
theorem dX5_mend_43 : decode cX5_mend 43 = .ok (.iadd, 1) := by decide +kernel
theorem dX5_mend_44 : decode cX5_mend 44 = .ok (.istore_n 1, 1) := by decide +kernel
theorem dX5_mend_45 : decode cX5_mend 45 = .ok (.iinc 3 1, 3) := by decide +kernel
theorem dX5_mend_48 : decode cX5_mend 48 = .ok (.goto (-20), 3) := by decide +kernel
theorem dX5_mend_51 : decode cX5_mend 51 = .ok (.iinc 2 1, 3) := by decide +kernel
theorem dX5_mend_54 : decode cX5_mend 54 = .ok (.goto (-50), 3) := by decide +kernel
theorem dX5_mend_57 : decode cX5_mend 57 = .ok (.iload_n 1, 1) := by decide +kernel
theorem dX5_mend_58 : decode cX5_mend 58 = .ok (.ireturn, 1) := by decide +kernel
set_option maxRecDepth 20000 in
theorem ggX5_ofTooth_X5_needTooth : GoodIn wsX5_ofTooth wsX5_needTooth := goodIn_ca (goodIn_r _ [11, 12, 13, 1, 14, 40, 41, 42, 43, 44, 45, 46, 47, 48, 49, 50, 51, 52] (by decide +kernel) (by decide +kernel)) (goodIn_sub (fun _ h => List.mem_cons_of_mem _ (List.mem_append_left _ (List.mem_append_right _ h))) (by decide +kernel))
set_option maxRecDepth 20000 in
theorem gX5_ofTooth_X5_needTooth : GoodIn wsX5_ofTooth (wsV RX5 62 RX5 yX5_needTooth wsX5_needTooth) := goodIn_app (goodIn_of _ (by decide +kernel)) ggX5_ofTooth_X5_needTooth
set_option maxRecDepth 20000 in
theorem ggX5_ofTooth_X5_needQuestion : GoodIn wsX5_ofTooth wsX5_needQuestion := goodIn_ca (goodIn_r _ [17, 18, 19] (by decide +kernel) (by decide +kernel)) (goodIn_sub (fun _ h => List.mem_cons_of_mem _ (List.mem_append_right _ h)) (by decide +kernel))
set_option maxRecDepth 20000 in
theorem gX5_ofTooth_X5_needQuestion : GoodIn wsX5_ofTooth (va_wsS RX5 155 yX5_needQuestion wsX5_needQuestion) := goodIn_app (goodIn_of _ (by decide +kernel)) ggX5_ofTooth_X5_needQuestion
set_option maxRecDepth 20000 in
theorem ggX5_ofTooth_X0_pinsOfTooth : GoodIn wsX5_ofTooth wsX0_pinsOfTooth := goodIn_r _ [24, 25, 26, 27, 23, 28, 29, 30, 31, 32, 33, 34, 35, 36, 37, 38, 39, 53, 54] (by decide +kernel) (by decide +kernel)
set_option maxRecDepth 20000 in
theorem gX5_ofTooth_X0_pinsOfTooth : GoodIn wsX5_ofTooth (wsV RX5 169 RX0 yX0_pinsOfTooth wsX0_pinsOfTooth) := goodIn_app (goodIn_of _ (by decide +kernel)) ggX5_ofTooth_X0_pinsOfTooth
theorem dX5_ofTooth_0 : decode cX5_ofTooth 0 = .ok (.aload_n 0, 1) := by decide +kernel
theorem dX5_ofTooth_1 : decode cX5_ofTooth 1 = .ok (.iload_n 1, 1) := by decide +kernel
theorem dX5_ofTooth_2 : decode cX5_ofTooth 2 = .ok (.invokevirtual 62, 3) := by decide +kernel
theorem dX5_ofTooth_5 : decode cX5_ofTooth 5 = .ok (.iload_n 2, 1) := by decide +kernel
theorem dX5_ofTooth_6 : decode cX5_ofTooth 6 = .ok (.iconst 5, 1) := by decide +kernel
theorem dX5_ofTooth_7 : decode cX5_ofTooth 7 = .ok (.invokestatic 155, 3) := by decide +kernel
theorem dX5_ofTooth_10 : decode cX5_ofTooth 10 = .ok (.iload_n 2, 1) := by decide +kernel
theorem dX5_ofTooth_11 : decode cX5_ofTooth 11 = .ok (.tableswitch 77 0 3 #[29, 39, 57, 67], 29) := by decide +kernel
theorem dX5_ofTooth_40 : decode cX5_ofTooth 40 = .ok (.aload_n 0, 1) := by decide +kernel
theorem dX5_ofTooth_41 : decode cX5_ofTooth 41 = .ok (.getfield 27, 3) := by decide +kernel
theorem dX5_ofTooth_44 : decode cX5_ofTooth 44 = .ok (.getfield 65, 3) := by decide +kernel
theorem dX5_ofTooth_47 : decode cX5_ofTooth 47 = .ok (.iload_n 1, 1) := by decide +kernel
theorem dX5_ofTooth_48 : decode cX5_ofTooth 48 = .ok (.iaload, 1) := by decide +kernel
theorem dX5_ofTooth_49 : decode cX5_ofTooth 49 = .ok (.ireturn, 1) := by decide +kernel
theorem dX5_ofTooth_50 : decode cX5_ofTooth 50 = .ok (.aload_n 0, 1) := by decide +kernel
theorem dX5_ofTooth_51 : decode cX5_ofTooth 51 = .ok (.getfield 27, 3) := by decide +kernel
theorem dX5_ofTooth_54 : decode cX5_ofTooth 54 = .ok (.getfield 159, 3) := by decide +kernel
theorem dX5_ofTooth_57 : decode cX5_ofTooth 57 = .ok (.iload_n 1, 1) := by decide +kernel
theorem dX5_ofTooth_58 : decode cX5_ofTooth 58 = .ok (.baload, 1) := by decide +kernel
theorem dX5_ofTooth_59 : decode cX5_ofTooth 59 = .ok (.ifCond .eq 7, 3) := by decide +kernel
theorem dX5_ofTooth_62 : decode cX5_ofTooth 62 = .ok (.iconst 1, 1) := by decide +kernel
theorem dX5_ofTooth_63 : decode cX5_ofTooth 63 = .ok (.goto 4, 3) := by decide +kernel
theorem dX5_ofTooth_66 : decode cX5_ofTooth 66 = .ok (.iconst 0, 1) := by decide +kernel
theorem dX5_ofTooth_67 : decode cX5_ofTooth 67 = .ok (.ireturn, 1) := by decide +kernel
theorem dX5_ofTooth_68 : decode cX5_ofTooth 68 = .ok (.aload_n 0, 1) := by decide +kernel
theorem dX5_ofTooth_69 : decode cX5_ofTooth 69 = .ok (.getfield 27, 3) := by decide +kernel
theorem dX5_ofTooth_72 : decode cX5_ofTooth 72 = .ok (.getfield 163, 3) := by decide +kernel
theorem dX5_ofTooth_75 : decode cX5_ofTooth 75 = .ok (.iload_n 1, 1) := by decide +kernel
theorem dX5_ofTooth_76 : decode cX5_ofTooth 76 = .ok (.iaload, 1) := by decide +kernel
theorem dX5_ofTooth_77 : decode cX5_ofTooth 77 = .ok (.ireturn, 1) := by decide +kernel
theorem dX5_ofTooth_78 : decode cX5_ofTooth 78 = .ok (.aload_n 0, 1) := by decide +kernel
theorem dX5_ofTooth_79 : decode cX5_ofTooth 79 = .ok (.getfield 27, 3) := by decide +kernel
theorem dX5_ofTooth_82 : decode cX5_ofTooth 82 = .ok (.getfield 166, 3) := by decide +kernel
theorem dX5_ofTooth_85 : decode cX5_ofTooth 85 = .ok (.iload_n 1, 1) := by decide +kernel
theorem dX5_ofTooth_86 : decode cX5_ofTooth 86 = .ok (.iaload, 1) := by decide +kernel
theorem dX5_ofTooth_87 : decode cX5_ofTooth 87 = .ok (.ireturn, 1) := by decide +kernel
theorem dX5_ofTooth_88 : decode cX5_ofTooth 88 = .ok (.aload_n 0, 1) := by decide +kernel
theorem dX5_ofTooth_89 : decode cX5_ofTooth 89 = .ok (.getfield 32, 3) := by decide +kernel
theorem dX5_ofTooth_92 : decode cX5_ofTooth 92 = .ok (.iload_n 1, 1) := by decide +kernel
theorem dX5_ofTooth_93 : decode cX5_ofTooth 93 = .ok (.invokevirtual 169, 3) := by decide +kernel
theorem dX5_ofTooth_96 : decode cX5_ofTooth 96 = .ok (.ireturn, 1) := by decide +kernel
set_option maxRecDepth 20000 in
theorem ggX5_pins_X5_needTooth : GoodIn wsX5_pins wsX5_needTooth := goodIn_ca (goodIn_r _ [6, 7, 8, 9, 10, 23, 24, 25, 26, 27, 28, 29, 30, 31, 32, 33, 34, 35] (by decide +kernel) (by decide +kernel)) (goodIn_sub (fun _ h => List.mem_cons_of_mem _ (List.mem_append_right _ h)) (by decide +kernel))
set_option maxRecDepth 20000 in
theorem gX5_pins_X5_needTooth : GoodIn wsX5_pins (wsV RX5 62 RX5 yX5_needTooth wsX5_needTooth) := goodIn_app (goodIn_of _ (by decide +kernel)) ggX5_pins_X5_needTooth
set_option maxRecDepth 20000 in
theorem ggX5_pins_X5_needLine : GoodIn wsX5_pins wsX5_needLine := goodIn_ca (goodIn_r _ [13, 7, 8] (by decide +kernel) (by decide +kernel)) (goodIn_sub (fun _ h => List.mem_cons_of_mem _ (List.mem_append_right _ h)) (by decide +kernel))
set_option maxRecDepth 20000 in
theorem gX5_pins_X5_needLine : GoodIn wsX5_pins (va_wsS RX5 96 yX5_needLine wsX5_needLine) := goodIn_app (goodIn_of _ (by decide +kernel)) ggX5_pins_X5_needLine
set_option maxRecDepth 20000 in
theorem ggX5_pins_X0_placesOf : GoodIn wsX5_pins wsX0_placesOf := goodIn_r _ [18, 19, 20, 21, 17, 22, 36, 37] (by decide +kernel) (by decide +kernel)
set_option maxRecDepth 20000 in
theorem gX5_pins_X0_placesOf : GoodIn wsX5_pins (wsV RX5 172 RX0 yX0_placesOf wsX0_placesOf) := goodIn_app (goodIn_of _ (by decide +kernel)) ggX5_pins_X0_placesOf
theorem dX5_pins_0 : decode cX5_pins 0 = .ok (.aload_n 0, 1) := by decide +kernel
theorem dX5_pins_1 : decode cX5_pins 1 = .ok (.iload_n 1, 1) := by decide +kernel
theorem dX5_pins_2 : decode cX5_pins 2 = .ok (.invokevirtual 62, 3) := by decide +kernel
theorem dX5_pins_5 : decode cX5_pins 5 = .ok (.iload_n 2, 1) := by decide +kernel
theorem dX5_pins_6 : decode cX5_pins 6 = .ok (.invokestatic 96, 3) := by decide +kernel
theorem dX5_pins_9 : decode cX5_pins 9 = .ok (.aload_n 0, 1) := by decide +kernel
theorem dX5_pins_10 : decode cX5_pins 10 = .ok (.getfield 32, 3) := by decide +kernel
theorem dX5_pins_13 : decode cX5_pins 13 = .ok (.iload_n 1, 1) := by decide +kernel
theorem dX5_pins_14 : decode cX5_pins 14 = .ok (.iload_n 2, 1) := by decide +kernel
theorem dX5_pins_15 : decode cX5_pins 15 = .ok (.invokevirtual 172, 3) := by decide +kernel
theorem dX5_pins_18 : decode cX5_pins 18 = .ok (.lreturn, 1) := by decide +kernel
set_option maxRecDepth 20000 in
theorem ggX5_wear_X5_needTooth : GoodIn wsX5_wear wsX5_needTooth := goodIn_ca (goodIn_r _ [6, 7, 8, 9, 10, 34, 35, 36, 37, 38, 39, 40, 41, 42, 43, 44, 45, 46] (by decide +kernel) (by decide +kernel)) (goodIn_sub (fun _ h => List.mem_cons_of_mem _ (List.mem_append_right _ h)) (by decide +kernel))
set_option maxRecDepth 20000 in
theorem gX5_wear_X5_needTooth : GoodIn wsX5_wear (wsV RX5 62 RX5 yX5_needTooth wsX5_needTooth) := goodIn_app (goodIn_of _ (by decide +kernel)) ggX5_wear_X5_needTooth
set_option maxRecDepth 20000 in
theorem ggX5_wear_X5_needLine : GoodIn wsX5_wear wsX5_needLine := goodIn_ca (goodIn_r _ [13, 7, 8] (by decide +kernel) (by decide +kernel)) (goodIn_sub (fun _ h => List.mem_cons_of_mem _ (List.mem_append_right _ h)) (by decide +kernel))
set_option maxRecDepth 20000 in
theorem gX5_wear_X5_needLine : GoodIn wsX5_wear (va_wsS RX5 96 yX5_needLine wsX5_needLine) := goodIn_app (goodIn_of _ (by decide +kernel)) ggX5_wear_X5_needLine
set_option maxRecDepth 20000 in
theorem ggX5_wear_X5_needPlace : GoodIn wsX5_wear wsX5_needPlace := goodIn_ca (goodIn_r _ [16, 7, 8] (by decide +kernel) (by decide +kernel)) (goodIn_sub (fun _ h => List.mem_cons_of_mem _ (List.mem_append_right _ h)) (by decide +kernel))
set_option maxRecDepth 20000 in
theorem gX5_wear_X5_needPlace : GoodIn wsX5_wear (va_wsS RX5 176 yX5_needPlace wsX5_needPlace) := goodIn_app (goodIn_of _ (by decide +kernel)) ggX5_wear_X5_needPlace
set_option maxRecDepth 20000 in
theorem ggX5_wear_X0_hasPin : GoodIn wsX5_wear wsX0_hasPin := goodIn_r _ [21, 22, 23, 24, 20, 25, 47, 48] (by decide +kernel) (by decide +kernel)
set_option maxRecDepth 20000 in
theorem gX5_wear_X0_hasPin : GoodIn wsX5_wear (wsV RX5 179 RX0 yX0_hasPin wsX0_hasPin) := goodIn_app (goodIn_of _ (by decide +kernel)) ggX5_wear_X0_hasPin
set_option maxRecDepth 20000 in
theorem ggX5_wear_X0_wearOf : GoodIn wsX5_wear wsX0_wearOf := goodIn_r _ [29, 30, 31, 32, 20, 33, 47, 48] (by decide +kernel) (by decide +kernel)
set_option maxRecDepth 20000 in
theorem gX5_wear_X0_wearOf : GoodIn wsX5_wear (wsV RX5 182 RX0 yX0_wearOf wsX0_wearOf) := goodIn_app (goodIn_of _ (by decide +kernel)) ggX5_wear_X0_wearOf
theorem dX5_wear_0 : decode cX5_wear 0 = .ok (.aload_n 0, 1) := by decide +kernel
theorem dX5_wear_1 : decode cX5_wear 1 = .ok (.iload_n 1, 1) := by decide +kernel
theorem dX5_wear_2 : decode cX5_wear 2 = .ok (.invokevirtual 62, 3) := by decide +kernel
theorem dX5_wear_5 : decode cX5_wear 5 = .ok (.iload_n 2, 1) := by decide +kernel
theorem dX5_wear_6 : decode cX5_wear 6 = .ok (.invokestatic 96, 3) := by decide +kernel
theorem dX5_wear_9 : decode cX5_wear 9 = .ok (.iload_n 3, 1) := by decide +kernel
theorem dX5_wear_10 : decode cX5_wear 10 = .ok (.invokestatic 176, 3) := by decide +kernel
theorem dX5_wear_13 : decode cX5_wear 13 = .ok (.aload_n 0, 1) := by decide +kernel
theorem dX5_wear_14 : decode cX5_wear 14 = .ok (.getfield 32, 3) := by decide +kernel
theorem dX5_wear_17 : decode cX5_wear 17 = .ok (.iload_n 1, 1) := by decide +kernel
theorem dX5_wear_18 : decode cX5_wear 18 = .ok (.iload_n 2, 1) := by decide +kernel
theorem dX5_wear_19 : decode cX5_wear 19 = .ok (.iload_n 3, 1) := by decide +kernel
theorem dX5_wear_20 : decode cX5_wear 20 = .ok (.invokevirtual 179, 3) := by decide +kernel
theorem dX5_wear_23 : decode cX5_wear 23 = .ok (.ifCond .eq 16, 3) := by decide +kernel
theorem dX5_wear_26 : decode cX5_wear 26 = .ok (.aload_n 0, 1) := by decide +kernel
theorem dX5_wear_27 : decode cX5_wear 27 = .ok (.getfield 32, 3) := by decide +kernel
theorem dX5_wear_30 : decode cX5_wear 30 = .ok (.iload_n 1, 1) := by decide +kernel
theorem dX5_wear_31 : decode cX5_wear 31 = .ok (.iload_n 2, 1) := by decide +kernel
theorem dX5_wear_32 : decode cX5_wear 32 = .ok (.iload_n 3, 1) := by decide +kernel
theorem dX5_wear_33 : decode cX5_wear 33 = .ok (.invokevirtual 182, 3) := by decide +kernel
theorem dX5_wear_36 : decode cX5_wear 36 = .ok (.goto 4, 3) := by decide +kernel
theorem dX5_wear_39 : decode cX5_wear 39 = .ok (.iconst (-1), 1) := by decide +kernel
theorem dX5_wear_40 : decode cX5_wear 40 = .ok (.ireturn, 1) := by decide +kernel
set_option maxRecDepth 20000 in
theorem ggX5_row_X5_needPlace : GoodIn wsX5_row wsX5_needPlace := goodIn_ca (goodIn_r _ [9, 10, 11] (by decide +kernel) (by decide +kernel)) (goodIn_sub (fun _ h => List.mem_cons_of_mem _ (List.mem_append_right _ h)) (by decide +kernel))
set_option maxRecDepth 20000 in
theorem gX5_row_X5_needPlace : GoodIn wsX5_row (va_wsS RX5 176 yX5_needPlace wsX5_needPlace) := goodIn_app (goodIn_of _ (by decide +kernel)) ggX5_row_X5_needPlace
set_option maxRecDepth 20000 in
theorem ggX5_row_J4_init_da8c8 : GoodIn wsX5_row wsJ4_init_da8c8 := goodIn_r _ [14, 15, 16, 17, 18, 19, 20, 21, 22, 23, 24, 25, 26, 27, 28, 29, 30, 31, 32, 33, 208, 209, 210, 211] (by decide +kernel) (by decide +kernel)
set_option maxRecDepth 20000 in
theorem gX5_row_J4_init_da8c8 : GoodIn wsX5_row (wsJ4_init_da8c8) := ggX5_row_J4_init_da8c8
set_option maxRecDepth 20000 in
theorem ggX5_row_X5_signOf : GoodIn wsX5_row wsX5_signOf := goodIn_r _ [37, 4, 38, 39, 40, 41, 42, 43, 44, 45, 46, 47, 48, 49, 50, 212, 213, 214, 215, 216, 217, 218, 219, 220, 221, 222, 223, 224, 225, 226, 227, 228, 229, 230, 231, 232, 233, 234, 235, 236, 237] (by decide +kernel) (by decide +kernel)
set_option maxRecDepth 20000 in
theorem gX5_row_X5_signOf : GoodIn wsX5_row (wsV RX5 188 RX5 yX5_signOf wsX5_signOf) := goodIn_app (goodIn_of _ (by decide +kernel)) ggX5_row_X5_signOf
set_option maxRecDepth 20000 in
theorem ggX5_row_J4_append_cf468 : GoodIn wsX5_row wsJ4_append_cf468 := goodIn_r _ [54, 55, 56, 57, 58, 17, 59, 60, 24, 61, 62, 63, 64, 65, 25, 66, 67, 68, 69, 70, 71, 72, 73, 74, 75, 76, 77, 78, 79, 80, 81, 82, 83, 84, 85, 86, 87, 88, 89, 90, 91, 92, 93, 23, 94, 95, 96, 97, 98, 99, 100, 101, 102, 103, 104, 105, 22, 106, 107, 108, 109, 110, 111, 112, 113, 114, 26, 27, 28, 29, 30, 31, 32, 33, 115, 116, 117, 118, 119, 120, 121, 122, 123, 124, 125, 126, 127, 128, 129, 130, 131, 132, 133, 134, 135, 136, 137, 138, 139, 140, 141, 142, 143, 144, 145, 146, 147, 148, 149, 150, 151, 152, 153, 208, 209, 210, 211] (by decide +kernel) (by decide +kernel)
set_option maxRecDepth 20000 in
theorem gX5_row_J4_append_cf468 : GoodIn wsX5_row (wsV RX5 192 RJ4 yJ4_append_cf468 wsJ4_append_cf468) := goodIn_app (goodIn_of _ (by decide +kernel)) ggX5_row_J4_append_cf468
set_option maxRecDepth 20000 in
theorem ggX5_row_J4_toString_0e30d : GoodIn wsX5_row wsJ4_toString_0e30d := goodIn_r _ [157, 158, 159, 129, 160, 161, 162, 163, 164, 165, 166, 20, 21, 167, 168, 169, 170, 171, 172, 173, 174, 17, 175, 24, 176, 177, 178, 179, 180, 3, 181, 182, 57, 183, 184, 60, 185, 102, 103, 104, 105, 22, 25, 186, 187, 86, 188, 88, 89, 90, 91, 92, 93, 189, 190, 191, 23, 94, 95, 78, 96, 97, 98, 99, 100, 192, 193, 194, 195, 196, 28, 197, 198, 199, 200, 121, 122, 123, 124, 125, 126, 127, 128, 130, 131, 132, 133, 134, 135, 201, 202, 203, 139, 140, 141, 30, 31, 32, 33, 204, 205, 206, 207, 238, 239, 240, 241, 208, 209, 210, 211] (by decide +kernel) (by decide +kernel)
set_option maxRecDepth 20000 in
theorem gX5_row_J4_toString_0e30d : GoodIn wsX5_row (wsV RX5 196 RJ4 yJ4_toString_0e30d wsJ4_toString_0e30d) := goodIn_app (goodIn_of _ (by decide +kernel)) ggX5_row_J4_toString_0e30d
theorem dX5_row_0 : decode cX5_row 0 = .ok (.iload_n 1, 1) := by decide +kernel
theorem dX5_row_1 : decode cX5_row 1 = .ok (.invokestatic 176, 3) := by decide +kernel
theorem dX5_row_4 : decode cX5_row 4 = .ok (.new 185, 3) := by decide +kernel
theorem dX5_row_7 : decode cX5_row 7 = .ok (.dup, 1) := by decide +kernel
theorem dX5_row_8 : decode cX5_row 8 = .ok (.invokespecial 187, 3) := by decide +kernel
theorem dX5_row_11 : decode cX5_row 11 = .ok (.astore_n 2, 1) := by decide +kernel
theorem dX5_row_12 : decode cX5_row 12 = .ok (.iconst 0, 1) := by decide +kernel
theorem dX5_row_13 : decode cX5_row 13 = .ok (.istore_n 3, 1) := by decide +kernel
theorem dX5_row_14 : decode cX5_row 14 = .ok (.iload_n 3, 1) := by decide +kernel
theorem dX5_row_15 : decode cX5_row 15 = .ok (.aload_n 0, 1) := by decide +kernel
theorem dX5_row_16 : decode cX5_row 16 = .ok (.getfield 27, 3) := by decide +kernel
theorem dX5_row_19 : decode cX5_row 19 = .ok (.getfield 45, 3) := by decide +kernel
theorem dX5_row_22 : decode cX5_row 22 = .ok (.if_icmp .ge 20, 3) := by decide +kernel
theorem dX5_row_25 : decode cX5_row 25 = .ok (.aload_n 2, 1) := by decide +kernel
theorem dX5_row_26 : decode cX5_row 26 = .ok (.aload_n 0, 1) := by decide +kernel
theorem dX5_row_27 : decode cX5_row 27 = .ok (.iload_n 3, 1) := by decide +kernel
theorem dX5_row_28 : decode cX5_row 28 = .ok (.iload_n 1, 1) := by decide +kernel
theorem dX5_row_29 : decode cX5_row 29 = .ok (.invokevirtual 188, 3) := by decide +kernel
theorem dX5_row_32 : decode cX5_row 32 = .ok (.invokevirtual 192, 3) := by decide +kernel
theorem dX5_row_35 : decode cX5_row 35 = .ok (.pop, 1) := by decide +kernel
theorem dX5_row_36 : decode cX5_row 36 = .ok (.iinc 3 1, 3) := by decide +kernel
theorem dX5_row_39 : decode cX5_row 39 = .ok (.goto (-25), 3) := by decide +kernel
theorem dX5_row_42 : decode cX5_row 42 = .ok (.aload_n 2, 1) := by decide +kernel
theorem dX5_row_43 : decode cX5_row 43 = .ok (.invokevirtual 196, 3) := by decide +kernel
theorem dX5_row_46 : decode cX5_row 46 = .ok (.areturn, 1) := by decide +kernel
set_option maxRecDepth 20000 in
theorem ggX5_ofTune_X5_needTune : GoodIn wsX5_ofTune wsX5_needTune := goodIn_ca (goodIn_r _ [7, 8, 9, 1, 10, 47, 48, 49, 50, 51, 52, 53, 54, 55, 56] (by decide +kernel) (by decide +kernel)) (goodIn_sub (fun _ h => List.mem_cons_of_mem _ (List.mem_append_left _ (List.mem_append_right _ h))) (by decide +kernel))
set_option maxRecDepth 20000 in
theorem gX5_ofTune_X5_needTune : GoodIn wsX5_ofTune (wsV RX5 72 RX5 yX5_needTune wsX5_needTune) := goodIn_app (goodIn_of _ (by decide +kernel)) ggX5_ofTune_X5_needTune
set_option maxRecDepth 20000 in
theorem ggX5_ofTune_X5_needQuestion : GoodIn wsX5_ofTune wsX5_needQuestion := goodIn_ca (goodIn_r _ [13, 14, 15] (by decide +kernel) (by decide +kernel)) (goodIn_sub (fun _ h => List.mem_cons_of_mem _ (List.mem_append_right _ h)) (by decide +kernel))
set_option maxRecDepth 20000 in
theorem gX5_ofTune_X5_needQuestion : GoodIn wsX5_ofTune (va_wsS RX5 155 yX5_needQuestion wsX5_needQuestion) := goodIn_app (goodIn_of _ (by decide +kernel)) ggX5_ofTune_X5_needQuestion
set_option maxRecDepth 20000 in
theorem ggX5_ofTune_X3_lowest : GoodIn wsX5_ofTune wsX3_lowest := goodIn_r _ [20, 21, 22, 23, 24, 19, 25, 26, 54, 55, 56] (by decide +kernel) (by decide +kernel)
set_option maxRecDepth 20000 in
theorem gX5_ofTune_X3_lowest : GoodIn wsX5_ofTune (wsV RX5 200 RX3 yX3_lowest wsX3_lowest) := goodIn_app (goodIn_of _ (by decide +kernel)) ggX5_ofTune_X3_lowest
set_option maxRecDepth 20000 in
theorem ggX5_ofTune_X3_highest : GoodIn wsX5_ofTune wsX3_highest := goodIn_r _ [30, 21, 31, 32, 33, 34, 22, 23, 24, 19, 25, 26, 54, 55, 56] (by decide +kernel) (by decide +kernel)
set_option maxRecDepth 20000 in
theorem gX5_ofTune_X3_highest : GoodIn wsX5_ofTune (wsV RX5 203 RX3 yX3_highest wsX3_highest) := goodIn_app (goodIn_of _ (by decide +kernel)) ggX5_ofTune_X3_highest
set_option maxRecDepth 20000 in
theorem ggX5_ofTune_X3_times : GoodIn wsX5_ofTune wsX3_times := goodIn_r _ [38, 21, 39, 40, 41, 19, 42, 26, 54, 55, 56] (by decide +kernel) (by decide +kernel)
set_option maxRecDepth 20000 in
theorem gX5_ofTune_X3_times : GoodIn wsX5_ofTune (wsV RX5 206 RX3 yX3_times wsX3_times) := goodIn_app (goodIn_of _ (by decide +kernel)) ggX5_ofTune_X3_times
set_option maxRecDepth 20000 in
theorem ggX5_ofTune_X3_mostAtOnce : GoodIn wsX5_ofTune wsX3_mostAtOnce := goodIn_r _ [46, 21, 31, 32, 33, 34, 39, 40, 41, 19, 42, 26, 54, 55, 56] (by decide +kernel) (by decide +kernel)
set_option maxRecDepth 20000 in
theorem gX5_ofTune_X3_mostAtOnce : GoodIn wsX5_ofTune (wsV RX5 209 RX3 yX3_mostAtOnce wsX3_mostAtOnce) := goodIn_app (goodIn_of _ (by decide +kernel)) ggX5_ofTune_X3_mostAtOnce
theorem dX5_ofTune_0 : decode cX5_ofTune 0 = .ok (.aload_n 0, 1) := by decide +kernel
theorem dX5_ofTune_1 : decode cX5_ofTune 1 = .ok (.iload_n 1, 1) := by decide +kernel
theorem dX5_ofTune_2 : decode cX5_ofTune 2 = .ok (.invokevirtual 72, 3) := by decide +kernel
theorem dX5_ofTune_5 : decode cX5_ofTune 5 = .ok (.iload_n 2, 1) := by decide +kernel
theorem dX5_ofTune_6 : decode cX5_ofTune 6 = .ok (.iconst 5, 1) := by decide +kernel
theorem dX5_ofTune_7 : decode cX5_ofTune 7 = .ok (.invokestatic 155, 3) := by decide +kernel
theorem dX5_ofTune_10 : decode cX5_ofTune 10 = .ok (.iload_n 2, 1) := by decide +kernel
theorem dX5_ofTune_11 : decode cX5_ofTune 11 = .ok (.tableswitch 66 0 3 #[29, 39, 48, 57], 29) := by decide +kernel
theorem dX5_ofTune_40 : decode cX5_ofTune 40 = .ok (.aload_n 0, 1) := by decide +kernel
theorem dX5_ofTune_41 : decode cX5_ofTune 41 = .ok (.getfield 10, 3) := by decide +kernel
theorem dX5_ofTune_44 : decode cX5_ofTune 44 = .ok (.getfield 84, 3) := by decide +kernel
theorem dX5_ofTune_47 : decode cX5_ofTune 47 = .ok (.iload_n 1, 1) := by decide +kernel
theorem dX5_ofTune_48 : decode cX5_ofTune 48 = .ok (.iaload, 1) := by decide +kernel
theorem dX5_ofTune_49 : decode cX5_ofTune 49 = .ok (.ireturn, 1) := by decide +kernel
theorem dX5_ofTune_50 : decode cX5_ofTune 50 = .ok (.aload_n 0, 1) := by decide +kernel
theorem dX5_ofTune_51 : decode cX5_ofTune 51 = .ok (.getfield 10, 3) := by decide +kernel
theorem dX5_ofTune_54 : decode cX5_ofTune 54 = .ok (.iload_n 1, 1) := by decide +kernel
theorem dX5_ofTune_55 : decode cX5_ofTune 55 = .ok (.invokevirtual 200, 3) := by decide +kernel
theorem dX5_ofTune_58 : decode cX5_ofTune 58 = .ok (.ireturn, 1) := by decide +kernel
theorem dX5_ofTune_59 : decode cX5_ofTune 59 = .ok (.aload_n 0, 1) := by decide +kernel
theorem dX5_ofTune_60 : decode cX5_ofTune 60 = .ok (.getfield 10, 3) := by decide +kernel
theorem dX5_ofTune_63 : decode cX5_ofTune 63 = .ok (.iload_n 1, 1) := by decide +kernel
theorem dX5_ofTune_64 : decode cX5_ofTune 64 = .ok (.invokevirtual 203, 3) := by decide +kernel
theorem dX5_ofTune_67 : decode cX5_ofTune 67 = .ok (.ireturn, 1) := by decide +kernel
theorem dX5_ofTune_68 : decode cX5_ofTune 68 = .ok (.aload_n 0, 1) := by decide +kernel
theorem dX5_ofTune_69 : decode cX5_ofTune 69 = .ok (.getfield 10, 3) := by decide +kernel
theorem dX5_ofTune_72 : decode cX5_ofTune 72 = .ok (.iload_n 1, 1) := by decide +kernel
theorem dX5_ofTune_73 : decode cX5_ofTune 73 = .ok (.invokevirtual 206, 3) := by decide +kernel
theorem dX5_ofTune_76 : decode cX5_ofTune 76 = .ok (.ireturn, 1) := by decide +kernel
theorem dX5_ofTune_77 : decode cX5_ofTune 77 = .ok (.aload_n 0, 1) := by decide +kernel
theorem dX5_ofTune_78 : decode cX5_ofTune 78 = .ok (.getfield 10, 3) := by decide +kernel
theorem dX5_ofTune_81 : decode cX5_ofTune 81 = .ok (.iload_n 1, 1) := by decide +kernel
theorem dX5_ofTune_82 : decode cX5_ofTune 82 = .ok (.invokevirtual 209, 3) := by decide +kernel
theorem dX5_ofTune_85 : decode cX5_ofTune 85 = .ok (.ireturn, 1) := by decide +kernel
set_option maxRecDepth 20000 in
theorem ggX5_likeness_X5_needTune : GoodIn wsX5_likeness wsX5_needTune := goodIn_ca (goodIn_r _ [11, 12, 13, 1, 14, 43, 44, 45, 46, 47, 48, 49, 50, 51, 52] (by decide +kernel) (by decide +kernel)) (goodIn_sub (fun _ h => List.mem_cons_of_mem _ (List.mem_append_left _ (List.mem_append_right _ h))) (by decide +kernel))
set_option maxRecDepth 20000 in
theorem gX5_likeness_X5_needTune : GoodIn wsX5_likeness (wsV RX5 72 RX5 yX5_needTune wsX5_needTune) := goodIn_app (goodIn_of _ (by decide +kernel)) ggX5_likeness_X5_needTune
set_option maxRecDepth 20000 in
theorem ggX5_likeness_X5_needKey : GoodIn wsX5_likeness wsX5_needKey := goodIn_ca (goodIn_r _ [17, 18, 19] (by decide +kernel) (by decide +kernel)) (goodIn_sub (fun _ h => List.mem_cons_of_mem _ (List.mem_append_right _ h)) (by decide +kernel))
set_option maxRecDepth 20000 in
theorem gX5_likeness_X5_needKey : GoodIn wsX5_likeness (va_wsS RX5 99 yX5_needKey wsX5_needKey) := goodIn_app (goodIn_of _ (by decide +kernel)) ggX5_likeness_X5_needKey
set_option maxRecDepth 20000 in
theorem ggX5_likeness_X3_shared : GoodIn wsX5_likeness wsX3_shared := goodIn_r _ [24, 25, 26, 27, 28, 23, 29, 30, 31, 32, 33, 34, 35, 36, 37, 38, 39, 40, 41, 42, 50, 51, 52] (by decide +kernel) (by decide +kernel)
set_option maxRecDepth 20000 in
theorem gX5_likeness_X3_shared : GoodIn wsX5_likeness (wsV RX5 215 RX3 yX3_shared wsX3_shared) := goodIn_app (goodIn_of _ (by decide +kernel)) ggX5_likeness_X3_shared
