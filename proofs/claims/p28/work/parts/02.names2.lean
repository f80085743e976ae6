theorem dX0_lineAt_0 : decode cX0_lineAt 0 = .ok (.iload_n 1, 1) := by decide +kernel
theorem dX0_lineAt_1 : decode cX0_lineAt 1 = .ok (.bipush 24, 2) := by decide +kernel
theorem dX0_lineAt_3 : decode cX0_lineAt 3 = .ok (.imul, 1) := by decide +kernel
theorem dX0_lineAt_4 : decode cX0_lineAt 4 = .ok (.iload_n 0, 1) := by decide +kernel
theorem dX0_lineAt_5 : decode cX0_lineAt 5 = .ok (.iadd, 1) := by decide +kernel
theorem dX0_lineAt_6 : decode cX0_lineAt 6 = .ok (.ireturn, 1) := by decide +kernel
theorem dX0_pinAt_0 : decode cX0_pinAt 0 = .ok (.iload_n 1, 1) := by decide +kernel
theorem dX0_pinAt_1 : decode cX0_pinAt 1 = .ok (.bipush 24, 2) := by decide +kernel
theorem dX0_pinAt_3 : decode cX0_pinAt 3 = .ok (.imul, 1) := by decide +kernel
theorem dX0_pinAt_4 : decode cX0_pinAt 4 = .ok (.iload_n 0, 1) := by decide +kernel
theorem dX0_pinAt_5 : decode cX0_pinAt 5 = .ok (.iadd, 1) := by decide +kernel
theorem dX0_pinAt_6 : decode cX0_pinAt 6 = .ok (.bipush 64, 2) := by decide +kernel
theorem dX0_pinAt_8 : decode cX0_pinAt 8 = .ok (.imul, 1) := by decide +kernel
theorem dX0_pinAt_9 : decode cX0_pinAt 9 = .ok (.iload_n 2, 1) := by decide +kernel
theorem dX0_pinAt_10 : decode cX0_pinAt 10 = .ok (.iadd, 1) := by decide +kernel
theorem dX0_pinAt_11 : decode cX0_pinAt 11 = .ok (.ireturn, 1) := by decide +kernel
theorem dX0_placesNear_0 : decode cX0_placesNear 0 = .ok (.iload_n 0, 1) := by decide +kernel
theorem dX0_placesNear_1 : decode cX0_placesNear 1 = .ok (.iconst 3, 1) := by decide +kernel
theorem dX0_placesNear_2 : decode cX0_placesNear 2 = .ok (.isub, 1) := by decide +kernel
theorem dX0_placesNear_3 : decode cX0_placesNear 3 = .ok (.bipush 63, 2) := by decide +kernel
theorem dX0_placesNear_5 : decode cX0_placesNear 5 = .ok (.iand, 1) := by decide +kernel
theorem dX0_placesNear_6 : decode cX0_placesNear 6 = .ok (.istore_n 1, 1) := by decide +kernel
theorem dX0_placesNear_7 : decode cX0_placesNear 7 = .ok (.ldc2_w 19, 3) := by decide +kernel
theorem dX0_placesNear_10 : decode cX0_placesNear 10 = .ok (.iload_n 1, 1) := by decide +kernel
theorem dX0_placesNear_11 : decode cX0_placesNear 11 = .ok (.lshl, 1) := by decide +kernel
theorem dX0_placesNear_12 : decode cX0_placesNear 12 = .ok (.ldc2_w 19, 3) := by decide +kernel
theorem dX0_placesNear_15 : decode cX0_placesNear 15 = .ok (.iload_n 1, 1) := by decide +kernel
theorem dX0_placesNear_16 : decode cX0_placesNear 16 = .ok (.ineg, 1) := by decide +kernel
theorem dX0_placesNear_17 : decode cX0_placesNear 17 = .ok (.lushr, 1) := by decide +kernel
theorem dX0_placesNear_18 : decode cX0_placesNear 18 = .ok (.lor, 1) := by decide +kernel
theorem dX0_placesNear_19 : decode cX0_placesNear 19 = .ok (.lreturn, 1) := by decide +kernel
set_option maxRecDepth 20000 in
theorem ggX0_placesOf_X0_lineAt : GoodIn wsX0_placesOf wsX0_lineAt := goodIn_r _ [5] (by decide +kernel) (by decide +kernel)
set_option maxRecDepth 20000 in
theorem gX0_placesOf_X0_lineAt : GoodIn wsX0_placesOf (va_wsS RX0 21 yX0_lineAt wsX0_lineAt) := goodIn_app (goodIn_of _ (by decide +kernel)) ggX0_placesOf_X0_lineAt
theorem dX0_placesOf_0 : decode cX0_placesOf 0 = .ok (.aload_n 0, 1) := by decide +kernel
theorem dX0_placesOf_1 : decode cX0_placesOf 1 = .ok (.getfield 9, 3) := by decide +kernel
theorem dX0_placesOf_4 : decode cX0_placesOf 4 = .ok (.iload_n 1, 1) := by decide +kernel
theorem dX0_placesOf_5 : decode cX0_placesOf 5 = .ok (.iload_n 2, 1) := by decide +kernel
theorem dX0_placesOf_6 : decode cX0_placesOf 6 = .ok (.invokestatic 21, 3) := by decide +kernel
theorem dX0_placesOf_9 : decode cX0_placesOf 9 = .ok (.laload, 1) := by decide +kernel
theorem dX0_placesOf_10 : decode cX0_placesOf 10 = .ok (.lreturn, 1) := by decide +kernel
set_option maxRecDepth 20000 in
theorem ggX0_wearOf_X0_pinAt : GoodIn wsX0_wearOf wsX0_pinAt := goodIn_r _ [5] (by decide +kernel) (by decide +kernel)
set_option maxRecDepth 20000 in
theorem gX0_wearOf_X0_pinAt : GoodIn wsX0_wearOf (va_wsS RX0 25 yX0_pinAt wsX0_pinAt) := goodIn_app (goodIn_of _ (by decide +kernel)) ggX0_wearOf_X0_pinAt
theorem dX0_wearOf_0 : decode cX0_wearOf 0 = .ok (.aload_n 0, 1) := by decide +kernel
theorem dX0_wearOf_1 : decode cX0_wearOf 1 = .ok (.getfield 15, 3) := by decide +kernel
theorem dX0_wearOf_4 : decode cX0_wearOf 4 = .ok (.iload_n 1, 1) := by decide +kernel
theorem dX0_wearOf_5 : decode cX0_wearOf 5 = .ok (.iload_n 2, 1) := by decide +kernel
theorem dX0_wearOf_6 : decode cX0_wearOf 6 = .ok (.iload_n 3, 1) := by decide +kernel
theorem dX0_wearOf_7 : decode cX0_wearOf 7 = .ok (.invokestatic 25, 3) := by decide +kernel
theorem dX0_wearOf_10 : decode cX0_wearOf 10 = .ok (.iaload, 1) := by decide +kernel
theorem dX0_wearOf_11 : decode cX0_wearOf 11 = .ok (.ireturn, 1) := by decide +kernel
set_option maxRecDepth 20000 in
theorem ggX0_hasPin_X0_lineAt : GoodIn wsX0_hasPin wsX0_lineAt := goodIn_r _ [5] (by decide +kernel) (by decide +kernel)
set_option maxRecDepth 20000 in
theorem gX0_hasPin_X0_lineAt : GoodIn wsX0_hasPin (va_wsS RX0 21 yX0_lineAt wsX0_lineAt) := goodIn_app (goodIn_of _ (by decide +kernel)) ggX0_hasPin_X0_lineAt
theorem dX0_hasPin_0 : decode cX0_hasPin 0 = .ok (.aload_n 0, 1) := by decide +kernel
theorem dX0_hasPin_1 : decode cX0_hasPin 1 = .ok (.getfield 9, 3) := by decide +kernel
theorem dX0_hasPin_4 : decode cX0_hasPin 4 = .ok (.iload_n 1, 1) := by decide +kernel
theorem dX0_hasPin_5 : decode cX0_hasPin 5 = .ok (.iload_n 2, 1) := by decide +kernel
theorem dX0_hasPin_6 : decode cX0_hasPin 6 = .ok (.invokestatic 21, 3) := by decide +kernel
theorem dX0_hasPin_9 : decode cX0_hasPin 9 = .ok (.laload, 1) := by decide +kernel
theorem dX0_hasPin_10 : decode cX0_hasPin 10 = .ok (.iload_n 3, 1) := by decide +kernel
theorem dX0_hasPin_11 : decode cX0_hasPin 11 = .ok (.lushr, 1) := by decide +kernel
theorem dX0_hasPin_12 : decode cX0_hasPin 12 = .ok (.lconst 1, 1) := by decide +kernel
theorem dX0_hasPin_13 : decode cX0_hasPin 13 = .ok (.land, 1) := by decide +kernel
theorem dX0_hasPin_14 : decode cX0_hasPin 14 = .ok (.lconst 1, 1) := by decide +kernel
theorem dX0_hasPin_15 : decode cX0_hasPin 15 = .ok (.lcmp, 1) := by decide +kernel
theorem dX0_hasPin_16 : decode cX0_hasPin 16 = .ok (.ifCond .ne 7, 3) := by decide +kernel
theorem dX0_hasPin_19 : decode cX0_hasPin 19 = .ok (.iconst 1, 1) := by decide +kernel
theorem dX0_hasPin_20 : decode cX0_hasPin 20 = .ok (.goto 4, 3) := by decide +kernel
theorem dX0_hasPin_23 : decode cX0_hasPin 23 = .ok (.iconst 0, 1) := by decide +kernel
theorem dX0_hasPin_24 : decode cX0_hasPin 24 = .ok (.ireturn, 1) := by decide +kernel
set_option maxRecDepth 20000 in
theorem ggX0_setPin_X0_lineAt : GoodIn wsX0_setPin wsX0_lineAt := goodIn_r _ [6] (by decide +kernel) (by decide +kernel)
set_option maxRecDepth 20000 in
theorem gX0_setPin_X0_lineAt : GoodIn wsX0_setPin (va_wsS RX0 21 yX0_lineAt wsX0_lineAt) := goodIn_app (goodIn_of _ (by decide +kernel)) ggX0_setPin_X0_lineAt
set_option maxRecDepth 20000 in
theorem ggX0_setPin_X0_pinAt : GoodIn wsX0_setPin wsX0_pinAt := goodIn_r _ [9] (by decide +kernel) (by decide +kernel)
set_option maxRecDepth 20000 in
theorem gX0_setPin_X0_pinAt : GoodIn wsX0_setPin (va_wsS RX0 25 yX0_pinAt wsX0_pinAt) := goodIn_app (goodIn_of _ (by decide +kernel)) ggX0_setPin_X0_pinAt
theorem dX0_setPin_0 : decode cX0_setPin 0 = .ok (.aload_n 0, 1) := by decide +kernel
theorem dX0_setPin_1 : decode cX0_setPin 1 = .ok (.getfield 9, 3) := by decide +kernel
theorem dX0_setPin_4 : decode cX0_setPin 4 = .ok (.iload_n 1, 1) := by decide +kernel
theorem dX0_setPin_5 : decode cX0_setPin 5 = .ok (.iload_n 2, 1) := by decide +kernel
theorem dX0_setPin_6 : decode cX0_setPin 6 = .ok (.invokestatic 21, 3) := by decide +kernel
theorem dX0_setPin_9 : decode cX0_setPin 9 = .ok (.dup2, 1) := by decide +kernel
theorem dX0_setPin_10 : decode cX0_setPin 10 = .ok (.laload, 1) := by decide +kernel
theorem dX0_setPin_11 : decode cX0_setPin 11 = .ok (.lconst 1, 1) := by decide +kernel
theorem dX0_setPin_12 : decode cX0_setPin 12 = .ok (.iload_n 3, 1) := by decide +kernel
theorem dX0_setPin_13 : decode cX0_setPin 13 = .ok (.lshl, 1) := by decide +kernel
theorem dX0_setPin_14 : decode cX0_setPin 14 = .ok (.lor, 1) := by decide +kernel
theorem dX0_setPin_15 : decode cX0_setPin 15 = .ok (.lastore, 1) := by decide +kernel
theorem dX0_setPin_16 : decode cX0_setPin 16 = .ok (.aload_n 0, 1) := by decide +kernel
theorem dX0_setPin_17 : decode cX0_setPin 17 = .ok (.getfield 15, 3) := by decide +kernel
theorem dX0_setPin_20 : decode cX0_setPin 20 = .ok (.iload_n 1, 1) := by decide +kernel
theorem dX0_setPin_21 : decode cX0_setPin 21 = .ok (.iload_n 2, 1) := by decide +kernel
theorem dX0_setPin_22 : decode cX0_setPin 22 = .ok (.iload_n 3, 1) := by decide +kernel
theorem dX0_setPin_23 : decode cX0_setPin 23 = .ok (.invokestatic 25, 3) := by decide +kernel
theorem dX0_setPin_26 : decode cX0_setPin 26 = .ok (.iconst 0, 1) := by decide +kernel
theorem dX0_setPin_27 : decode cX0_setPin 27 = .ok (.iastore, 1) := by decide +kernel
theorem dX0_setPin_28 : decode cX0_setPin 28 = .ok (.return_, 1) := by decide +kernel
set_option maxRecDepth 20000 in
theorem ggX0_pinsOfTooth_X0_placesOf : GoodIn wsX0_pinsOfTooth wsX0_placesOf := goodIn_r _ [5, 6, 7, 8, 4, 9, 17, 18] (by decide +kernel) (by decide +kernel)
set_option maxRecDepth 20000 in
theorem gX0_pinsOfTooth_X0_placesOf : GoodIn wsX0_pinsOfTooth (wsV RX0 29 RX0 yX0_placesOf wsX0_placesOf) := goodIn_app (goodIn_of _ (by decide +kernel)) ggX0_pinsOfTooth_X0_placesOf
set_option maxRecDepth 20000 in
theorem ggX0_pinsOfTooth_J13_bitCount_95d88 : GoodIn wsX0_pinsOfTooth wsJ13_bitCount_95d88 := goodIn_r _ [13, 14, 15, 16] (by decide +kernel) (by decide +kernel)
set_option maxRecDepth 20000 in
theorem gX0_pinsOfTooth_J13_bitCount_95d88 : GoodIn wsX0_pinsOfTooth (va_wsS RX0 33 yJ13_bitCount_95d88 wsJ13_bitCount_95d88) := goodIn_app (goodIn_of _ (by decide +kernel)) ggX0_pinsOfTooth_J13_bitCount_95d88
theorem dX0_pinsOfTooth_0 : decode cX0_pinsOfTooth 0 = .ok (.iconst 0, 1) := by decide +kernel
theorem dX0_pinsOfTooth_1 : decode cX0_pinsOfTooth 1 = .ok (.istore_n 2, 1) := by decide +kernel
theorem dX0_pinsOfTooth_2 : decode cX0_pinsOfTooth 2 = .ok (.iconst 0, 1) := by decide +kernel
theorem dX0_pinsOfTooth_3 : decode cX0_pinsOfTooth 3 = .ok (.istore_n 3, 1) := by decide +kernel
theorem dX0_pinsOfTooth_4 : decode cX0_pinsOfTooth 4 = .ok (.iload_n 3, 1) := by decide +kernel
theorem dX0_pinsOfTooth_5 : decode cX0_pinsOfTooth 5 = .ok (.iconst 3, 1) := by decide +kernel
theorem dX0_pinsOfTooth_6 : decode cX0_pinsOfTooth 6 = .ok (.if_icmp .ge 21, 3) := by decide +kernel
theorem dX0_pinsOfTooth_9 : decode cX0_pinsOfTooth 9 = .ok (.iload_n 2, 1) := by decide +kernel
theorem dX0_pinsOfTooth_10 : decode cX0_pinsOfTooth 10 = .ok (.aload_n 0, 1) := by decide +kernel
theorem dX0_pinsOfTooth_11 : decode cX0_pinsOfTooth 11 = .ok (.iload_n 1, 1) := by decide +kernel
theorem dX0_pinsOfTooth_12 : decode cX0_pinsOfTooth 12 = .ok (.iload_n 3, 1) := by decide +kernel
theorem dX0_pinsOfTooth_13 : decode cX0_pinsOfTooth 13 = .ok (.invokevirtual 29, 3) := by decide +kernel
theorem dX0_pinsOfTooth_16 : decode cX0_pinsOfTooth 16 = .ok (.invokestatic 33, 3) := by decide +kernel
theorem dX0_pinsOfTooth_19 : decode cX0_pinsOfTooth 19 = .ok (.iadd, 1) := by decide +kernel
theorem dX0_pinsOfTooth_20 : decode cX0_pinsOfTooth 20 = .ok (.istore_n 2, 1) := by decide +kernel
theorem dX0_pinsOfTooth_21 : decode cX0_pinsOfTooth 21 = .ok (.iinc 3 1, 3) := by decide +kernel
theorem dX0_pinsOfTooth_24 : decode cX0_pinsOfTooth 24 = .ok (.goto (-20), 3) := by decide +kernel
theorem dX0_pinsOfTooth_27 : decode cX0_pinsOfTooth 27 = .ok (.iload_n 2, 1) := by decide +kernel
theorem dX0_pinsOfTooth_28 : decode cX0_pinsOfTooth 28 = .ok (.ireturn, 1) := by decide +kernel
set_option maxRecDepth 20000 in
theorem ggX0_freeTooth_X0_placesNear : GoodIn wsX0_freeTooth wsX0_placesNear := goodIn_r _ [8, 9] (by decide +kernel) (by decide +kernel)
set_option maxRecDepth 20000 in
theorem gX0_freeTooth_X0_placesNear : GoodIn wsX0_freeTooth (va_wsS RX0 39 yX0_placesNear wsX0_placesNear) := goodIn_app (goodIn_of _ (by decide +kernel)) ggX0_freeTooth_X0_placesNear
set_option maxRecDepth 20000 in
theorem ggX0_freeTooth_X0_lineAt : GoodIn wsX0_freeTooth wsX0_lineAt := goodIn_r _ [12] (by decide +kernel) (by decide +kernel)
set_option maxRecDepth 20000 in
theorem gX0_freeTooth_X0_lineAt : GoodIn wsX0_freeTooth (va_wsS RX0 21 yX0_lineAt wsX0_lineAt) := goodIn_app (goodIn_of _ (by decide +kernel)) ggX0_freeTooth_X0_lineAt
set_option maxRecDepth 20000 in
theorem ggX0_freeTooth_J13_bitCount_95d88 : GoodIn wsX0_freeTooth wsJ13_bitCount_95d88 := goodIn_r _ [16, 17, 18, 19] (by decide +kernel) (by decide +kernel)
set_option maxRecDepth 20000 in
theorem gX0_freeTooth_J13_bitCount_95d88 : GoodIn wsX0_freeTooth (va_wsS RX0 33 yJ13_bitCount_95d88 wsJ13_bitCount_95d88) := goodIn_app (goodIn_of _ (by decide +kernel)) ggX0_freeTooth_J13_bitCount_95d88
theorem dX0_freeTooth_0 : decode cX0_freeTooth 0 = .ok (.iload 4, 2) := by decide +kernel
theorem dX0_freeTooth_2 : decode cX0_freeTooth 2 = .ok (.invokestatic 39, 3) := by decide +kernel
theorem dX0_freeTooth_5 : decode cX0_freeTooth 5 = .ok (.lstore 5, 2) := by decide +kernel
theorem dX0_freeTooth_7 : decode cX0_freeTooth 7 = .ok (.iconst (-1), 1) := by decide +kernel
theorem dX0_freeTooth_8 : decode cX0_freeTooth 8 = .ok (.istore 7, 2) := by decide +kernel
theorem dX0_freeTooth_10 : decode cX0_freeTooth 10 = .ok (.bipush 64, 2) := by decide +kernel
theorem dX0_freeTooth_12 : decode cX0_freeTooth 12 = .ok (.istore 8, 2) := by decide +kernel
theorem dX0_freeTooth_14 : decode cX0_freeTooth 14 = .ok (.iconst 0, 1) := by decide +kernel
theorem dX0_freeTooth_15 : decode cX0_freeTooth 15 = .ok (.istore 9, 2) := by decide +kernel
theorem dX0_freeTooth_17 : decode cX0_freeTooth 17 = .ok (.iload 9, 2) := by decide +kernel
theorem dX0_freeTooth_19 : decode cX0_freeTooth 19 = .ok (.aload_n 1, 1) := by decide +kernel
theorem dX0_freeTooth_20 : decode cX0_freeTooth 20 = .ok (.getfield 43, 3) := by decide +kernel
theorem dX0_freeTooth_23 : decode cX0_freeTooth 23 = .ok (.if_icmp .ge 75, 3) := by decide +kernel
theorem dX0_freeTooth_26 : decode cX0_freeTooth 26 = .ok (.aload_n 1, 1) := by decide +kernel
theorem dX0_freeTooth_27 : decode cX0_freeTooth 27 = .ok (.getfield 49, 3) := by decide +kernel
theorem dX0_freeTooth_30 : decode cX0_freeTooth 30 = .ok (.iload 9, 2) := by decide +kernel
theorem dX0_freeTooth_32 : decode cX0_freeTooth 32 = .ok (.iaload, 1) := by decide +kernel
theorem dX0_freeTooth_33 : decode cX0_freeTooth 33 = .ok (.iload_n 3, 1) := by decide +kernel
theorem dX0_freeTooth_34 : decode cX0_freeTooth 34 = .ok (.if_icmp .ne 58, 3) := by decide +kernel
theorem dX0_freeTooth_37 : decode cX0_freeTooth 37 = .ok (.aload_n 1, 1) := by decide +kernel
theorem dX0_freeTooth_38 : decode cX0_freeTooth 38 = .ok (.getfield 52, 3) := by decide +kernel
theorem dX0_freeTooth_41 : decode cX0_freeTooth 41 = .ok (.iload 9, 2) := by decide +kernel
theorem dX0_freeTooth_43 : decode cX0_freeTooth 43 = .ok (.baload, 1) := by decide +kernel
theorem dX0_freeTooth_44 : decode cX0_freeTooth 44 = .ok (.ifCond .ne 48, 3) := by decide +kernel
theorem dX0_freeTooth_47 : decode cX0_freeTooth 47 = .ok (.aload_n 0, 1) := by decide +kernel
theorem dX0_freeTooth_48 : decode cX0_freeTooth 48 = .ok (.getfield 9, 3) := by decide +kernel
theorem dX0_freeTooth_51 : decode cX0_freeTooth 51 = .ok (.iload 9, 2) := by decide +kernel
theorem dX0_freeTooth_53 : decode cX0_freeTooth 53 = .ok (.iload_n 2, 1) := by decide +kernel
theorem dX0_freeTooth_54 : decode cX0_freeTooth 54 = .ok (.invokestatic 21, 3) := by decide +kernel
theorem dX0_freeTooth_57 : decode cX0_freeTooth 57 = .ok (.laload, 1) := by decide +kernel
theorem dX0_freeTooth_58 : decode cX0_freeTooth 58 = .ok (.lstore 10, 2) := by decide +kernel
theorem dX0_freeTooth_60 : decode cX0_freeTooth 60 = .ok (.lload 10, 2) := by decide +kernel
theorem dX0_freeTooth_62 : decode cX0_freeTooth 62 = .ok (.invokestatic 33, 3) := by decide +kernel
theorem dX0_freeTooth_65 : decode cX0_freeTooth 65 = .ok (.istore 12, 2) := by decide +kernel
theorem dX0_freeTooth_67 : decode cX0_freeTooth 67 = .ok (.lload 10, 2) := by decide +kernel
theorem dX0_freeTooth_69 : decode cX0_freeTooth 69 = .ok (.lload 5, 2) := by decide +kernel
theorem dX0_freeTooth_71 : decode cX0_freeTooth 71 = .ok (.land, 1) := by decide +kernel
theorem dX0_freeTooth_72 : decode cX0_freeTooth 72 = .ok (.lconst 0, 1) := by decide +kernel
theorem dX0_freeTooth_73 : decode cX0_freeTooth 73 = .ok (.lcmp, 1) := by decide +kernel
theorem dX0_freeTooth_74 : decode cX0_freeTooth 74 = .ok (.ifCond .ne 18, 3) := by decide +kernel
theorem dX0_freeTooth_77 : decode cX0_freeTooth 77 = .ok (.iload 12, 2) := by decide +kernel
theorem dX0_freeTooth_79 : decode cX0_freeTooth 79 = .ok (.iload 8, 2) := by decide +kernel
theorem dX0_freeTooth_81 : decode cX0_freeTooth 81 = .ok (.if_icmp .ge 11, 3) := by decide +kernel
theorem dX0_freeTooth_84 : decode cX0_freeTooth 84 = .ok (.iload 9, 2) := by decide +kernel
theorem dX0_freeTooth_86 : decode cX0_freeTooth 86 = .ok (.istore 7, 2) := by decide +kernel
theorem dX0_freeTooth_88 : decode cX0_freeTooth 88 = .ok (.iload 12, 2) := by decide +kernel
theorem dX0_freeTooth_90 : decode cX0_freeTooth 90 = .ok (.istore 8, 2) := by decide +kernel
theorem dX0_freeTooth_92 : decode cX0_freeTooth 92 = .ok (.iinc 9 1, 3) := by decide +kernel
theorem dX0_freeTooth_95 : decode cX0_freeTooth 95 = .ok (.goto (-78), 3) := by decide +kernel
theorem dX0_freeTooth_98 : decode cX0_freeTooth 98 = .ok (.iload 7, 2) := by decide +kernel
theorem dX0_freeTooth_100 : decode cX0_freeTooth 100 = .ok (.ireturn, 1) := by decide +kernel
set_option maxRecDepth 20000 in
theorem ggX0_pullFrom_X0_hasPin : GoodIn wsX0_pullFrom wsX0_hasPin := goodIn_r _ [7, 1, 8, 9, 6, 10, 19, 20] (by decide +kernel) (by decide +kernel)
set_option maxRecDepth 20000 in
theorem gX0_pullFrom_X0_hasPin : GoodIn wsX0_pullFrom (wsV RX0 56 RX0 yX0_hasPin wsX0_hasPin) := goodIn_app (goodIn_of _ (by decide +kernel)) ggX0_pullFrom_X0_hasPin
set_option maxRecDepth 20000 in
theorem ggX0_pullFrom_X0_wearOf : GoodIn wsX0_pullFrom wsX0_wearOf := goodIn_r _ [14, 15, 16, 17, 6, 18, 19, 20] (by decide +kernel) (by decide +kernel)
set_option maxRecDepth 20000 in
theorem gX0_pullFrom_X0_wearOf : GoodIn wsX0_pullFrom (wsV RX0 60 RX0 yX0_wearOf wsX0_wearOf) := goodIn_app (goodIn_of _ (by decide +kernel)) ggX0_pullFrom_X0_wearOf
set_option maxRecDepth 20000 in
theorem ggX0_pullFrom_X0_lineAt : GoodIn wsX0_pullFrom wsX0_lineAt := goodIn_r _ [10] (by decide +kernel) (by decide +kernel)
set_option maxRecDepth 20000 in
theorem gX0_pullFrom_X0_lineAt : GoodIn wsX0_pullFrom (va_wsS RX0 21 yX0_lineAt wsX0_lineAt) := goodIn_app (goodIn_of _ (by decide +kernel)) ggX0_pullFrom_X0_lineAt
theorem dX0_pullFrom_0 : decode cX0_pullFrom 0 = .ok (.iconst 0, 1) := by decide +kernel
theorem dX0_pullFrom_1 : decode cX0_pullFrom 1 = .ok (.istore 4, 2) := by decide +kernel
theorem dX0_pullFrom_3 : decode cX0_pullFrom 3 = .ok (.iconst 0, 1) := by decide +kernel
theorem dX0_pullFrom_4 : decode cX0_pullFrom 4 = .ok (.istore 5, 2) := by decide +kernel
theorem dX0_pullFrom_6 : decode cX0_pullFrom 6 = .ok (.iload 5, 2) := by decide +kernel
theorem dX0_pullFrom_8 : decode cX0_pullFrom 8 = .ok (.bipush 64, 2) := by decide +kernel
theorem dX0_pullFrom_10 : decode cX0_pullFrom 10 = .ok (.if_icmp .ge 56, 3) := by decide +kernel
theorem dX0_pullFrom_13 : decode cX0_pullFrom 13 = .ok (.aload_n 0, 1) := by decide +kernel
theorem dX0_pullFrom_14 : decode cX0_pullFrom 14 = .ok (.iload_n 1, 1) := by decide +kernel
theorem dX0_pullFrom_15 : decode cX0_pullFrom 15 = .ok (.iload_n 2, 1) := by decide +kernel
theorem dX0_pullFrom_16 : decode cX0_pullFrom 16 = .ok (.iload 5, 2) := by decide +kernel
theorem dX0_pullFrom_18 : decode cX0_pullFrom 18 = .ok (.invokevirtual 56, 3) := by decide +kernel
theorem dX0_pullFrom_21 : decode cX0_pullFrom 21 = .ok (.ifCond .eq 39, 3) := by decide +kernel
theorem dX0_pullFrom_24 : decode cX0_pullFrom 24 = .ok (.aload_n 0, 1) := by decide +kernel
theorem dX0_pullFrom_25 : decode cX0_pullFrom 25 = .ok (.iload_n 1, 1) := by decide +kernel
theorem dX0_pullFrom_26 : decode cX0_pullFrom 26 = .ok (.iload_n 2, 1) := by decide +kernel
theorem dX0_pullFrom_27 : decode cX0_pullFrom 27 = .ok (.iload 5, 2) := by decide +kernel
theorem dX0_pullFrom_29 : decode cX0_pullFrom 29 = .ok (.invokevirtual 60, 3) := by decide +kernel
theorem dX0_pullFrom_32 : decode cX0_pullFrom 32 = .ok (.iload_n 3, 1) := by decide +kernel
theorem dX0_pullFrom_33 : decode cX0_pullFrom 33 = .ok (.if_icmp .lt 27, 3) := by decide +kernel
theorem dX0_pullFrom_36 : decode cX0_pullFrom 36 = .ok (.aload_n 0, 1) := by decide +kernel
theorem dX0_pullFrom_37 : decode cX0_pullFrom 37 = .ok (.getfield 9, 3) := by decide +kernel
theorem dX0_pullFrom_40 : decode cX0_pullFrom 40 = .ok (.iload_n 1, 1) := by decide +kernel
theorem dX0_pullFrom_41 : decode cX0_pullFrom 41 = .ok (.iload_n 2, 1) := by decide +kernel
theorem dX0_pullFrom_42 : decode cX0_pullFrom 42 = .ok (.invokestatic 21, 3) := by decide +kernel
theorem dX0_pullFrom_45 : decode cX0_pullFrom 45 = .ok (.dup2, 1) := by decide +kernel
theorem dX0_pullFrom_46 : decode cX0_pullFrom 46 = .ok (.laload, 1) := by decide +kernel
theorem dX0_pullFrom_47 : decode cX0_pullFrom 47 = .ok (.lconst 1, 1) := by decide +kernel
theorem dX0_pullFrom_48 : decode cX0_pullFrom 48 = .ok (.iload 5, 2) := by decide +kernel
theorem dX0_pullFrom_50 : decode cX0_pullFrom 50 = .ok (.lshl, 1) := by decide +kernel
theorem dX0_pullFrom_51 : decode cX0_pullFrom 51 = .ok (.ldc2_w 63, 3) := by decide +kernel
theorem dX0_pullFrom_54 : decode cX0_pullFrom 54 = .ok (.lxor, 1) := by decide +kernel
theorem dX0_pullFrom_55 : decode cX0_pullFrom 55 = .ok (.land, 1) := by decide +kernel
theorem dX0_pullFrom_56 : decode cX0_pullFrom 56 = .ok (.lastore, 1) := by decide +kernel
theorem dX0_pullFrom_57 : decode cX0_pullFrom 57 = .ok (.iinc 4 1, 3) := by decide +kernel
theorem dX0_pullFrom_60 : decode cX0_pullFrom 60 = .ok (.iinc 5 1, 3) := by decide +kernel
theorem dX0_pullFrom_63 : decode cX0_pullFrom 63 = .ok (.goto (-57), 3) := by decide +kernel
theorem dX0_pullFrom_66 : decode cX0_pullFrom 66 = .ok (.iload 4, 2) := by decide +kernel
theorem dX0_pullFrom_68 : decode cX0_pullFrom 68 = .ok (.ireturn, 1) := by decide +kernel
set_option maxRecDepth 20000 in
theorem ggX0_renewPins_X0_hasPin : GoodIn wsX0_renewPins wsX0_hasPin := goodIn_r _ [6, 7, 8, 9, 5, 10, 18, 19] (by decide +kernel) (by decide +kernel)
set_option maxRecDepth 20000 in
theorem gX0_renewPins_X0_hasPin : GoodIn wsX0_renewPins (wsV RX0 56 RX0 yX0_hasPin wsX0_hasPin) := goodIn_app (goodIn_of _ (by decide +kernel)) ggX0_renewPins_X0_hasPin
set_option maxRecDepth 20000 in
theorem ggX0_renewPins_X0_wearOf : GoodIn wsX0_renewPins wsX0_wearOf := goodIn_r _ [14, 1, 15, 16, 5, 17, 18, 19] (by decide +kernel) (by decide +kernel)
set_option maxRecDepth 20000 in
theorem gX0_renewPins_X0_wearOf : GoodIn wsX0_renewPins (wsV RX0 60 RX0 yX0_wearOf wsX0_wearOf) := goodIn_app (goodIn_of _ (by decide +kernel)) ggX0_renewPins_X0_wearOf
set_option maxRecDepth 20000 in
theorem ggX0_renewPins_X0_pinAt : GoodIn wsX0_renewPins wsX0_pinAt := goodIn_r _ [17] (by decide +kernel) (by decide +kernel)
set_option maxRecDepth 20000 in
theorem gX0_renewPins_X0_pinAt : GoodIn wsX0_renewPins (va_wsS RX0 25 yX0_pinAt wsX0_pinAt) := goodIn_app (goodIn_of _ (by decide +kernel)) ggX0_renewPins_X0_pinAt
theorem dX0_renewPins_0 : decode cX0_renewPins 0 = .ok (.iconst 0, 1) := by decide +kernel
theorem dX0_renewPins_1 : decode cX0_renewPins 1 = .ok (.istore_n 3, 1) := by decide +kernel
theorem dX0_renewPins_2 : decode cX0_renewPins 2 = .ok (.iconst 0, 1) := by decide +kernel
theorem dX0_renewPins_3 : decode cX0_renewPins 3 = .ok (.istore 4, 2) := by decide +kernel
theorem dX0_renewPins_5 : decode cX0_renewPins 5 = .ok (.iload 4, 2) := by decide +kernel
theorem dX0_renewPins_7 : decode cX0_renewPins 7 = .ok (.bipush 64, 2) := by decide +kernel
theorem dX0_renewPins_9 : decode cX0_renewPins 9 = .ok (.if_icmp .ge 48, 3) := by decide +kernel
theorem dX0_renewPins_12 : decode cX0_renewPins 12 = .ok (.aload_n 0, 1) := by decide +kernel
theorem dX0_renewPins_13 : decode cX0_renewPins 13 = .ok (.iload_n 1, 1) := by decide +kernel
theorem dX0_renewPins_14 : decode cX0_renewPins 14 = .ok (.iload_n 2, 1) := by decide +kernel
theorem dX0_renewPins_15 : decode cX0_renewPins 15 = .ok (.iload 4, 2) := by decide +kernel
theorem dX0_renewPins_17 : decode cX0_renewPins 17 = .ok (.invokevirtual 56, 3) := by decide +kernel
theorem dX0_renewPins_20 : decode cX0_renewPins 20 = .ok (.ifCond .eq 31, 3) := by decide +kernel
theorem dX0_renewPins_23 : decode cX0_renewPins 23 = .ok (.aload_n 0, 1) := by decide +kernel
theorem dX0_renewPins_24 : decode cX0_renewPins 24 = .ok (.iload_n 1, 1) := by decide +kernel
theorem dX0_renewPins_25 : decode cX0_renewPins 25 = .ok (.iload_n 2, 1) := by decide +kernel
theorem dX0_renewPins_26 : decode cX0_renewPins 26 = .ok (.iload 4, 2) := by decide +kernel
theorem dX0_renewPins_28 : decode cX0_renewPins 28 = .ok (.invokevirtual 60, 3) := by decide +kernel
theorem dX0_renewPins_31 : decode cX0_renewPins 31 = .ok (.iconst 3, 1) := by decide +kernel
theorem dX0_renewPins_32 : decode cX0_renewPins 32 = .ok (.if_icmp .lt 19, 3) := by decide +kernel
theorem dX0_renewPins_35 : decode cX0_renewPins 35 = .ok (.aload_n 0, 1) := by decide +kernel
theorem dX0_renewPins_36 : decode cX0_renewPins 36 = .ok (.getfield 15, 3) := by decide +kernel
theorem dX0_renewPins_39 : decode cX0_renewPins 39 = .ok (.iload_n 1, 1) := by decide +kernel
theorem dX0_renewPins_40 : decode cX0_renewPins 40 = .ok (.iload_n 2, 1) := by decide +kernel
theorem dX0_renewPins_41 : decode cX0_renewPins 41 = .ok (.iload 4, 2) := by decide +kernel
theorem dX0_renewPins_43 : decode cX0_renewPins 43 = .ok (.invokestatic 25, 3) := by decide +kernel
theorem dX0_renewPins_46 : decode cX0_renewPins 46 = .ok (.iconst 0, 1) := by decide +kernel
theorem dX0_renewPins_47 : decode cX0_renewPins 47 = .ok (.iastore, 1) := by decide +kernel
theorem dX0_renewPins_48 : decode cX0_renewPins 48 = .ok (.iinc 3 1, 3) := by decide +kernel
theorem dX0_renewPins_51 : decode cX0_renewPins 51 = .ok (.iinc 4 1, 3) := by decide +kernel
theorem dX0_renewPins_54 : decode cX0_renewPins 54 = .ok (.goto (-49), 3) := by decide +kernel
theorem dX0_renewPins_57 : decode cX0_renewPins 57 = .ok (.iload_n 3, 1) := by decide +kernel
theorem dX0_renewPins_58 : decode cX0_renewPins 58 = .ok (.ireturn, 1) := by decide +kernel
set_option maxRecDepth 20000 in
theorem ggX0_wearDown_X0_pinAt : GoodIn wsX0_wearDown wsX0_pinAt := goodIn_r _ [7] (by decide +kernel) (by decide +kernel)
set_option maxRecDepth 20000 in
theorem gX0_wearDown_X0_pinAt : GoodIn wsX0_wearDown (va_wsS RX0 25 yX0_pinAt wsX0_pinAt) := goodIn_app (goodIn_of _ (by decide +kernel)) ggX0_wearDown_X0_pinAt
set_option maxRecDepth 20000 in
theorem ggX0_wearDown_X0_lineAt : GoodIn wsX0_wearDown wsX0_lineAt := goodIn_r _ [10] (by decide +kernel) (by decide +kernel)
set_option maxRecDepth 20000 in
theorem gX0_wearDown_X0_lineAt : GoodIn wsX0_wearDown (va_wsS RX0 21 yX0_lineAt wsX0_lineAt) := goodIn_app (goodIn_of _ (by decide +kernel)) ggX0_wearDown_X0_lineAt
theorem dX0_wearDown_0 : decode cX0_wearDown 0 = .ok (.iload_n 1, 1) := by decide +kernel
theorem dX0_wearDown_1 : decode cX0_wearDown 1 = .ok (.iload_n 2, 1) := by decide +kernel
theorem dX0_wearDown_2 : decode cX0_wearDown 2 = .ok (.iload_n 3, 1) := by decide +kernel
theorem dX0_wearDown_3 : decode cX0_wearDown 3 = .ok (.invokestatic 25, 3) := by decide +kernel
theorem dX0_wearDown_6 : decode cX0_wearDown 6 = .ok (.istore 4, 2) := by decide +kernel
theorem dX0_wearDown_8 : decode cX0_wearDown 8 = .ok (.aload_n 0, 1) := by decide +kernel
theorem dX0_wearDown_9 : decode cX0_wearDown 9 = .ok (.getfield 15, 3) := by decide +kernel
theorem dX0_wearDown_12 : decode cX0_wearDown 12 = .ok (.iload 4, 2) := by decide +kernel
theorem dX0_wearDown_14 : decode cX0_wearDown 14 = .ok (.dup2, 1) := by decide +kernel
theorem dX0_wearDown_15 : decode cX0_wearDown 15 = .ok (.iaload, 1) := by decide +kernel
theorem dX0_wearDown_16 : decode cX0_wearDown 16 = .ok (.iconst 1, 1) := by decide +kernel
theorem dX0_wearDown_17 : decode cX0_wearDown 17 = .ok (.iadd, 1) := by decide +kernel
theorem dX0_wearDown_18 : decode cX0_wearDown 18 = .ok (.iastore, 1) := by decide +kernel
theorem dX0_wearDown_19 : decode cX0_wearDown 19 = .ok (.aload_n 0, 1) := by decide +kernel
theorem dX0_wearDown_20 : decode cX0_wearDown 20 = .ok (.getfield 15, 3) := by decide +kernel
theorem dX0_wearDown_23 : decode cX0_wearDown 23 = .ok (.iload 4, 2) := by decide +kernel
theorem dX0_wearDown_25 : decode cX0_wearDown 25 = .ok (.iaload, 1) := by decide +kernel
theorem dX0_wearDown_26 : decode cX0_wearDown 26 = .ok (.iconst 5, 1) := by decide +kernel
theorem dX0_wearDown_27 : decode cX0_wearDown 27 = .ok (.if_icmp .ge 5, 3) := by decide +kernel
theorem dX0_wearDown_30 : decode cX0_wearDown 30 = .ok (.iconst 0, 1) := by decide +kernel
theorem dX0_wearDown_31 : decode cX0_wearDown 31 = .ok (.ireturn, 1) := by decide +kernel
theorem dX0_wearDown_32 : decode cX0_wearDown 32 = .ok (.aload_n 0, 1) := by decide +kernel
theorem dX0_wearDown_33 : decode cX0_wearDown 33 = .ok (.getfield 9, 3) := by decide +kernel
theorem dX0_wearDown_36 : decode cX0_wearDown 36 = .ok (.iload_n 1, 1) := by decide +kernel
theorem dX0_wearDown_37 : decode cX0_wearDown 37 = .ok (.iload_n 2, 1) := by decide +kernel
theorem dX0_wearDown_38 : decode cX0_wearDown 38 = .ok (.invokestatic 21, 3) := by decide +kernel
theorem dX0_wearDown_41 : decode cX0_wearDown 41 = .ok (.dup2, 1) := by decide +kernel
theorem dX0_wearDown_42 : decode cX0_wearDown 42 = .ok (.laload, 1) := by decide +kernel
theorem dX0_wearDown_43 : decode cX0_wearDown 43 = .ok (.lconst 1, 1) := by decide +kernel
theorem dX0_wearDown_44 : decode cX0_wearDown 44 = .ok (.iload_n 3, 1) := by decide +kernel
theorem dX0_wearDown_45 : decode cX0_wearDown 45 = .ok (.lshl, 1) := by decide +kernel
theorem dX0_wearDown_46 : decode cX0_wearDown 46 = .ok (.ldc2_w 63, 3) := by decide +kernel
theorem dX0_wearDown_49 : decode cX0_wearDown 49 = .ok (.lxor, 1) := by decide +kernel
theorem dX0_wearDown_50 : decode cX0_wearDown 50 = .ok (.land, 1) := by decide +kernel
theorem dX0_wearDown_51 : decode cX0_wearDown 51 = .ok (.lastore, 1) := by decide +kernel
theorem dX0_wearDown_52 : decode cX0_wearDown 52 = .ok (.iconst 1, 1) := by decide +kernel
theorem dX0_wearDown_53 : decode cX0_wearDown 53 = .ok (.ireturn, 1) := by decide +kernel
set_option maxRecDepth 20000 in
theorem ggX0_takePins_X0_lineAt : GoodIn wsX0_takePins wsX0_lineAt := goodIn_r _ [9] (by decide +kernel) (by decide +kernel)
set_option maxRecDepth 20000 in
theorem gX0_takePins_X0_lineAt : GoodIn wsX0_takePins (va_wsS RX0 21 yX0_lineAt wsX0_lineAt) := goodIn_app (goodIn_of _ (by decide +kernel)) ggX0_takePins_X0_lineAt
theorem dX0_takePins_0 : decode cX0_takePins 0 = .ok (.iconst 0, 1) := by decide +kernel
theorem dX0_takePins_1 : decode cX0_takePins 1 = .ok (.iload_n 2, 1) := by decide +kernel
theorem dX0_takePins_2 : decode cX0_takePins 2 = .ok (.invokestatic 21, 3) := by decide +kernel
theorem dX0_takePins_5 : decode cX0_takePins 5 = .ok (.istore_n 3, 1) := by decide +kernel
theorem dX0_takePins_6 : decode cX0_takePins 6 = .ok (.aload_n 1, 1) := by decide +kernel
theorem dX0_takePins_7 : decode cX0_takePins 7 = .ok (.getfield 9, 3) := by decide +kernel
theorem dX0_takePins_10 : decode cX0_takePins 10 = .ok (.iload_n 3, 1) := by decide +kernel
theorem dX0_takePins_11 : decode cX0_takePins 11 = .ok (.aload_n 0, 1) := by decide +kernel
theorem dX0_takePins_12 : decode cX0_takePins 12 = .ok (.getfield 9, 3) := by decide +kernel
theorem dX0_takePins_15 : decode cX0_takePins 15 = .ok (.iload_n 3, 1) := by decide +kernel
theorem dX0_takePins_16 : decode cX0_takePins 16 = .ok (.bipush 24, 2) := by decide +kernel
theorem dX0_takePins_18 : decode cX0_takePins 18 = .ok (.invokestatic 65, 3) := by decide +kernel
theorem dX0_takePins_21 : decode cX0_takePins 21 = .ok (.return_, 1) := by decide +kernel
set_option maxRecDepth 20000 in
theorem ggX0_takeWears_X0_pinAt : GoodIn wsX0_takeWears wsX0_pinAt := goodIn_r _ [9] (by decide +kernel) (by decide +kernel)
set_option maxRecDepth 20000 in
theorem gX0_takeWears_X0_pinAt : GoodIn wsX0_takeWears (va_wsS RX0 25 yX0_pinAt wsX0_pinAt) := goodIn_app (goodIn_of _ (by decide +kernel)) ggX0_takeWears_X0_pinAt
theorem dX0_takeWears_0 : decode cX0_takeWears 0 = .ok (.iconst 0, 1) := by decide +kernel
theorem dX0_takeWears_1 : decode cX0_takeWears 1 = .ok (.iload_n 2, 1) := by decide +kernel
theorem dX0_takeWears_2 : decode cX0_takeWears 2 = .ok (.iconst 0, 1) := by decide +kernel
theorem dX0_takeWears_3 : decode cX0_takeWears 3 = .ok (.invokestatic 25, 3) := by decide +kernel
theorem dX0_takeWears_6 : decode cX0_takeWears 6 = .ok (.istore_n 3, 1) := by decide +kernel
theorem dX0_takeWears_7 : decode cX0_takeWears 7 = .ok (.aload_n 1, 1) := by decide +kernel
theorem dX0_takeWears_8 : decode cX0_takeWears 8 = .ok (.getfield 15, 3) := by decide +kernel
theorem dX0_takeWears_11 : decode cX0_takeWears 11 = .ok (.iload_n 3, 1) := by decide +kernel
theorem dX0_takeWears_12 : decode cX0_takeWears 12 = .ok (.aload_n 0, 1) := by decide +kernel
theorem dX0_takeWears_13 : decode cX0_takeWears 13 = .ok (.getfield 15, 3) := by decide +kernel
theorem dX0_takeWears_16 : decode cX0_takeWears 16 = .ok (.iload_n 3, 1) := by decide +kernel
theorem dX0_takeWears_17 : decode cX0_takeWears 17 = .ok (.sipush 1536, 3) := by decide +kernel
theorem dX0_takeWears_20 : decode cX0_takeWears 20 = .ok (.invokestatic 65, 3) := by decide +kernel
theorem dX0_takeWears_23 : decode cX0_takeWears 23 = .ok (.return_, 1) := by decide +kernel
theorem dX1_init_0 : decode cX1_init 0 = .ok (.aload_n 0, 1) := by decide +kernel
theorem dX1_init_1 : decode cX1_init 1 = .ok (.invokespecial 3, 3) := by decide +kernel
theorem dX1_init_4 : decode cX1_init 4 = .ok (.aload_n 0, 1) := by decide +kernel
theorem dX1_init_5 : decode cX1_init 5 = .ok (.bipush 24, 2) := by decide +kernel
theorem dX1_init_7 : decode cX1_init 7 = .ok (.newarray .int, 2) := by decide +kernel
theorem dX1_init_9 : decode cX1_init 9 = .ok (.putfield 9, 3) := by decide +kernel
theorem dX1_init_12 : decode cX1_init 12 = .ok (.aload_n 0, 1) := by decide +kernel
theorem dX1_init_13 : decode cX1_init 13 = .ok (.bipush 24, 2) := by decide +kernel
theorem dX1_init_15 : decode cX1_init 15 = .ok (.newarray .boolean, 2) := by decide +kernel
theorem dX1_init_17 : decode cX1_init 17 = .ok (.putfield 15, 3) := by decide +kernel
theorem dX1_init_20 : decode cX1_init 20 = .ok (.aload_n 0, 1) := by decide +kernel
theorem dX1_init_21 : decode cX1_init 21 = .ok (.bipush 24, 2) := by decide +kernel
theorem dX1_init_23 : decode cX1_init 23 = .ok (.newarray .int, 2) := by decide +kernel
theorem dX1_init_25 : decode cX1_init 25 = .ok (.putfield 19, 3) := by decide +kernel
theorem dX1_init_28 : decode cX1_init 28 = .ok (.aload_n 0, 1) := by decide +kernel
theorem dX1_init_29 : decode cX1_init 29 = .ok (.bipush 24, 2) := by decide +kernel
theorem dX1_init_31 : decode cX1_init 31 = .ok (.newarray .int, 2) := by decide +kernel
theorem dX1_init_33 : decode cX1_init 33 = .ok (.putfield 22, 3) := by decide +kernel
theorem dX1_init_36 : decode cX1_init 36 = .ok (.aload_n 0, 1) := by decide +kernel
theorem dX1_init_37 : decode cX1_init 37 = .ok (.bipush 24, 2) := by decide +kernel
theorem dX1_init_39 : decode cX1_init 39 = .ok (.newarray .int, 2) := by decide +kernel
theorem dX1_init_41 : decode cX1_init 41 = .ok (.putfield 25, 3) := by decide +kernel
theorem dX1_init_44 : decode cX1_init 44 = .ok (.return_, 1) := by decide +kernel
theorem dX1_addTooth_0 : decode cX1_addTooth 0 = .ok (.aload_n 0, 1) := by decide +kernel
theorem dX1_addTooth_1 : decode cX1_addTooth 1 = .ok (.getfield 9, 3) := by decide +kernel
theorem dX1_addTooth_4 : decode cX1_addTooth 4 = .ok (.aload_n 0, 1) := by decide +kernel
theorem dX1_addTooth_5 : decode cX1_addTooth 5 = .ok (.getfield 28, 3) := by decide +kernel
theorem dX1_addTooth_8 : decode cX1_addTooth 8 = .ok (.iload_n 1, 1) := by decide +kernel
theorem dX1_addTooth_9 : decode cX1_addTooth 9 = .ok (.iastore, 1) := by decide +kernel
theorem dX1_addTooth_10 : decode cX1_addTooth 10 = .ok (.aload_n 0, 1) := by decide +kernel
theorem dX1_addTooth_11 : decode cX1_addTooth 11 = .ok (.dup, 1) := by decide +kernel
theorem dX1_addTooth_12 : decode cX1_addTooth 12 = .ok (.getfield 28, 3) := by decide +kernel
theorem dX1_addTooth_15 : decode cX1_addTooth 15 = .ok (.iconst 1, 1) := by decide +kernel
theorem dX1_addTooth_16 : decode cX1_addTooth 16 = .ok (.iadd, 1) := by decide +kernel
theorem dX1_addTooth_17 : decode cX1_addTooth 17 = .ok (.putfield 28, 3) := by decide +kernel
theorem dX1_addTooth_20 : decode cX1_addTooth 20 = .ok (.aload_n 0, 1) := by decide +kernel
theorem dX1_addTooth_21 : decode cX1_addTooth 21 = .ok (.getfield 28, 3) := by decide +kernel
theorem dX1_addTooth_24 : decode cX1_addTooth 24 = .ok (.iconst 1, 1) := by decide +kernel
theorem dX1_addTooth_25 : decode cX1_addTooth 25 = .ok (.isub, 1) := by decide +kernel
theorem dX1_addTooth_26 : decode cX1_addTooth 26 = .ok (.ireturn, 1) := by decide +kernel
theorem dX1_brokenTeeth_0 : decode cX1_brokenTeeth 0 = .ok (.iconst 0, 1) := by decide +kernel
theorem dX1_brokenTeeth_1 : decode cX1_brokenTeeth 1 = .ok (.istore_n 1, 1) := by decide +kernel
theorem dX1_brokenTeeth_2 : decode cX1_brokenTeeth 2 = .ok (.iconst 0, 1) := by decide +kernel
theorem dX1_brokenTeeth_3 : decode cX1_brokenTeeth 3 = .ok (.istore_n 2, 1) := by decide +kernel
theorem dX1_brokenTeeth_4 : decode cX1_brokenTeeth 4 = .ok (.iload_n 2, 1) := by decide +kernel
theorem dX1_brokenTeeth_5 : decode cX1_brokenTeeth 5 = .ok (.aload_n 0, 1) := by decide +kernel
theorem dX1_brokenTeeth_6 : decode cX1_brokenTeeth 6 = .ok (.getfield 28, 3) := by decide +kernel
theorem dX1_brokenTeeth_9 : decode cX1_brokenTeeth 9 = .ok (.if_icmp .ge 21, 3) := by decide +kernel
theorem dX1_brokenTeeth_12 : decode cX1_brokenTeeth 12 = .ok (.aload_n 0, 1) := by decide +kernel
theorem dX1_brokenTeeth_13 : decode cX1_brokenTeeth 13 = .ok (.getfield 15, 3) := by decide +kernel
theorem dX1_brokenTeeth_16 : decode cX1_brokenTeeth 16 = .ok (.iload_n 2, 1) := by decide +kernel
theorem dX1_brokenTeeth_17 : decode cX1_brokenTeeth 17 = .ok (.baload, 1) := by decide +kernel
theorem dX1_brokenTeeth_18 : decode cX1_brokenTeeth 18 = .ok (.ifCond .eq 6, 3) := by decide +kernel
theorem dX1_brokenTeeth_21 : decode cX1_brokenTeeth 21 = .ok (.iinc 1 1, 3) := by decide +kernel
theorem dX1_brokenTeeth_24 : decode cX1_brokenTeeth 24 = .ok (.iinc 2 1, 3) := by decide +kernel
theorem dX1_brokenTeeth_27 : decode cX1_brokenTeeth 27 = .ok (.goto (-23), 3) := by decide +kernel
theorem dX1_brokenTeeth_30 : decode cX1_brokenTeeth 30 = .ok (.iload_n 1, 1) := by decide +kernel
theorem dX1_brokenTeeth_31 : decode cX1_brokenTeeth 31 = .ok (.ireturn, 1) := by decide +kernel
theorem dX1_mendTooth_0 : decode cX1_mendTooth 0 = .ok (.aload_n 0, 1) := by decide +kernel
theorem dX1_mendTooth_1 : decode cX1_mendTooth 1 = .ok (.getfield 15, 3) := by decide +kernel
theorem dX1_mendTooth_4 : decode cX1_mendTooth 4 = .ok (.iload_n 1, 1) := by decide +kernel
theorem dX1_mendTooth_5 : decode cX1_mendTooth 5 = .ok (.baload, 1) := by decide +kernel
theorem dX1_mendTooth_6 : decode cX1_mendTooth 6 = .ok (.ifCond .eq 7, 3) := by decide +kernel
theorem dX1_mendTooth_9 : decode cX1_mendTooth 9 = .ok (.iconst 1, 1) := by decide +kernel
theorem dX1_mendTooth_10 : decode cX1_mendTooth 10 = .ok (.goto 4, 3) := by decide +kernel
theorem dX1_mendTooth_13 : decode cX1_mendTooth 13 = .ok (.iconst 0, 1) := by decide +kernel
theorem dX1_mendTooth_14 : decode cX1_mendTooth 14 = .ok (.istore_n 2, 1) := by decide +kernel
theorem dX1_mendTooth_15 : decode cX1_mendTooth 15 = .ok (.aload_n 0, 1) := by decide +kernel
theorem dX1_mendTooth_16 : decode cX1_mendTooth 16 = .ok (.getfield 15, 3) := by decide +kernel
theorem dX1_mendTooth_19 : decode cX1_mendTooth 19 = .ok (.iload_n 1, 1) := by decide +kernel
theorem dX1_mendTooth_20 : decode cX1_mendTooth 20 = .ok (.iconst 0, 1) := by decide +kernel
theorem dX1_mendTooth_21 : decode cX1_mendTooth 21 = .ok (.bastore, 1) := by decide +kernel
theorem dX1_mendTooth_22 : decode cX1_mendTooth 22 = .ok (.aload_n 0, 1) := by decide +kernel
theorem dX1_mendTooth_23 : decode cX1_mendTooth 23 = .ok (.getfield 19, 3) := by decide +kernel
theorem dX1_mendTooth_26 : decode cX1_mendTooth 26 = .ok (.iload_n 1, 1) := by decide +kernel
theorem dX1_mendTooth_27 : decode cX1_mendTooth 27 = .ok (.iconst 0, 1) := by decide +kernel
theorem dX1_mendTooth_28 : decode cX1_mendTooth 28 = .ok (.iastore, 1) := by decide +kernel
theorem dX1_mendTooth_29 : decode cX1_mendTooth 29 = .ok (.iload_n 2, 1) := by decide +kernel
theorem dX1_mendTooth_30 : decode cX1_mendTooth 30 = .ok (.ireturn, 1) := by decide +kernel
theorem dX1_pluckTooth_0 : decode cX1_pluckTooth 0 = .ok (.aload_n 0, 1) := by decide +kernel
theorem dX1_pluckTooth_1 : decode cX1_pluckTooth 1 = .ok (.getfield 22, 3) := by decide +kernel
theorem dX1_pluckTooth_4 : decode cX1_pluckTooth 4 = .ok (.iload_n 1, 1) := by decide +kernel
theorem dX1_pluckTooth_5 : decode cX1_pluckTooth 5 = .ok (.iaload, 1) := by decide +kernel
theorem dX1_pluckTooth_6 : decode cX1_pluckTooth 6 = .ok (.ifCond .le 20, 3) := by decide +kernel
theorem dX1_pluckTooth_9 : decode cX1_pluckTooth 9 = .ok (.iload_n 2, 1) := by decide +kernel
theorem dX1_pluckTooth_10 : decode cX1_pluckTooth 10 = .ok (.aload_n 0, 1) := by decide +kernel
theorem dX1_pluckTooth_11 : decode cX1_pluckTooth 11 = .ok (.getfield 25, 3) := by decide +kernel
theorem dX1_pluckTooth_14 : decode cX1_pluckTooth 14 = .ok (.iload_n 1, 1) := by decide +kernel
theorem dX1_pluckTooth_15 : decode cX1_pluckTooth 15 = .ok (.iaload, 1) := by decide +kernel
theorem dX1_pluckTooth_16 : decode cX1_pluckTooth 16 = .ok (.isub, 1) := by decide +kernel
theorem dX1_pluckTooth_17 : decode cX1_pluckTooth 17 = .ok (.bipush 8, 2) := by decide +kernel
theorem dX1_pluckTooth_19 : decode cX1_pluckTooth 19 = .ok (.if_icmp .ge 7, 3) := by decide +kernel
theorem dX1_pluckTooth_22 : decode cX1_pluckTooth 22 = .ok (.iconst 1, 1) := by decide +kernel
theorem dX1_pluckTooth_23 : decode cX1_pluckTooth 23 = .ok (.goto 4, 3) := by decide +kernel
theorem dX1_pluckTooth_26 : decode cX1_pluckTooth 26 = .ok (.iconst 0, 1) := by decide +kernel
theorem dX1_pluckTooth_27 : decode cX1_pluckTooth 27 = .ok (.istore_n 3, 1) := by decide +kernel
theorem dX1_pluckTooth_28 : decode cX1_pluckTooth 28 = .ok (.aload_n 0, 1) := by decide +kernel
theorem dX1_pluckTooth_29 : decode cX1_pluckTooth 29 = .ok (.getfield 22, 3) := by decide +kernel
theorem dX1_pluckTooth_32 : decode cX1_pluckTooth 32 = .ok (.iload_n 1, 1) := by decide +kernel
theorem dX1_pluckTooth_33 : decode cX1_pluckTooth 33 = .ok (.dup2, 1) := by decide +kernel
theorem dX1_pluckTooth_34 : decode cX1_pluckTooth 34 = .ok (.iaload, 1) := by decide +kernel
theorem dX1_pluckTooth_35 : decode cX1_pluckTooth 35 = .ok (.iconst 1, 1) := by decide +kernel
theorem dX1_pluckTooth_36 : decode cX1_pluckTooth 36 = .ok (.iadd, 1) := by decide +kernel
theorem dX1_pluckTooth_37 : decode cX1_pluckTooth 37 = .ok (.iastore, 1) := by decide +kernel
theorem dX1_pluckTooth_38 : decode cX1_pluckTooth 38 = .ok (.aload_n 0, 1) := by decide +kernel
theorem dX1_pluckTooth_39 : decode cX1_pluckTooth 39 = .ok (.getfield 25, 3) := by decide +kernel
theorem dX1_pluckTooth_42 : decode cX1_pluckTooth 42 = .ok (.iload_n 1, 1) := by decide +kernel
theorem dX1_pluckTooth_43 : decode cX1_pluckTooth 43 = .ok (.iload_n 2, 1) := by decide +kernel
theorem dX1_pluckTooth_44 : decode cX1_pluckTooth 44 = .ok (.iastore, 1) := by decide +kernel
theorem dX1_pluckTooth_45 : decode cX1_pluckTooth 45 = .ok (.iload_n 3, 1) := by decide +kernel
theorem dX1_pluckTooth_46 : decode cX1_pluckTooth 46 = .ok (.ifCond .eq 34, 3) := by decide +kernel
theorem dX1_pluckTooth_49 : decode cX1_pluckTooth 49 = .ok (.aload_n 0, 1) := by decide +kernel
theorem dX1_pluckTooth_50 : decode cX1_pluckTooth 50 = .ok (.getfield 19, 3) := by decide +kernel
theorem dX1_pluckTooth_53 : decode cX1_pluckTooth 53 = .ok (.iload_n 1, 1) := by decide +kernel
theorem dX1_pluckTooth_54 : decode cX1_pluckTooth 54 = .ok (.dup2, 1) := by decide +kernel
theorem dX1_pluckTooth_55 : decode cX1_pluckTooth 55 = .ok (.iaload, 1) := by decide +kernel
theorem dX1_pluckTooth_56 : decode cX1_pluckTooth 56 = .ok (.iconst 1, 1) := by decide +kernel
theorem dX1_pluckTooth_57 : decode cX1_pluckTooth 57 = .ok (.iadd, 1) := by decide +kernel
theorem dX1_pluckTooth_58 : decode cX1_pluckTooth 58 = .ok (.iastore, 1) := by decide +kernel
theorem dX1_pluckTooth_59 : decode cX1_pluckTooth 59 = .ok (.aload_n 0, 1) := by decide +kernel
theorem dX1_pluckTooth_60 : decode cX1_pluckTooth 60 = .ok (.getfield 15, 3) := by decide +kernel
theorem dX1_pluckTooth_63 : decode cX1_pluckTooth 63 = .ok (.iload_n 1, 1) := by decide +kernel
theorem dX1_pluckTooth_64 : decode cX1_pluckTooth 64 = .ok (.aload_n 0, 1) := by decide +kernel
theorem dX1_pluckTooth_65 : decode cX1_pluckTooth 65 = .ok (.getfield 19, 3) := by decide +kernel
theorem dX1_pluckTooth_68 : decode cX1_pluckTooth 68 = .ok (.iload_n 1, 1) := by decide +kernel
theorem dX1_pluckTooth_69 : decode cX1_pluckTooth 69 = .ok (.iaload, 1) := by decide +kernel
theorem dX1_pluckTooth_70 : decode cX1_pluckTooth 70 = .ok (.iconst 4, 1) := by decide +kernel
theorem dX1_pluckTooth_71 : decode cX1_pluckTooth 71 = .ok (.if_icmp .lt 7, 3) := by decide +kernel
theorem dX1_pluckTooth_74 : decode cX1_pluckTooth 74 = .ok (.iconst 1, 1) := by decide +kernel
theorem dX1_pluckTooth_75 : decode cX1_pluckTooth 75 = .ok (.goto 4, 3) := by decide +kernel
theorem dX1_pluckTooth_78 : decode cX1_pluckTooth 78 = .ok (.iconst 0, 1) := by decide +kernel
theorem dX1_pluckTooth_79 : decode cX1_pluckTooth 79 = .ok (.bastore, 1) := by decide +kernel
theorem dX1_pluckTooth_80 : decode cX1_pluckTooth 80 = .ok (.iload_n 3, 1) := by decide +kernel
theorem dX1_pluckTooth_81 : decode cX1_pluckTooth 81 = .ok (.ireturn, 1) := by decide +kernel
theorem dX1_takeTeeth_0 : decode cX1_takeTeeth 0 = .ok (.aload_n 0, 1) := by decide +kernel
theorem dX1_takeTeeth_1 : decode cX1_takeTeeth 1 = .ok (.aload_n 1, 1) := by decide +kernel
theorem dX1_takeTeeth_2 : decode cX1_takeTeeth 2 = .ok (.getfield 28, 3) := by decide +kernel
theorem dX1_takeTeeth_5 : decode cX1_takeTeeth 5 = .ok (.putfield 28, 3) := by decide +kernel
theorem dX1_takeTeeth_8 : decode cX1_takeTeeth 8 = .ok (.iconst 0, 1) := by decide +kernel
theorem dX1_takeTeeth_9 : decode cX1_takeTeeth 9 = .ok (.istore_n 2, 1) := by decide +kernel
theorem dX1_takeTeeth_10 : decode cX1_takeTeeth 10 = .ok (.iload_n 2, 1) := by decide +kernel
theorem dX1_takeTeeth_11 : decode cX1_takeTeeth 11 = .ok (.aload_n 0, 1) := by decide +kernel
theorem dX1_takeTeeth_12 : decode cX1_takeTeeth 12 = .ok (.getfield 28, 3) := by decide +kernel
theorem dX1_takeTeeth_15 : decode cX1_takeTeeth 15 = .ok (.if_icmp .ge 69, 3) := by decide +kernel
theorem dX1_takeTeeth_18 : decode cX1_takeTeeth 18 = .ok (.aload_n 0, 1) := by decide +kernel
theorem dX1_takeTeeth_19 : decode cX1_takeTeeth 19 = .ok (.getfield 9, 3) := by decide +kernel
theorem dX1_takeTeeth_22 : decode cX1_takeTeeth 22 = .ok (.iload_n 2, 1) := by decide +kernel
theorem dX1_takeTeeth_23 : decode cX1_takeTeeth 23 = .ok (.aload_n 1, 1) := by decide +kernel
theorem dX1_takeTeeth_24 : decode cX1_takeTeeth 24 = .ok (.getfield 9, 3) := by decide +kernel
theorem dX1_takeTeeth_27 : decode cX1_takeTeeth 27 = .ok (.iload_n 2, 1) := by decide +kernel
theorem dX1_takeTeeth_28 : decode cX1_takeTeeth 28 = .ok (.iaload, 1) := by decide +kernel
theorem dX1_takeTeeth_29 : decode cX1_takeTeeth 29 = .ok (.iastore, 1) := by decide +kernel
theorem dX1_takeTeeth_30 : decode cX1_takeTeeth 30 = .ok (.aload_n 0, 1) := by decide +kernel
theorem dX1_takeTeeth_31 : decode cX1_takeTeeth 31 = .ok (.getfield 15, 3) := by decide +kernel
theorem dX1_takeTeeth_34 : decode cX1_takeTeeth 34 = .ok (.iload_n 2, 1) := by decide +kernel
theorem dX1_takeTeeth_35 : decode cX1_takeTeeth 35 = .ok (.aload_n 1, 1) := by decide +kernel
theorem dX1_takeTeeth_36 : decode cX1_takeTeeth 36 = .ok (.getfield 15, 3) := by decide +kernel
theorem dX1_takeTeeth_39 : decode cX1_takeTeeth 39 = .ok (.iload_n 2, 1) := by decide +kernel
theorem dX1_takeTeeth_40 : decode cX1_takeTeeth 40 = .ok (.baload, 1) := by decide +kernel
theorem dX1_takeTeeth_41 : decode cX1_takeTeeth 41 = .ok (.bastore, 1) := by decide +kernel
theorem dX1_takeTeeth_42 : decode cX1_takeTeeth 42 = .ok (.aload_n 0, 1) := by decide +kernel
theorem dX1_takeTeeth_43 : decode cX1_takeTeeth 43 = .ok (.getfield 19, 3) := by decide +kernel
theorem dX1_takeTeeth_46 : decode cX1_takeTeeth 46 = .ok (.iload_n 2, 1) := by decide +kernel
theorem dX1_takeTeeth_47 : decode cX1_takeTeeth 47 = .ok (.aload_n 1, 1) := by decide +kernel
theorem dX1_takeTeeth_48 : decode cX1_takeTeeth 48 = .ok (.getfield 19, 3) := by decide +kernel
theorem dX1_takeTeeth_51 : decode cX1_takeTeeth 51 = .ok (.iload_n 2, 1) := by decide +kernel
theorem dX1_takeTeeth_52 : decode cX1_takeTeeth 52 = .ok (.iaload, 1) := by decide +kernel
theorem dX1_takeTeeth_53 : decode cX1_takeTeeth 53 = .ok (.iastore, 1) := by decide +kernel
theorem dX1_takeTeeth_54 : decode cX1_takeTeeth 54 = .ok (.aload_n 0, 1) := by decide +kernel
theorem dX1_takeTeeth_55 : decode cX1_takeTeeth 55 = .ok (.getfield 22, 3) := by decide +kernel
theorem dX1_takeTeeth_58 : decode cX1_takeTeeth 58 = .ok (.iload_n 2, 1) := by decide +kernel
theorem dX1_takeTeeth_59 : decode cX1_takeTeeth 59 = .ok (.aload_n 1, 1) := by decide +kernel
theorem dX1_takeTeeth_60 : decode cX1_takeTeeth 60 = .ok (.getfield 22, 3) := by decide +kernel
theorem dX1_takeTeeth_63 : decode cX1_takeTeeth 63 = .ok (.iload_n 2, 1) := by decide +kernel
theorem dX1_takeTeeth_64 : decode cX1_takeTeeth 64 = .ok (.iaload, 1) := by decide +kernel
theorem dX1_takeTeeth_65 : decode cX1_takeTeeth 65 = .ok (.iastore, 1) := by decide +kernel
theorem dX1_takeTeeth_66 : decode cX1_takeTeeth 66 = .ok (.aload_n 0, 1) := by decide +kernel
theorem dX1_takeTeeth_67 : decode cX1_takeTeeth 67 = .ok (.getfield 25, 3) := by decide +kernel
theorem dX1_takeTeeth_70 : decode cX1_takeTeeth 70 = .ok (.iload_n 2, 1) := by decide +kernel
theorem dX1_takeTeeth_71 : decode cX1_takeTeeth 71 = .ok (.aload_n 1, 1) := by decide +kernel
theorem dX1_takeTeeth_72 : decode cX1_takeTeeth 72 = .ok (.getfield 25, 3) := by decide +kernel
theorem dX1_takeTeeth_75 : decode cX1_takeTeeth 75 = .ok (.iload_n 2, 1) := by decide +kernel
theorem dX1_takeTeeth_76 : decode cX1_takeTeeth 76 = .ok (.iaload, 1) := by decide +kernel
theorem dX1_takeTeeth_77 : decode cX1_takeTeeth 77 = .ok (.iastore, 1) := by decide +kernel
theorem dX1_takeTeeth_78 : decode cX1_takeTeeth 78 = .ok (.iinc 2 1, 3) := by decide +kernel
theorem dX1_takeTeeth_81 : decode cX1_takeTeeth 81 = .ok (.goto (-71), 3) := by decide +kernel
theorem dX1_takeTeeth_84 : decode cX1_takeTeeth 84 = .ok (.return_, 1) := by decide +kernel
theorem dX2_init_0 : decode cX2_init 0 = .ok (.aload_n 0, 1) := by decide +kernel
theorem dX2_init_1 : decode cX2_init 1 = .ok (.invokespecial 3, 3) := by decide +kernel
theorem dX2_init_4 : decode cX2_init 4 = .ok (.aload_n 0, 1) := by decide +kernel
theorem dX2_init_5 : decode cX2_init 5 = .ok (.bipush 40, 2) := by decide +kernel
theorem dX2_init_7 : decode cX2_init 7 = .ok (.newarray .int, 2) := by decide +kernel
theorem dX2_init_9 : decode cX2_init 9 = .ok (.putfield 9, 3) := by decide +kernel
theorem dX2_init_12 : decode cX2_init 12 = .ok (.aload_n 0, 1) := by decide +kernel
theorem dX2_init_13 : decode cX2_init 13 = .ok (.bipush 40, 2) := by decide +kernel
theorem dX2_init_15 : decode cX2_init 15 = .ok (.newarray .double, 2) := by decide +kernel
theorem dX2_init_17 : decode cX2_init 17 = .ok (.putfield 15, 3) := by decide +kernel
theorem dX2_init_20 : decode cX2_init 20 = .ok (.return_, 1) := by decide +kernel
theorem dX2_roomOf_0 : decode cX2_roomOf 0 = .ok (.aload_n 0, 1) := by decide +kernel
theorem dX2_roomOf_1 : decode cX2_roomOf 1 = .ok (.getfield 19, 3) := by decide +kernel
theorem dX2_roomOf_4 : decode cX2_roomOf 4 = .ok (.iload_n 1, 1) := by decide +kernel
theorem dX2_roomOf_5 : decode cX2_roomOf 5 = .ok (.iadd, 1) := by decide +kernel
theorem dX2_roomOf_6 : decode cX2_roomOf 6 = .ok (.bipush 40, 2) := by decide +kernel
theorem dX2_roomOf_8 : decode cX2_roomOf 8 = .ok (.irem, 1) := by decide +kernel
theorem dX2_roomOf_9 : decode cX2_roomOf 9 = .ok (.ireturn, 1) := by decide +kernel
set_option maxRecDepth 20000 in
theorem ggX2_pitchOf_X2_roomOf : GoodIn wsX2_pitchOf wsX2_roomOf := goodIn_r _ [6, 7, 8, 9, 10, 11, 12] (by decide +kernel) (by decide +kernel)
set_option maxRecDepth 20000 in
theorem gX2_pitchOf_X2_roomOf : GoodIn wsX2_pitchOf (wsV RX2 23 RX2 yX2_roomOf wsX2_roomOf) := goodIn_app (goodIn_of _ (by decide +kernel)) ggX2_pitchOf_X2_roomOf
theorem dX2_pitchOf_0 : decode cX2_pitchOf 0 = .ok (.aload_n 0, 1) := by decide +kernel
theorem dX2_pitchOf_1 : decode cX2_pitchOf 1 = .ok (.getfield 9, 3) := by decide +kernel
theorem dX2_pitchOf_4 : decode cX2_pitchOf 4 = .ok (.aload_n 0, 1) := by decide +kernel
theorem dX2_pitchOf_5 : decode cX2_pitchOf 5 = .ok (.iload_n 1, 1) := by decide +kernel
theorem dX2_pitchOf_6 : decode cX2_pitchOf 6 = .ok (.invokevirtual 23, 3) := by decide +kernel
theorem dX2_pitchOf_9 : decode cX2_pitchOf 9 = .ok (.iaload, 1) := by decide +kernel
theorem dX2_pitchOf_10 : decode cX2_pitchOf 10 = .ok (.ireturn, 1) := by decide +kernel
set_option maxRecDepth 20000 in
theorem ggX2_clockOf_X2_roomOf : GoodIn wsX2_clockOf wsX2_roomOf := goodIn_r _ [6, 7, 8, 9, 10, 11, 12] (by decide +kernel) (by decide +kernel)
set_option maxRecDepth 20000 in
theorem gX2_clockOf_X2_roomOf : GoodIn wsX2_clockOf (wsV RX2 23 RX2 yX2_roomOf wsX2_roomOf) := goodIn_app (goodIn_of _ (by decide +kernel)) ggX2_clockOf_X2_roomOf
theorem dX2_clockOf_0 : decode cX2_clockOf 0 = .ok (.aload_n 0, 1) := by decide +kernel
theorem dX2_clockOf_1 : decode cX2_clockOf 1 = .ok (.getfield 15, 3) := by decide +kernel
theorem dX2_clockOf_4 : decode cX2_clockOf 4 = .ok (.aload_n 0, 1) := by decide +kernel
theorem dX2_clockOf_5 : decode cX2_clockOf 5 = .ok (.iload_n 1, 1) := by decide +kernel
theorem dX2_clockOf_6 : decode cX2_clockOf 6 = .ok (.invokevirtual 23, 3) := by decide +kernel
theorem dX2_clockOf_9 : decode cX2_clockOf 9 = .ok (.daload, 1) := by decide +kernel
theorem dX2_clockOf_10 : decode cX2_clockOf 10 = .ok (.dreturn, 1) := by decide +kernel
set_option maxRecDepth 20000 in
theorem ggX2_addSound_X2_roomOf : GoodIn wsX2_addSound wsX2_roomOf := goodIn_r _ [10, 5, 11, 12, 13, 14, 15] (by decide +kernel) (by decide +kernel)
set_option maxRecDepth 20000 in
theorem gX2_addSound_X2_roomOf : GoodIn wsX2_addSound (wsV RX2 23 RX2 yX2_roomOf wsX2_roomOf) := goodIn_app (goodIn_of _ (by decide +kernel)) ggX2_addSound_X2_roomOf
theorem dX2_addSound_0 : decode cX2_addSound 0 = .ok (.aload_n 0, 1) := by decide +kernel
theorem dX2_addSound_1 : decode cX2_addSound 1 = .ok (.aload_n 0, 1) := by decide +kernel
theorem dX2_addSound_2 : decode cX2_addSound 2 = .ok (.getfield 27, 3) := by decide +kernel
theorem dX2_addSound_5 : decode cX2_addSound 5 = .ok (.invokevirtual 23, 3) := by decide +kernel
theorem dX2_addSound_8 : decode cX2_addSound 8 = .ok (.istore 4, 2) := by decide +kernel
theorem dX2_addSound_10 : decode cX2_addSound 10 = .ok (.aload_n 0, 1) := by decide +kernel
theorem dX2_addSound_11 : decode cX2_addSound 11 = .ok (.getfield 9, 3) := by decide +kernel
theorem dX2_addSound_14 : decode cX2_addSound 14 = .ok (.iload 4, 2) := by decide +kernel
theorem dX2_addSound_16 : decode cX2_addSound 16 = .ok (.iload_n 1, 1) := by decide +kernel
theorem dX2_addSound_17 : decode cX2_addSound 17 = .ok (.iastore, 1) := by decide +kernel
theorem dX2_addSound_18 : decode cX2_addSound 18 = .ok (.aload_n 0, 1) := by decide +kernel
theorem dX2_addSound_19 : decode cX2_addSound 19 = .ok (.getfield 15, 3) := by decide +kernel
theorem dX2_addSound_22 : decode cX2_addSound 22 = .ok (.iload 4, 2) := by decide +kernel
theorem dX2_addSound_24 : decode cX2_addSound 24 = .ok (.dload_n 2, 1) := by decide +kernel
theorem dX2_addSound_25 : decode cX2_addSound 25 = .ok (.dastore, 1) := by decide +kernel
theorem dX2_addSound_26 : decode cX2_addSound 26 = .ok (.aload_n 0, 1) := by decide +kernel
theorem dX2_addSound_27 : decode cX2_addSound 27 = .ok (.dup, 1) := by decide +kernel
theorem dX2_addSound_28 : decode cX2_addSound 28 = .ok (.getfield 30, 3) := by decide +kernel
theorem dX2_addSound_31 : decode cX2_addSound 31 = .ok (.iconst 1, 1) := by decide +kernel
theorem dX2_addSound_32 : decode cX2_addSound 32 = .ok (.iadd, 1) := by decide +kernel
theorem dX2_addSound_33 : decode cX2_addSound 33 = .ok (.putfield 30, 3) := by decide +kernel
theorem dX2_addSound_36 : decode cX2_addSound 36 = .ok (.aload_n 0, 1) := by decide +kernel
theorem dX2_addSound_37 : decode cX2_addSound 37 = .ok (.getfield 27, 3) := by decide +kernel
theorem dX2_addSound_40 : decode cX2_addSound 40 = .ok (.bipush 40, 2) := by decide +kernel
theorem dX2_addSound_42 : decode cX2_addSound 42 = .ok (.if_icmp .ge 16, 3) := by decide +kernel
theorem dX2_addSound_45 : decode cX2_addSound 45 = .ok (.aload_n 0, 1) := by decide +kernel
theorem dX2_addSound_46 : decode cX2_addSound 46 = .ok (.dup, 1) := by decide +kernel
theorem dX2_addSound_47 : decode cX2_addSound 47 = .ok (.getfield 27, 3) := by decide +kernel
theorem dX2_addSound_50 : decode cX2_addSound 50 = .ok (.iconst 1, 1) := by decide +kernel
theorem dX2_addSound_51 : decode cX2_addSound 51 = .ok (.iadd, 1) := by decide +kernel
theorem dX2_addSound_52 : decode cX2_addSound 52 = .ok (.putfield 27, 3) := by decide +kernel
theorem dX2_addSound_55 : decode cX2_addSound 55 = .ok (.goto 12, 3) := by decide +kernel
theorem dX2_addSound_58 : decode cX2_addSound 58 = .ok (.aload_n 0, 1) := by decide +kernel
theorem dX2_addSound_59 : decode cX2_addSound 59 = .ok (.aload_n 0, 1) := by decide +kernel
theorem dX2_addSound_60 : decode cX2_addSound 60 = .ok (.iconst 1, 1) := by decide +kernel
theorem dX2_addSound_61 : decode cX2_addSound 61 = .ok (.invokevirtual 23, 3) := by decide +kernel
theorem dX2_addSound_64 : decode cX2_addSound 64 = .ok (.putfield 19, 3) := by decide +kernel
theorem dX2_addSound_67 : decode cX2_addSound 67 = .ok (.return_, 1) := by decide +kernel
theorem dX3_init_0 : decode cX3_init 0 = .ok (.aload_n 0, 1) := by decide +kernel
theorem dX3_init_1 : decode cX3_init 1 = .ok (.invokespecial 3, 3) := by decide +kernel
theorem dX3_init_4 : decode cX3_init 4 = .ok (.aload_n 0, 1) := by decide +kernel
theorem dX3_init_5 : decode cX3_init 5 = .ok (.iconst 4, 1) := by decide +kernel
theorem dX3_init_6 : decode cX3_init 6 = .ok (.newarray .int, 2) := by decide +kernel
theorem dX3_init_8 : decode cX3_init 8 = .ok (.putfield 9, 3) := by decide +kernel
theorem dX3_init_11 : decode cX3_init 11 = .ok (.aload_n 0, 1) := by decide +kernel
theorem dX3_init_12 : decode cX3_init 12 = .ok (.bipush 120, 2) := by decide +kernel
theorem dX3_init_14 : decode cX3_init 14 = .ok (.newarray .int, 2) := by decide +kernel
theorem dX3_init_16 : decode cX3_init 16 = .ok (.putfield 15, 3) := by decide +kernel
theorem dX3_init_19 : decode cX3_init 19 = .ok (.return_, 1) := by decide +kernel
theorem dX3_timeOf_0 : decode cX3_timeOf 0 = .ok (.aload_n 0, 1) := by decide +kernel
theorem dX3_timeOf_1 : decode cX3_timeOf 1 = .ok (.getfield 15, 3) := by decide +kernel
theorem dX3_timeOf_4 : decode cX3_timeOf 4 = .ok (.iload_n 1, 1) := by decide +kernel
theorem dX3_timeOf_5 : decode cX3_timeOf 5 = .ok (.bipush 30, 2) := by decide +kernel
theorem dX3_timeOf_7 : decode cX3_timeOf 7 = .ok (.imul, 1) := by decide +kernel
theorem dX3_timeOf_8 : decode cX3_timeOf 8 = .ok (.iload_n 2, 1) := by decide +kernel
theorem dX3_timeOf_9 : decode cX3_timeOf 9 = .ok (.iadd, 1) := by decide +kernel
theorem dX3_timeOf_10 : decode cX3_timeOf 10 = .ok (.iaload, 1) := by decide +kernel
theorem dX3_timeOf_11 : decode cX3_timeOf 11 = .ok (.bipush 48, 2) := by decide +kernel
theorem dX3_timeOf_13 : decode cX3_timeOf 13 = .ok (.idiv, 1) := by decide +kernel
theorem dX3_timeOf_14 : decode cX3_timeOf 14 = .ok (.ireturn, 1) := by decide +kernel
theorem dX3_pitchOf_0 : decode cX3_pitchOf 0 = .ok (.aload_n 0, 1) := by decide +kernel
theorem dX3_pitchOf_1 : decode cX3_pitchOf 1 = .ok (.getfield 15, 3) := by decide +kernel
theorem dX3_pitchOf_4 : decode cX3_pitchOf 4 = .ok (.iload_n 1, 1) := by decide +kernel
theorem dX3_pitchOf_5 : decode cX3_pitchOf 5 = .ok (.bipush 30, 2) := by decide +kernel
theorem dX3_pitchOf_7 : decode cX3_pitchOf 7 = .ok (.imul, 1) := by decide +kernel
theorem dX3_pitchOf_8 : decode cX3_pitchOf 8 = .ok (.iload_n 2, 1) := by decide +kernel
theorem dX3_pitchOf_9 : decode cX3_pitchOf 9 = .ok (.iadd, 1) := by decide +kernel
theorem dX3_pitchOf_10 : decode cX3_pitchOf 10 = .ok (.iaload, 1) := by decide +kernel
theorem dX3_pitchOf_11 : decode cX3_pitchOf 11 = .ok (.bipush 48, 2) := by decide +kernel
theorem dX3_pitchOf_13 : decode cX3_pitchOf 13 = .ok (.irem, 1) := by decide +kernel
theorem dX3_pitchOf_14 : decode cX3_pitchOf 14 = .ok (.ireturn, 1) := by decide +kernel
theorem dX3_rankOf_0 : decode cX3_rankOf 0 = .ok (.iconst 0, 1) := by decide +kernel
theorem dX3_rankOf_1 : decode cX3_rankOf 1 = .ok (.istore_n 3, 1) := by decide +kernel
theorem dX3_rankOf_2 : decode cX3_rankOf 2 = .ok (.iload_n 3, 1) := by decide +kernel
theorem dX3_rankOf_3 : decode cX3_rankOf 3 = .ok (.aload_n 0, 1) := by decide +kernel
theorem dX3_rankOf_4 : decode cX3_rankOf 4 = .ok (.getfield 9, 3) := by decide +kernel
theorem dX3_rankOf_7 : decode cX3_rankOf 7 = .ok (.iload_n 1, 1) := by decide +kernel
theorem dX3_rankOf_8 : decode cX3_rankOf 8 = .ok (.iaload, 1) := by decide +kernel
theorem dX3_rankOf_9 : decode cX3_rankOf 9 = .ok (.if_icmp .ge 24, 3) := by decide +kernel
theorem dX3_rankOf_12 : decode cX3_rankOf 12 = .ok (.aload_n 0, 1) := by decide +kernel
theorem dX3_rankOf_13 : decode cX3_rankOf 13 = .ok (.getfield 15, 3) := by decide +kernel
theorem dX3_rankOf_16 : decode cX3_rankOf 16 = .ok (.iload_n 1, 1) := by decide +kernel
theorem dX3_rankOf_17 : decode cX3_rankOf 17 = .ok (.bipush 30, 2) := by decide +kernel
theorem dX3_rankOf_19 : decode cX3_rankOf 19 = .ok (.imul, 1) := by decide +kernel
theorem dX3_rankOf_20 : decode cX3_rankOf 20 = .ok (.iload_n 3, 1) := by decide +kernel
theorem dX3_rankOf_21 : decode cX3_rankOf 21 = .ok (.iadd, 1) := by decide +kernel
theorem dX3_rankOf_22 : decode cX3_rankOf 22 = .ok (.iaload, 1) := by decide +kernel
theorem dX3_rankOf_23 : decode cX3_rankOf 23 = .ok (.iload_n 2, 1) := by decide +kernel
theorem dX3_rankOf_24 : decode cX3_rankOf 24 = .ok (.if_icmp .ge 9, 3) := by decide +kernel
theorem dX3_rankOf_27 : decode cX3_rankOf 27 = .ok (.iinc 3 1, 3) := by decide +kernel
theorem dX3_rankOf_30 : decode cX3_rankOf 30 = .ok (.goto (-28), 3) := by decide +kernel
theorem dX3_rankOf_33 : decode cX3_rankOf 33 = .ok (.iload_n 3, 1) := by decide +kernel
theorem dX3_rankOf_34 : decode cX3_rankOf 34 = .ok (.ireturn, 1) := by decide +kernel
set_option maxRecDepth 20000 in
theorem ggX3_holds_X3_rankOf : GoodIn wsX3_holds wsX3_rankOf := goodIn_r _ [7, 1, 2, 8, 9, 10] (by decide +kernel) (by decide +kernel)
set_option maxRecDepth 20000 in
theorem gX3_holds_X3_rankOf : GoodIn wsX3_holds (wsV RX3 18 RX3 yX3_rankOf wsX3_rankOf) := goodIn_app (goodIn_of _ (by decide +kernel)) ggX3_holds_X3_rankOf
theorem dX3_holds_0 : decode cX3_holds 0 = .ok (.iload_n 2, 1) := by decide +kernel
theorem dX3_holds_1 : decode cX3_holds 1 = .ok (.bipush 48, 2) := by decide +kernel
theorem dX3_holds_3 : decode cX3_holds 3 = .ok (.imul, 1) := by decide +kernel
theorem dX3_holds_4 : decode cX3_holds 4 = .ok (.iload_n 3, 1) := by decide +kernel
theorem dX3_holds_5 : decode cX3_holds 5 = .ok (.iadd, 1) := by decide +kernel
theorem dX3_holds_6 : decode cX3_holds 6 = .ok (.istore 4, 2) := by decide +kernel
theorem dX3_holds_8 : decode cX3_holds 8 = .ok (.aload_n 0, 1) := by decide +kernel
theorem dX3_holds_9 : decode cX3_holds 9 = .ok (.iload_n 1, 1) := by decide +kernel
theorem dX3_holds_10 : decode cX3_holds 10 = .ok (.iload 4, 2) := by decide +kernel
theorem dX3_holds_12 : decode cX3_holds 12 = .ok (.invokevirtual 18, 3) := by decide +kernel
theorem dX3_holds_15 : decode cX3_holds 15 = .ok (.istore 5, 2) := by decide +kernel
theorem dX3_holds_17 : decode cX3_holds 17 = .ok (.iload 5, 2) := by decide +kernel
theorem dX3_holds_19 : decode cX3_holds 19 = .ok (.aload_n 0, 1) := by decide +kernel
theorem dX3_holds_20 : decode cX3_holds 20 = .ok (.getfield 9, 3) := by decide +kernel
theorem dX3_holds_23 : decode cX3_holds 23 = .ok (.iload_n 1, 1) := by decide +kernel
theorem dX3_holds_24 : decode cX3_holds 24 = .ok (.iaload, 1) := by decide +kernel
theorem dX3_holds_25 : decode cX3_holds 25 = .ok (.if_icmp .ge 24, 3) := by decide +kernel
theorem dX3_holds_28 : decode cX3_holds 28 = .ok (.aload_n 0, 1) := by decide +kernel
theorem dX3_holds_29 : decode cX3_holds 29 = .ok (.getfield 15, 3) := by decide +kernel
theorem dX3_holds_32 : decode cX3_holds 32 = .ok (.iload_n 1, 1) := by decide +kernel
theorem dX3_holds_33 : decode cX3_holds 33 = .ok (.bipush 30, 2) := by decide +kernel
theorem dX3_holds_35 : decode cX3_holds 35 = .ok (.imul, 1) := by decide +kernel
theorem dX3_holds_36 : decode cX3_holds 36 = .ok (.iload 5, 2) := by decide +kernel
theorem dX3_holds_38 : decode cX3_holds 38 = .ok (.iadd, 1) := by decide +kernel
theorem dX3_holds_39 : decode cX3_holds 39 = .ok (.iaload, 1) := by decide +kernel
theorem dX3_holds_40 : decode cX3_holds 40 = .ok (.iload 4, 2) := by decide +kernel
theorem dX3_holds_42 : decode cX3_holds 42 = .ok (.if_icmp .ne 7, 3) := by decide +kernel
theorem dX3_holds_45 : decode cX3_holds 45 = .ok (.iconst 1, 1) := by decide +kernel
theorem dX3_holds_46 : decode cX3_holds 46 = .ok (.goto 4, 3) := by decide +kernel
theorem dX3_holds_49 : decode cX3_holds 49 = .ok (.iconst 0, 1) := by decide +kernel
theorem dX3_holds_50 : decode cX3_holds 50 = .ok (.ireturn, 1) := by decide +kernel
set_option maxRecDepth 20000 in
theorem ggX3_write_X3_rankOf : GoodIn wsX3_write wsX3_rankOf := goodIn_r _ [7, 1, 2, 8, 9, 10] (by decide +kernel) (by decide +kernel)
set_option maxRecDepth 20000 in
theorem gX3_write_X3_rankOf : GoodIn wsX3_write (wsV RX3 18 RX3 yX3_rankOf wsX3_rankOf) := goodIn_app (goodIn_of _ (by decide +kernel)) ggX3_write_X3_rankOf
theorem dX3_write_0 : decode cX3_write 0 = .ok (.iload_n 2, 1) := by decide +kernel
theorem dX3_write_1 : decode cX3_write 1 = .ok (.bipush 48, 2) := by decide +kernel
theorem dX3_write_3 : decode cX3_write 3 = .ok (.imul, 1) := by decide +kernel
theorem dX3_write_4 : decode cX3_write 4 = .ok (.iload_n 3, 1) := by decide +kernel
theorem dX3_write_5 : decode cX3_write 5 = .ok (.iadd, 1) := by decide +kernel
theorem dX3_write_6 : decode cX3_write 6 = .ok (.istore 4, 2) := by decide +kernel
theorem dX3_write_8 : decode cX3_write 8 = .ok (.iload_n 1, 1) := by decide +kernel
theorem dX3_write_9 : decode cX3_write 9 = .ok (.bipush 30, 2) := by decide +kernel
theorem dX3_write_11 : decode cX3_write 11 = .ok (.imul, 1) := by decide +kernel
theorem dX3_write_12 : decode cX3_write 12 = .ok (.istore 5, 2) := by decide +kernel
theorem dX3_write_14 : decode cX3_write 14 = .ok (.aload_n 0, 1) := by decide +kernel
theorem dX3_write_15 : decode cX3_write 15 = .ok (.iload_n 1, 1) := by decide +kernel
theorem dX3_write_16 : decode cX3_write 16 = .ok (.iload 4, 2) := by decide +kernel
theorem dX3_write_18 : decode cX3_write 18 = .ok (.invokevirtual 18, 3) := by decide +kernel
theorem dX3_write_21 : decode cX3_write 21 = .ok (.istore 6, 2) := by decide +kernel
theorem dX3_write_23 : decode cX3_write 23 = .ok (.aload_n 0, 1) := by decide +kernel
theorem dX3_write_24 : decode cX3_write 24 = .ok (.getfield 9, 3) := by decide +kernel
theorem dX3_write_27 : decode cX3_write 27 = .ok (.iload_n 1, 1) := by decide +kernel
theorem dX3_write_28 : decode cX3_write 28 = .ok (.iaload, 1) := by decide +kernel
theorem dX3_write_29 : decode cX3_write 29 = .ok (.istore 7, 2) := by decide +kernel
theorem dX3_write_31 : decode cX3_write 31 = .ok (.iload 7, 2) := by decide +kernel
theorem dX3_write_33 : decode cX3_write 33 = .ok (.iload 6, 2) := by decide +kernel
theorem dX3_write_35 : decode cX3_write 35 = .ok (.if_icmp .le 31, 3) := by decide +kernel
theorem dX3_write_38 : decode cX3_write 38 = .ok (.aload_n 0, 1) := by decide +kernel
theorem dX3_write_39 : decode cX3_write 39 = .ok (.getfield 15, 3) := by decide +kernel
theorem dX3_write_42 : decode cX3_write 42 = .ok (.iload 5, 2) := by decide +kernel
theorem dX3_write_44 : decode cX3_write 44 = .ok (.iload 7, 2) := by decide +kernel
theorem dX3_write_46 : decode cX3_write 46 = .ok (.iadd, 1) := by decide +kernel
theorem dX3_write_47 : decode cX3_write 47 = .ok (.aload_n 0, 1) := by decide +kernel
theorem dX3_write_48 : decode cX3_write 48 = .ok (.getfield 15, 3) := by decide +kernel
theorem dX3_write_51 : decode cX3_write 51 = .ok (.iload 5, 2) := by decide +kernel
theorem dX3_write_53 : decode cX3_write 53 = .ok (.iload 7, 2) := by decide +kernel
theorem dX3_write_55 : decode cX3_write 55 = .ok (.iadd, 1) := by decide +kernel
theorem dX3_write_56 : decode cX3_write 56 = .ok (.iconst 1, 1) := by decide +kernel
theorem dX3_write_57 : decode cX3_write 57 = .ok (.isub, 1) := by decide +kernel
theorem dX3_write_58 : decode cX3_write 58 = .ok (.iaload, 1) := by decide +kernel
theorem dX3_write_59 : decode cX3_write 59 = .ok (.iastore, 1) := by decide +kernel
theorem dX3_write_60 : decode cX3_write 60 = .ok (.iinc 7 (-1), 3) := by decide +kernel
theorem dX3_write_63 : decode cX3_write 63 = .ok (.goto (-32), 3) := by decide +kernel
theorem dX3_write_66 : decode cX3_write 66 = .ok (.aload_n 0, 1) := by decide +kernel
theorem dX3_write_67 : decode cX3_write 67 = .ok (.getfield 15, 3) := by decide +kernel
theorem dX3_write_70 : decode cX3_write 70 = .ok (.iload 5, 2) := by decide +kernel
theorem dX3_write_72 : decode cX3_write 72 = .ok (.iload 6, 2) := by decide +kernel
theorem dX3_write_74 : decode cX3_write 74 = .ok (.iadd, 1) := by decide +kernel
theorem dX3_write_75 : decode cX3_write 75 = .ok (.iload 4, 2) := by decide +kernel
theorem dX3_write_77 : decode cX3_write 77 = .ok (.iastore, 1) := by decide +kernel
theorem dX3_write_78 : decode cX3_write 78 = .ok (.aload_n 0, 1) := by decide +kernel
theorem dX3_write_79 : decode cX3_write 79 = .ok (.getfield 9, 3) := by decide +kernel
theorem dX3_write_82 : decode cX3_write 82 = .ok (.iload_n 1, 1) := by decide +kernel
theorem dX3_write_83 : decode cX3_write 83 = .ok (.dup2, 1) := by decide +kernel
theorem dX3_write_84 : decode cX3_write 84 = .ok (.iaload, 1) := by decide +kernel
theorem dX3_write_85 : decode cX3_write 85 = .ok (.iconst 1, 1) := by decide +kernel
theorem dX3_write_86 : decode cX3_write 86 = .ok (.iadd, 1) := by decide +kernel
theorem dX3_write_87 : decode cX3_write 87 = .ok (.iastore, 1) := by decide +kernel
theorem dX3_write_88 : decode cX3_write 88 = .ok (.return_, 1) := by decide +kernel
set_option maxRecDepth 20000 in
theorem ggX3_strike_X3_rankOf : GoodIn wsX3_strike wsX3_rankOf := goodIn_r _ [7, 1, 2, 8, 9, 10] (by decide +kernel) (by decide +kernel)
set_option maxRecDepth 20000 in
theorem gX3_strike_X3_rankOf : GoodIn wsX3_strike (wsV RX3 18 RX3 yX3_rankOf wsX3_rankOf) := goodIn_app (goodIn_of _ (by decide +kernel)) ggX3_strike_X3_rankOf
theorem dX3_strike_0 : decode cX3_strike 0 = .ok (.iload_n 1, 1) := by decide +kernel
theorem dX3_strike_1 : decode cX3_strike 1 = .ok (.bipush 30, 2) := by decide +kernel
theorem dX3_strike_3 : decode cX3_strike 3 = .ok (.imul, 1) := by decide +kernel
theorem dX3_strike_4 : decode cX3_strike 4 = .ok (.istore 4, 2) := by decide +kernel
theorem dX3_strike_6 : decode cX3_strike 6 = .ok (.aload_n 0, 1) := by decide +kernel
theorem dX3_strike_7 : decode cX3_strike 7 = .ok (.getfield 9, 3) := by decide +kernel
theorem dX3_strike_10 : decode cX3_strike 10 = .ok (.iload_n 1, 1) := by decide +kernel
theorem dX3_strike_11 : decode cX3_strike 11 = .ok (.dup2, 1) := by decide +kernel
theorem dX3_strike_12 : decode cX3_strike 12 = .ok (.iaload, 1) := by decide +kernel
theorem dX3_strike_13 : decode cX3_strike 13 = .ok (.iconst 1, 1) := by decide +kernel
theorem dX3_strike_14 : decode cX3_strike 14 = .ok (.isub, 1) := by decide +kernel
theorem dX3_strike_15 : decode cX3_strike 15 = .ok (.iastore, 1) := by decide +kernel
theorem dX3_strike_16 : decode cX3_strike 16 = .ok (.aload_n 0, 1) := by decide +kernel
theorem dX3_strike_17 : decode cX3_strike 17 = .ok (.iload_n 1, 1) := by decide +kernel
theorem dX3_strike_18 : decode cX3_strike 18 = .ok (.iload_n 2, 1) := by decide +kernel
theorem dX3_strike_19 : decode cX3_strike 19 = .ok (.bipush 48, 2) := by decide +kernel
theorem dX3_strike_21 : decode cX3_strike 21 = .ok (.imul, 1) := by decide +kernel
theorem dX3_strike_22 : decode cX3_strike 22 = .ok (.iload_n 3, 1) := by decide +kernel
theorem dX3_strike_23 : decode cX3_strike 23 = .ok (.iadd, 1) := by decide +kernel
theorem dX3_strike_24 : decode cX3_strike 24 = .ok (.invokevirtual 18, 3) := by decide +kernel
theorem dX3_strike_27 : decode cX3_strike 27 = .ok (.istore 5, 2) := by decide +kernel
theorem dX3_strike_29 : decode cX3_strike 29 = .ok (.iload 5, 2) := by decide +kernel
theorem dX3_strike_31 : decode cX3_strike 31 = .ok (.aload_n 0, 1) := by decide +kernel
theorem dX3_strike_32 : decode cX3_strike 32 = .ok (.getfield 9, 3) := by decide +kernel
theorem dX3_strike_35 : decode cX3_strike 35 = .ok (.iload_n 1, 1) := by decide +kernel
theorem dX3_strike_36 : decode cX3_strike 36 = .ok (.iaload, 1) := by decide +kernel
theorem dX3_strike_37 : decode cX3_strike 37 = .ok (.if_icmp .ge 31, 3) := by decide +kernel
theorem dX3_strike_40 : decode cX3_strike 40 = .ok (.aload_n 0, 1) := by decide +kernel
theorem dX3_strike_41 : decode cX3_strike 41 = .ok (.getfield 15, 3) := by decide +kernel
theorem dX3_strike_44 : decode cX3_strike 44 = .ok (.iload 4, 2) := by decide +kernel
theorem dX3_strike_46 : decode cX3_strike 46 = .ok (.iload 5, 2) := by decide +kernel
theorem dX3_strike_48 : decode cX3_strike 48 = .ok (.iadd, 1) := by decide +kernel
theorem dX3_strike_49 : decode cX3_strike 49 = .ok (.aload_n 0, 1) := by decide +kernel
theorem dX3_strike_50 : decode cX3_strike 50 = .ok (.getfield 15, 3) := by decide +kernel
theorem dX3_strike_53 : decode cX3_strike 53 = .ok (.iload 4, 2) := by decide +kernel
theorem dX3_strike_55 : decode cX3_strike 55 = .ok (.iload 5, 2) := by decide +kernel
theorem dX3_strike_57 : decode cX3_strike 57 = .ok (.iadd, 1) := by decide +kernel
theorem dX3_strike_58 : decode cX3_strike 58 = .ok (.iconst 1, 1) := by decide +kernel
theorem dX3_strike_59 : decode cX3_strike 59 = .ok (.iadd, 1) := by decide +kernel
theorem dX3_strike_60 : decode cX3_strike 60 = .ok (.iaload, 1) := by decide +kernel
theorem dX3_strike_61 : decode cX3_strike 61 = .ok (.iastore, 1) := by decide +kernel
theorem dX3_strike_62 : decode cX3_strike 62 = .ok (.iinc 5 1, 3) := by decide +kernel
theorem dX3_strike_65 : decode cX3_strike 65 = .ok (.goto (-36), 3) := by decide +kernel
theorem dX3_strike_68 : decode cX3_strike 68 = .ok (.return_, 1) := by decide +kernel
set_option maxRecDepth 20000 in
theorem ggX3_lowest_X3_pitchOf : GoodIn wsX3_lowest wsX3_pitchOf := goodIn_r _ [6, 7, 8, 9, 10] (by decide +kernel) (by decide +kernel)
set_option maxRecDepth 20000 in
theorem gX3_lowest_X3_pitchOf : GoodIn wsX3_lowest (wsV RX3 22 RX3 yX3_pitchOf wsX3_pitchOf) := goodIn_app (goodIn_of _ (by decide +kernel)) ggX3_lowest_X3_pitchOf
theorem dX3_lowest_0 : decode cX3_lowest 0 = .ok (.iconst (-1), 1) := by decide +kernel
theorem dX3_lowest_1 : decode cX3_lowest 1 = .ok (.istore_n 2, 1) := by decide +kernel
theorem dX3_lowest_2 : decode cX3_lowest 2 = .ok (.iconst 0, 1) := by decide +kernel
theorem dX3_lowest_3 : decode cX3_lowest 3 = .ok (.istore_n 3, 1) := by decide +kernel
theorem dX3_lowest_4 : decode cX3_lowest 4 = .ok (.iload_n 3, 1) := by decide +kernel
theorem dX3_lowest_5 : decode cX3_lowest 5 = .ok (.aload_n 0, 1) := by decide +kernel
theorem dX3_lowest_6 : decode cX3_lowest 6 = .ok (.getfield 9, 3) := by decide +kernel
theorem dX3_lowest_9 : decode cX3_lowest 9 = .ok (.iload_n 1, 1) := by decide +kernel
theorem dX3_lowest_10 : decode cX3_lowest 10 = .ok (.iaload, 1) := by decide +kernel
theorem dX3_lowest_11 : decode cX3_lowest 11 = .ok (.if_icmp .ge 31, 3) := by decide +kernel
theorem dX3_lowest_14 : decode cX3_lowest 14 = .ok (.aload_n 0, 1) := by decide +kernel
theorem dX3_lowest_15 : decode cX3_lowest 15 = .ok (.iload_n 1, 1) := by decide +kernel
theorem dX3_lowest_16 : decode cX3_lowest 16 = .ok (.iload_n 3, 1) := by decide +kernel
theorem dX3_lowest_17 : decode cX3_lowest 17 = .ok (.invokevirtual 22, 3) := by decide +kernel
theorem dX3_lowest_20 : decode cX3_lowest 20 = .ok (.istore 4, 2) := by decide +kernel
theorem dX3_lowest_22 : decode cX3_lowest 22 = .ok (.iload_n 2, 1) := by decide +kernel
theorem dX3_lowest_23 : decode cX3_lowest 23 = .ok (.iconst (-1), 1) := by decide +kernel
theorem dX3_lowest_24 : decode cX3_lowest 24 = .ok (.if_icmp .eq 9, 3) := by decide +kernel
theorem dX3_lowest_27 : decode cX3_lowest 27 = .ok (.iload 4, 2) := by decide +kernel
theorem dX3_lowest_29 : decode cX3_lowest 29 = .ok (.iload_n 2, 1) := by decide +kernel
theorem dX3_lowest_30 : decode cX3_lowest 30 = .ok (.if_icmp .ge 6, 3) := by decide +kernel
theorem dX3_lowest_33 : decode cX3_lowest 33 = .ok (.iload 4, 2) := by decide +kernel
theorem dX3_lowest_35 : decode cX3_lowest 35 = .ok (.istore_n 2, 1) := by decide +kernel
theorem dX3_lowest_36 : decode cX3_lowest 36 = .ok (.iinc 3 1, 3) := by decide +kernel
theorem dX3_lowest_39 : decode cX3_lowest 39 = .ok (.goto (-35), 3) := by decide +kernel
theorem dX3_lowest_42 : decode cX3_lowest 42 = .ok (.iload_n 2, 1) := by decide +kernel
theorem dX3_lowest_43 : decode cX3_lowest 43 = .ok (.ireturn, 1) := by decide +kernel
set_option maxRecDepth 20000 in
theorem ggX3_highest_X3_pitchOf : GoodIn wsX3_highest wsX3_pitchOf := goodIn_r _ [10, 11, 12, 13, 14] (by decide +kernel) (by decide +kernel)
set_option maxRecDepth 20000 in
theorem gX3_highest_X3_pitchOf : GoodIn wsX3_highest (wsV RX3 22 RX3 yX3_pitchOf wsX3_pitchOf) := goodIn_app (goodIn_of _ (by decide +kernel)) ggX3_highest_X3_pitchOf
theorem dX3_highest_0 : decode cX3_highest 0 = .ok (.iconst (-1), 1) := by decide +kernel
theorem dX3_highest_1 : decode cX3_highest 1 = .ok (.istore_n 2, 1) := by decide +kernel
theorem dX3_highest_2 : decode cX3_highest 2 = .ok (.iconst 0, 1) := by decide +kernel
theorem dX3_highest_3 : decode cX3_highest 3 = .ok (.istore_n 3, 1) := by decide +kernel
theorem dX3_highest_4 : decode cX3_highest 4 = .ok (.iload_n 3, 1) := by decide +kernel
theorem dX3_highest_5 : decode cX3_highest 5 = .ok (.aload_n 0, 1) := by decide +kernel
theorem dX3_highest_6 : decode cX3_highest 6 = .ok (.getfield 9, 3) := by decide +kernel
theorem dX3_highest_9 : decode cX3_highest 9 = .ok (.iload_n 1, 1) := by decide +kernel
theorem dX3_highest_10 : decode cX3_highest 10 = .ok (.iaload, 1) := by decide +kernel
theorem dX3_highest_11 : decode cX3_highest 11 = .ok (.if_icmp .ge 20, 3) := by decide +kernel
theorem dX3_highest_14 : decode cX3_highest 14 = .ok (.iload_n 2, 1) := by decide +kernel
theorem dX3_highest_15 : decode cX3_highest 15 = .ok (.aload_n 0, 1) := by decide +kernel
theorem dX3_highest_16 : decode cX3_highest 16 = .ok (.iload_n 1, 1) := by decide +kernel
theorem dX3_highest_17 : decode cX3_highest 17 = .ok (.iload_n 3, 1) := by decide +kernel
theorem dX3_highest_18 : decode cX3_highest 18 = .ok (.invokevirtual 22, 3) := by decide +kernel
theorem dX3_highest_21 : decode cX3_highest 21 = .ok (.invokestatic 25, 3) := by decide +kernel
theorem dX3_highest_24 : decode cX3_highest 24 = .ok (.istore_n 2, 1) := by decide +kernel
theorem dX3_highest_25 : decode cX3_highest 25 = .ok (.iinc 3 1, 3) := by decide +kernel
theorem dX3_highest_28 : decode cX3_highest 28 = .ok (.goto (-24), 3) := by decide +kernel
theorem dX3_highest_31 : decode cX3_highest 31 = .ok (.iload_n 2, 1) := by decide +kernel
theorem dX3_highest_32 : decode cX3_highest 32 = .ok (.ireturn, 1) := by decide +kernel
set_option maxRecDepth 20000 in
theorem ggX3_times_X3_timeOf : GoodIn wsX3_times wsX3_timeOf := goodIn_r _ [6, 7, 8, 9, 10] (by decide +kernel) (by decide +kernel)
set_option maxRecDepth 20000 in
theorem gX3_times_X3_timeOf : GoodIn wsX3_times (wsV RX3 30 RX3 yX3_timeOf wsX3_timeOf) := goodIn_app (goodIn_of _ (by decide +kernel)) ggX3_times_X3_timeOf
theorem dX3_times_0 : decode cX3_times 0 = .ok (.iconst 0, 1) := by decide +kernel
theorem dX3_times_1 : decode cX3_times 1 = .ok (.istore_n 2, 1) := by decide +kernel
theorem dX3_times_2 : decode cX3_times 2 = .ok (.iconst 0, 1) := by decide +kernel
theorem dX3_times_3 : decode cX3_times 3 = .ok (.istore_n 3, 1) := by decide +kernel
theorem dX3_times_4 : decode cX3_times 4 = .ok (.iload_n 3, 1) := by decide +kernel
theorem dX3_times_5 : decode cX3_times 5 = .ok (.aload_n 0, 1) := by decide +kernel
theorem dX3_times_6 : decode cX3_times 6 = .ok (.getfield 9, 3) := by decide +kernel
theorem dX3_times_9 : decode cX3_times 9 = .ok (.iload_n 1, 1) := by decide +kernel
theorem dX3_times_10 : decode cX3_times 10 = .ok (.iaload, 1) := by decide +kernel
theorem dX3_times_11 : decode cX3_times 11 = .ok (.if_icmp .ge 33, 3) := by decide +kernel
theorem dX3_times_14 : decode cX3_times 14 = .ok (.iload_n 3, 1) := by decide +kernel
theorem dX3_times_15 : decode cX3_times 15 = .ok (.ifCond .eq 20, 3) := by decide +kernel
theorem dX3_times_18 : decode cX3_times 18 = .ok (.aload_n 0, 1) := by decide +kernel
theorem dX3_times_19 : decode cX3_times 19 = .ok (.iload_n 1, 1) := by decide +kernel
theorem dX3_times_20 : decode cX3_times 20 = .ok (.iload_n 3, 1) := by decide +kernel
theorem dX3_times_21 : decode cX3_times 21 = .ok (.invokevirtual 30, 3) := by decide +kernel
theorem dX3_times_24 : decode cX3_times 24 = .ok (.aload_n 0, 1) := by decide +kernel
theorem dX3_times_25 : decode cX3_times 25 = .ok (.iload_n 1, 1) := by decide +kernel
theorem dX3_times_26 : decode cX3_times 26 = .ok (.iload_n 3, 1) := by decide +kernel
theorem dX3_times_27 : decode cX3_times 27 = .ok (.iconst 1, 1) := by decide +kernel
theorem dX3_times_28 : decode cX3_times 28 = .ok (.isub, 1) := by decide +kernel
theorem dX3_times_29 : decode cX3_times 29 = .ok (.invokevirtual 30, 3) := by decide +kernel
theorem dX3_times_32 : decode cX3_times 32 = .ok (.if_icmp .eq 6, 3) := by decide +kernel
theorem dX3_times_35 : decode cX3_times 35 = .ok (.iinc 2 1, 3) := by decide +kernel
theorem dX3_times_38 : decode cX3_times 38 = .ok (.iinc 3 1, 3) := by decide +kernel
theorem dX3_times_41 : decode cX3_times 41 = .ok (.goto (-37), 3) := by decide +kernel
theorem dX3_times_44 : decode cX3_times 44 = .ok (.iload_n 2, 1) := by decide +kernel
theorem dX3_times_45 : decode cX3_times 45 = .ok (.ireturn, 1) := by decide +kernel
set_option maxRecDepth 20000 in
theorem ggX3_mostAtOnce_X3_timeOf : GoodIn wsX3_mostAtOnce wsX3_timeOf := goodIn_r _ [10, 11, 12, 13, 14] (by decide +kernel) (by decide +kernel)
set_option maxRecDepth 20000 in
theorem gX3_mostAtOnce_X3_timeOf : GoodIn wsX3_mostAtOnce (wsV RX3 30 RX3 yX3_timeOf wsX3_timeOf) := goodIn_app (goodIn_of _ (by decide +kernel)) ggX3_mostAtOnce_X3_timeOf
theorem dX3_mostAtOnce_0 : decode cX3_mostAtOnce 0 = .ok (.iconst 0, 1) := by decide +kernel
theorem dX3_mostAtOnce_1 : decode cX3_mostAtOnce 1 = .ok (.istore_n 2, 1) := by decide +kernel
theorem dX3_mostAtOnce_2 : decode cX3_mostAtOnce 2 = .ok (.iconst 0, 1) := by decide +kernel
theorem dX3_mostAtOnce_3 : decode cX3_mostAtOnce 3 = .ok (.istore_n 3, 1) := by decide +kernel
theorem dX3_mostAtOnce_4 : decode cX3_mostAtOnce 4 = .ok (.iconst 0, 1) := by decide +kernel
theorem dX3_mostAtOnce_5 : decode cX3_mostAtOnce 5 = .ok (.istore 4, 2) := by decide +kernel
theorem dX3_mostAtOnce_7 : decode cX3_mostAtOnce 7 = .ok (.iload 4, 2) := by decide +kernel
theorem dX3_mostAtOnce_9 : decode cX3_mostAtOnce 9 = .ok (.aload_n 0, 1) := by decide +kernel
theorem dX3_mostAtOnce_10 : decode cX3_mostAtOnce 10 = .ok (.getfield 9, 3) := by decide +kernel
theorem dX3_mostAtOnce_13 : decode cX3_mostAtOnce 13 = .ok (.iload_n 1, 1) := by decide +kernel
theorem dX3_mostAtOnce_14 : decode cX3_mostAtOnce 14 = .ok (.iaload, 1) := by decide +kernel
theorem dX3_mostAtOnce_15 : decode cX3_mostAtOnce 15 = .ok (.if_icmp .ge 59, 3) := by decide +kernel
theorem dX3_mostAtOnce_18 : decode cX3_mostAtOnce 18 = .ok (.iload 4, 2) := by decide +kernel
theorem dX3_mostAtOnce_20 : decode cX3_mostAtOnce 20 = .ok (.ifCond .eq 22, 3) := by decide +kernel
theorem dX3_mostAtOnce_23 : decode cX3_mostAtOnce 23 = .ok (.aload_n 0, 1) := by decide +kernel
theorem dX3_mostAtOnce_24 : decode cX3_mostAtOnce 24 = .ok (.iload_n 1, 1) := by decide +kernel
theorem dX3_mostAtOnce_25 : decode cX3_mostAtOnce 25 = .ok (.iload 4, 2) := by decide +kernel
theorem dX3_mostAtOnce_27 : decode cX3_mostAtOnce 27 = .ok (.invokevirtual 30, 3) := by decide +kernel
theorem dX3_mostAtOnce_30 : decode cX3_mostAtOnce 30 = .ok (.aload_n 0, 1) := by decide +kernel
theorem dX3_mostAtOnce_31 : decode cX3_mostAtOnce 31 = .ok (.iload_n 1, 1) := by decide +kernel
theorem dX3_mostAtOnce_32 : decode cX3_mostAtOnce 32 = .ok (.iload 4, 2) := by decide +kernel
theorem dX3_mostAtOnce_34 : decode cX3_mostAtOnce 34 = .ok (.iconst 1, 1) := by decide +kernel
theorem dX3_mostAtOnce_35 : decode cX3_mostAtOnce 35 = .ok (.isub, 1) := by decide +kernel
theorem dX3_mostAtOnce_36 : decode cX3_mostAtOnce 36 = .ok (.invokevirtual 30, 3) := by decide +kernel
theorem dX3_mostAtOnce_39 : decode cX3_mostAtOnce 39 = .ok (.if_icmp .eq 7, 3) := by decide +kernel
theorem dX3_mostAtOnce_42 : decode cX3_mostAtOnce 42 = .ok (.iconst 1, 1) := by decide +kernel
theorem dX3_mostAtOnce_43 : decode cX3_mostAtOnce 43 = .ok (.goto 4, 3) := by decide +kernel
theorem dX3_mostAtOnce_46 : decode cX3_mostAtOnce 46 = .ok (.iconst 0, 1) := by decide +kernel
theorem dX3_mostAtOnce_47 : decode cX3_mostAtOnce 47 = .ok (.istore 5, 2) := by decide +kernel
theorem dX3_mostAtOnce_49 : decode cX3_mostAtOnce 49 = .ok (.iload 5, 2) := by decide +kernel
theorem dX3_mostAtOnce_51 : decode cX3_mostAtOnce 51 = .ok (.ifCond .eq 7, 3) := by decide +kernel
theorem dX3_mostAtOnce_54 : decode cX3_mostAtOnce 54 = .ok (.iconst 1, 1) := by decide +kernel
theorem dX3_mostAtOnce_55 : decode cX3_mostAtOnce 55 = .ok (.goto 6, 3) := by decide +kernel
theorem dX3_mostAtOnce_58 : decode cX3_mostAtOnce 58 = .ok (.iload_n 3, 1) := by decide +kernel
theorem dX3_mostAtOnce_59 : decode cX3_mostAtOnce 59 = .ok (.iconst 1, 1) := by decide +kernel
theorem dX3_mostAtOnce_60 : decode cX3_mostAtOnce 60 = .ok (.iadd, 1) := by decide +kernel
theorem dX3_mostAtOnce_61 : decode cX3_mostAtOnce 61 = .ok (.istore_n 3, 1) := by decide +kernel
theorem dX3_mostAtOnce_62 : decode cX3_mostAtOnce 62 = .ok (.iload_n 2, 1) := by decide +kernel
theorem dX3_mostAtOnce_63 : decode cX3_mostAtOnce 63 = .ok (.iload_n 3, 1) := by decide +kernel
theorem dX3_mostAtOnce_64 : decode cX3_mostAtOnce 64 = .ok (.invokestatic 25, 3) := by decide +kernel
theorem dX3_mostAtOnce_67 : decode cX3_mostAtOnce 67 = .ok (.istore_n 2, 1) := by decide +kernel
theorem dX3_mostAtOnce_68 : decode cX3_mostAtOnce 68 = .ok (.iinc 4 1, 3) := by decide +kernel
theorem dX3_mostAtOnce_71 : decode cX3_mostAtOnce 71 = .ok (.goto (-64), 3) := by decide +kernel
theorem dX3_mostAtOnce_74 : decode cX3_mostAtOnce 74 = .ok (.iload_n 2, 1) := by decide +kernel
theorem dX3_mostAtOnce_75 : decode cX3_mostAtOnce 75 = .ok (.ireturn, 1) := by decide +kernel
set_option maxRecDepth 20000 in
theorem ggX3_shared_X3_pitchOf : GoodIn wsX3_shared wsX3_pitchOf := goodIn_r _ [6, 7, 20, 21, 22] (by decide +kernel) (by decide +kernel)
set_option maxRecDepth 20000 in
theorem gX3_shared_X3_pitchOf : GoodIn wsX3_shared (wsV RX3 22 RX3 yX3_pitchOf wsX3_pitchOf) := goodIn_app (goodIn_of _ (by decide +kernel)) ggX3_shared_X3_pitchOf
set_option maxRecDepth 20000 in
theorem ggX3_shared_X3_timeOf : GoodIn wsX3_shared wsX3_timeOf := goodIn_r _ [11, 7, 20, 21, 22] (by decide +kernel) (by decide +kernel)
set_option maxRecDepth 20000 in
theorem gX3_shared_X3_timeOf : GoodIn wsX3_shared (wsV RX3 30 RX3 yX3_timeOf wsX3_timeOf) := goodIn_app (goodIn_of _ (by decide +kernel)) ggX3_shared_X3_timeOf
set_option maxRecDepth 20000 in
theorem ggX3_shared_X3_holds : GoodIn wsX3_shared wsX3_holds := goodIn_r _ [15, 1, 7, 16, 17, 18, 5, 19, 20, 21, 22] (by decide +kernel) (by decide +kernel)
set_option maxRecDepth 20000 in
theorem gX3_shared_X3_holds : GoodIn wsX3_shared (wsV RX3 33 RX3 yX3_holds wsX3_holds) := goodIn_app (goodIn_of _ (by decide +kernel)) ggX3_shared_X3_holds
theorem dX3_shared_0 : decode cX3_shared 0 = .ok (.iconst 0, 1) := by decide +kernel
theorem dX3_shared_1 : decode cX3_shared 1 = .ok (.istore 4, 2) := by decide +kernel
theorem dX3_shared_3 : decode cX3_shared 3 = .ok (.iconst 0, 1) := by decide +kernel
theorem dX3_shared_4 : decode cX3_shared 4 = .ok (.istore 5, 2) := by decide +kernel
theorem dX3_shared_6 : decode cX3_shared 6 = .ok (.iload 5, 2) := by decide +kernel
theorem dX3_shared_8 : decode cX3_shared 8 = .ok (.aload_n 0, 1) := by decide +kernel
theorem dX3_shared_9 : decode cX3_shared 9 = .ok (.getfield 9, 3) := by decide +kernel
theorem dX3_shared_12 : decode cX3_shared 12 = .ok (.iload_n 1, 1) := by decide +kernel
theorem dX3_shared_13 : decode cX3_shared 13 = .ok (.iaload, 1) := by decide +kernel
theorem dX3_shared_14 : decode cX3_shared 14 = .ok (.if_icmp .ge 52, 3) := by decide +kernel
theorem dX3_shared_17 : decode cX3_shared 17 = .ok (.aload_n 0, 1) := by decide +kernel
theorem dX3_shared_18 : decode cX3_shared 18 = .ok (.iload_n 1, 1) := by decide +kernel
theorem dX3_shared_19 : decode cX3_shared 19 = .ok (.iload 5, 2) := by decide +kernel
theorem dX3_shared_21 : decode cX3_shared 21 = .ok (.invokevirtual 22, 3) := by decide +kernel
theorem dX3_shared_24 : decode cX3_shared 24 = .ok (.iload_n 3, 1) := by decide +kernel
theorem dX3_shared_25 : decode cX3_shared 25 = .ok (.isub, 1) := by decide +kernel
theorem dX3_shared_26 : decode cX3_shared 26 = .ok (.istore 6, 2) := by decide +kernel
theorem dX3_shared_28 : decode cX3_shared 28 = .ok (.iload 6, 2) := by decide +kernel
theorem dX3_shared_30 : decode cX3_shared 30 = .ok (.ifCond .lt 30, 3) := by decide +kernel
theorem dX3_shared_33 : decode cX3_shared 33 = .ok (.iload 6, 2) := by decide +kernel
theorem dX3_shared_35 : decode cX3_shared 35 = .ok (.bipush 48, 2) := by decide +kernel
theorem dX3_shared_37 : decode cX3_shared 37 = .ok (.if_icmp .ge 23, 3) := by decide +kernel
theorem dX3_shared_40 : decode cX3_shared 40 = .ok (.aload_n 0, 1) := by decide +kernel
theorem dX3_shared_41 : decode cX3_shared 41 = .ok (.iload_n 2, 1) := by decide +kernel
theorem dX3_shared_42 : decode cX3_shared 42 = .ok (.aload_n 0, 1) := by decide +kernel
theorem dX3_shared_43 : decode cX3_shared 43 = .ok (.iload_n 1, 1) := by decide +kernel
theorem dX3_shared_44 : decode cX3_shared 44 = .ok (.iload 5, 2) := by decide +kernel
theorem dX3_shared_46 : decode cX3_shared 46 = .ok (.invokevirtual 30, 3) := by decide +kernel
theorem dX3_shared_49 : decode cX3_shared 49 = .ok (.iload 6, 2) := by decide +kernel
theorem dX3_shared_51 : decode cX3_shared 51 = .ok (.invokevirtual 33, 3) := by decide +kernel
theorem dX3_shared_54 : decode cX3_shared 54 = .ok (.ifCond .eq 6, 3) := by decide +kernel
theorem dX3_shared_57 : decode cX3_shared 57 = .ok (.iinc 4 1, 3) := by decide +kernel
theorem dX3_shared_60 : decode cX3_shared 60 = .ok (.iinc 5 1, 3) := by decide +kernel
theorem dX3_shared_63 : decode cX3_shared 63 = .ok (.goto (-57), 3) := by decide +kernel
theorem dX3_shared_66 : decode cX3_shared 66 = .ok (.iload 4, 2) := by decide +kernel
theorem dX3_shared_68 : decode cX3_shared 68 = .ok (.ireturn, 1) := by decide +kernel
set_option maxRecDepth 20000 in
theorem ggX4_init_X1_init : GoodIn wsX4_init wsX1_init := goodIn_r _ [19, 20, 2, 3, 21, 22, 23, 24, 25, 26, 27, 42, 43, 44, 45, 46, 47] (by decide +kernel) (by decide +kernel)
set_option maxRecDepth 20000 in
theorem gX4_init_X1_init : GoodIn wsX4_init (wsX1_init) := ggX4_init_X1_init
set_option maxRecDepth 20000 in
theorem ggX4_init_X0_init : GoodIn wsX4_init wsX0_init := goodIn_r _ [30, 31, 2, 3, 32, 33, 21, 34, 59, 60] (by decide +kernel) (by decide +kernel)
set_option maxRecDepth 20000 in
theorem gX4_init_X0_init : GoodIn wsX4_init (wsX0_init) := ggX4_init_X0_init
set_option maxRecDepth 20000 in
theorem ggX4_init_X2_init : GoodIn wsX4_init wsX2_init := goodIn_r _ [37, 38, 2, 3, 21, 39, 40, 41, 61, 62, 63, 64, 65] (by decide +kernel) (by decide +kernel)
set_option maxRecDepth 20000 in
theorem gX4_init_X2_init : GoodIn wsX4_init (wsX2_init) := ggX4_init_X2_init
theorem dX4_init_0 : decode cX4_init 0 = .ok (.aload_n 0, 1) := by decide +kernel
