theorem dX5_likeness_0 : decode cX5_likeness 0 = .ok (.aload_n 0, 1) := by decide +kernel
theorem dX5_likeness_1 : decode cX5_likeness 1 = .ok (.iload_n 1, 1) := by decide +kernel
theorem dX5_likeness_2 : decode cX5_likeness 2 = .ok (.invokevirtual 72, 3) := by decide +kernel
theorem dX5_likeness_5 : decode cX5_likeness 5 = .ok (.aload_n 0, 1) := by decide +kernel
theorem dX5_likeness_6 : decode cX5_likeness 6 = .ok (.iload_n 2, 1) := by decide +kernel
theorem dX5_likeness_7 : decode cX5_likeness 7 = .ok (.invokevirtual 72, 3) := by decide +kernel
theorem dX5_likeness_10 : decode cX5_likeness 10 = .ok (.iload_n 3, 1) := by decide +kernel
theorem dX5_likeness_11 : decode cX5_likeness 11 = .ok (.invokestatic 99, 3) := by decide +kernel
theorem dX5_likeness_14 : decode cX5_likeness 14 = .ok (.aload_n 0, 1) := by decide +kernel
theorem dX5_likeness_15 : decode cX5_likeness 15 = .ok (.getfield 10, 3) := by decide +kernel
theorem dX5_likeness_18 : decode cX5_likeness 18 = .ok (.getfield 84, 3) := by decide +kernel
theorem dX5_likeness_21 : decode cX5_likeness 21 = .ok (.iload_n 1, 1) := by decide +kernel
theorem dX5_likeness_22 : decode cX5_likeness 22 = .ok (.iaload, 1) := by decide +kernel
theorem dX5_likeness_23 : decode cX5_likeness 23 = .ok (.aload_n 0, 1) := by decide +kernel
theorem dX5_likeness_24 : decode cX5_likeness 24 = .ok (.getfield 10, 3) := by decide +kernel
theorem dX5_likeness_27 : decode cX5_likeness 27 = .ok (.getfield 84, 3) := by decide +kernel
theorem dX5_likeness_30 : decode cX5_likeness 30 = .ok (.iload_n 2, 1) := by decide +kernel
theorem dX5_likeness_31 : decode cX5_likeness 31 = .ok (.iaload, 1) := by decide +kernel
theorem dX5_likeness_32 : decode cX5_likeness 32 = .ok (.invokestatic 212, 3) := by decide +kernel
theorem dX5_likeness_35 : decode cX5_likeness 35 = .ok (.istore 4, 2) := by decide +kernel
theorem dX5_likeness_37 : decode cX5_likeness 37 = .ok (.iload 4, 2) := by decide +kernel
theorem dX5_likeness_39 : decode cX5_likeness 39 = .ok (.ifCond .ne 5, 3) := by decide +kernel
theorem dX5_likeness_42 : decode cX5_likeness 42 = .ok (.dconst 0, 1) := by decide +kernel
theorem dX5_likeness_43 : decode cX5_likeness 43 = .ok (.dreturn, 1) := by decide +kernel
theorem dX5_likeness_44 : decode cX5_likeness 44 = .ok (.aload_n 0, 1) := by decide +kernel
theorem dX5_likeness_45 : decode cX5_likeness 45 = .ok (.getfield 10, 3) := by decide +kernel
theorem dX5_likeness_48 : decode cX5_likeness 48 = .ok (.iload_n 1, 1) := by decide +kernel
theorem dX5_likeness_49 : decode cX5_likeness 49 = .ok (.iload_n 2, 1) := by decide +kernel
theorem dX5_likeness_50 : decode cX5_likeness 50 = .ok (.iload_n 3, 1) := by decide +kernel
theorem dX5_likeness_51 : decode cX5_likeness 51 = .ok (.invokevirtual 215, 3) := by decide +kernel
theorem dX5_likeness_54 : decode cX5_likeness 54 = .ok (.i2d, 1) := by decide +kernel
theorem dX5_likeness_55 : decode cX5_likeness 55 = .ok (.iload 4, 2) := by decide +kernel
theorem dX5_likeness_57 : decode cX5_likeness 57 = .ok (.i2d, 1) := by decide +kernel
theorem dX5_likeness_58 : decode cX5_likeness 58 = .ok (.ddiv, 1) := by decide +kernel
theorem dX5_likeness_59 : decode cX5_likeness 59 = .ok (.dreturn, 1) := by decide +kernel
set_option maxRecDepth 20000 in
theorem ggX5_heard_X5_needSound : GoodIn wsX5_heard wsX5_needSound := goodIn_ca (goodIn_r _ [6, 7, 8, 1, 9, 21, 22, 23, 24, 25, 26, 27, 28, 29, 30, 31, 32] (by decide +kernel) (by decide +kernel)) (goodIn_sub (fun _ h => List.mem_cons_of_mem _ (List.mem_append_right _ h)) (by decide +kernel))
set_option maxRecDepth 20000 in
theorem gX5_heard_X5_needSound : GoodIn wsX5_heard (wsV RX5 218 RX5 yX5_needSound wsX5_needSound) := goodIn_app (goodIn_of _ (by decide +kernel)) ggX5_heard_X5_needSound
set_option maxRecDepth 20000 in
theorem ggX5_heard_X2_pitchOf : GoodIn wsX5_heard wsX2_pitchOf := goodIn_r _ [14, 15, 16, 17, 18, 13, 19, 20, 28, 29, 30, 31, 32] (by decide +kernel) (by decide +kernel)
set_option maxRecDepth 20000 in
theorem gX5_heard_X2_pitchOf : GoodIn wsX5_heard (wsV RX5 221 RX2 yX2_pitchOf wsX2_pitchOf) := goodIn_app (goodIn_of _ (by decide +kernel)) ggX5_heard_X2_pitchOf
theorem dX5_heard_0 : decode cX5_heard 0 = .ok (.aload_n 0, 1) := by decide +kernel
theorem dX5_heard_1 : decode cX5_heard 1 = .ok (.iload_n 1, 1) := by decide +kernel
theorem dX5_heard_2 : decode cX5_heard 2 = .ok (.invokevirtual 218, 3) := by decide +kernel
theorem dX5_heard_5 : decode cX5_heard 5 = .ok (.aload_n 0, 1) := by decide +kernel
theorem dX5_heard_6 : decode cX5_heard 6 = .ok (.getfield 37, 3) := by decide +kernel
theorem dX5_heard_9 : decode cX5_heard 9 = .ok (.iload_n 1, 1) := by decide +kernel
theorem dX5_heard_10 : decode cX5_heard 10 = .ok (.invokevirtual 221, 3) := by decide +kernel
theorem dX5_heard_13 : decode cX5_heard 13 = .ok (.ireturn, 1) := by decide +kernel
set_option maxRecDepth 20000 in
theorem ggX5_when_X5_needSound : GoodIn wsX5_when wsX5_needSound := goodIn_ca (goodIn_r _ [7, 8, 9, 2, 10, 26, 27, 28, 29, 30, 31, 32, 33, 34, 35, 36, 37] (by decide +kernel) (by decide +kernel)) (goodIn_sub (fun _ h => List.mem_cons_of_mem _ (List.mem_append_right _ h)) (by decide +kernel))
set_option maxRecDepth 20000 in
theorem gX5_when_X5_needSound : GoodIn wsX5_when (wsV RX5 218 RX5 yX5_needSound wsX5_needSound) := goodIn_app (goodIn_of _ (by decide +kernel)) ggX5_when_X5_needSound
set_option maxRecDepth 20000 in
theorem ggX5_when_X2_clockOf : GoodIn wsX5_when wsX2_clockOf := goodIn_r _ [15, 16, 17, 18, 19, 14, 20, 21, 33, 34, 35, 36, 37] (by decide +kernel) (by decide +kernel)
set_option maxRecDepth 20000 in
theorem gX5_when_X2_clockOf : GoodIn wsX5_when (wsV RX5 226 RX2 yX2_clockOf wsX2_clockOf) := goodIn_app (goodIn_of _ (by decide +kernel)) ggX5_when_X2_clockOf
set_option maxRecDepth 20000 in
theorem ggX5_when_X5_nearestWhole : GoodIn wsX5_when wsX5_nearestWhole := goodIn_r _ [24, 25] (by decide +kernel) (by decide +kernel)
set_option maxRecDepth 20000 in
theorem gX5_when_X5_nearestWhole : GoodIn wsX5_when (va_wsS RX5 230 yX5_nearestWhole wsX5_nearestWhole) := goodIn_app (goodIn_of _ (by decide +kernel)) ggX5_when_X5_nearestWhole
theorem dX5_when_0 : decode cX5_when 0 = .ok (.aload_n 0, 1) := by decide +kernel
theorem dX5_when_1 : decode cX5_when 1 = .ok (.iload_n 1, 1) := by decide +kernel
theorem dX5_when_2 : decode cX5_when 2 = .ok (.invokevirtual 218, 3) := by decide +kernel
theorem dX5_when_5 : decode cX5_when 5 = .ok (.ldc2_w 224, 3) := by decide +kernel
theorem dX5_when_8 : decode cX5_when 8 = .ok (.aload_n 0, 1) := by decide +kernel
theorem dX5_when_9 : decode cX5_when 9 = .ok (.getfield 37, 3) := by decide +kernel
theorem dX5_when_12 : decode cX5_when 12 = .ok (.iload_n 1, 1) := by decide +kernel
theorem dX5_when_13 : decode cX5_when 13 = .ok (.invokevirtual 226, 3) := by decide +kernel
theorem dX5_when_16 : decode cX5_when 16 = .ok (.dmul, 1) := by decide +kernel
theorem dX5_when_17 : decode cX5_when 17 = .ok (.invokestatic 230, 3) := by decide +kernel
theorem dX5_when_20 : decode cX5_when 20 = .ok (.l2d, 1) := by decide +kernel
theorem dX5_when_21 : decode cX5_when 21 = .ok (.ldc2_w 224, 3) := by decide +kernel
theorem dX5_when_24 : decode cX5_when 24 = .ok (.ddiv, 1) := by decide +kernel
theorem dX5_when_25 : decode cX5_when 25 = .ok (.dreturn, 1) := by decide +kernel
set_option maxRecDepth 20000 in
theorem ggX5_speed_X4_speedNow : GoodIn wsX5_speed wsX4_speedNow := goodIn_r _ [6, 7, 8, 9, 10, 18, 19, 20, 21, 22, 23, 24, 25, 26, 27, 28] (by decide +kernel) (by decide +kernel)
set_option maxRecDepth 20000 in
theorem gX5_speed_X4_speedNow : GoodIn wsX5_speed (wsV RX5 234 RX4 yX4_speedNow wsX4_speedNow) := goodIn_app (goodIn_of _ (by decide +kernel)) ggX5_speed_X4_speedNow
theorem dX5_speed_0 : decode cX5_speed 0 = .ok (.aload_n 0, 1) := by decide +kernel
theorem dX5_speed_1 : decode cX5_speed 1 = .ok (.getfield 19, 3) := by decide +kernel
theorem dX5_speed_4 : decode cX5_speed 4 = .ok (.invokevirtual 234, 3) := by decide +kernel
theorem dX5_speed_7 : decode cX5_speed 7 = .ok (.f2d, 1) := by decide +kernel
theorem dX5_speed_8 : decode cX5_speed 8 = .ok (.dreturn, 1) := by decide +kernel
set_option maxRecDepth 20000 in
theorem ggX5_many_X5_needQuestion : GoodIn wsX5_many wsX5_needQuestion := goodIn_ca (goodIn_r _ [21, 22, 23] (by decide +kernel) (by decide +kernel)) (goodIn_sub (fun _ h => List.mem_cons_of_mem _ (List.mem_append_right _ h)) (by decide +kernel))
set_option maxRecDepth 20000 in
theorem gX5_many_X5_needQuestion : GoodIn wsX5_many (va_wsS RX5 155 yX5_needQuestion wsX5_needQuestion) := goodIn_app (goodIn_of _ (by decide +kernel)) ggX5_many_X5_needQuestion
set_option maxRecDepth 20000 in
theorem ggX5_many_X1_brokenTeeth : GoodIn wsX5_many wsX1_brokenTeeth := goodIn_r _ [28, 29, 30, 63, 64, 65, 66, 67, 68] (by decide +kernel) (by decide +kernel)
set_option maxRecDepth 20000 in
theorem gX5_many_X1_brokenTeeth : GoodIn wsX5_many (wsV RX5 238 RX1 yX1_brokenTeeth wsX1_brokenTeeth) := goodIn_app (goodIn_of _ (by decide +kernel)) ggX5_many_X1_brokenTeeth
set_option maxRecDepth 20000 in
theorem ggX5_many_X5_allPins : GoodIn wsX5_many wsX5_allPins := goodIn_r _ [34, 1, 2, 35, 36, 37, 38, 39, 40, 41, 42, 43, 44, 45, 46, 47, 48, 49, 50, 51, 52, 53, 54, 55, 56, 57, 58, 59, 60, 61, 62, 63, 64, 65, 66, 67, 68, 88, 89] (by decide +kernel) (by decide +kernel)
set_option maxRecDepth 20000 in
theorem gX5_many_X5_allPins : GoodIn wsX5_many (wsV RX5 242 RX5 yX5_allPins wsX5_allPins) := goodIn_app (goodIn_of _ (by decide +kernel)) ggX5_many_X5_allPins
theorem dX5_many_0 : decode cX5_many 0 = .ok (.iload_n 1, 1) := by decide +kernel
theorem dX5_many_1 : decode cX5_many 1 = .ok (.bipush 15, 2) := by decide +kernel
theorem dX5_many_3 : decode cX5_many 3 = .ok (.invokestatic 155, 3) := by decide +kernel
theorem dX5_many_6 : decode cX5_many 6 = .ok (.iload_n 1, 1) := by decide +kernel
theorem dX5_many_7 : decode cX5_many 7 = .ok (.tableswitch 175 0 13 #[69, 77, 85, 93, 98, 106, 114, 122, 130, 138, 146, 154, 162, 170], 69) := by decide +kernel
theorem dX5_many_76 : decode cX5_many 76 = .ok (.aload_n 0, 1) := by decide +kernel
theorem dX5_many_77 : decode cX5_many 77 = .ok (.getfield 27, 3) := by decide +kernel
theorem dX5_many_80 : decode cX5_many 80 = .ok (.getfield 45, 3) := by decide +kernel
theorem dX5_many_83 : decode cX5_many 83 = .ok (.ireturn, 1) := by decide +kernel
theorem dX5_many_84 : decode cX5_many 84 = .ok (.aload_n 0, 1) := by decide +kernel
theorem dX5_many_85 : decode cX5_many 85 = .ok (.getfield 27, 3) := by decide +kernel
theorem dX5_many_88 : decode cX5_many 88 = .ok (.invokevirtual 238, 3) := by decide +kernel
theorem dX5_many_91 : decode cX5_many 91 = .ok (.ireturn, 1) := by decide +kernel
theorem dX5_many_92 : decode cX5_many 92 = .ok (.aload_n 0, 1) := by decide +kernel
theorem dX5_many_93 : decode cX5_many 93 = .ok (.getfield 10, 3) := by decide +kernel
theorem dX5_many_96 : decode cX5_many 96 = .ok (.getfield 69, 3) := by decide +kernel
theorem dX5_many_99 : decode cX5_many 99 = .ok (.ireturn, 1) := by decide +kernel
theorem dX5_many_100 : decode cX5_many 100 = .ok (.aload_n 0, 1) := by decide +kernel
theorem dX5_many_101 : decode cX5_many 101 = .ok (.invokevirtual 242, 3) := by decide +kernel
theorem dX5_many_104 : decode cX5_many 104 = .ok (.ireturn, 1) := by decide +kernel
theorem dX5_many_105 : decode cX5_many 105 = .ok (.aload_n 0, 1) := by decide +kernel
theorem dX5_many_106 : decode cX5_many 106 = .ok (.getfield 19, 3) := by decide +kernel
theorem dX5_many_109 : decode cX5_many 109 = .ok (.getfield 245, 3) := by decide +kernel
theorem dX5_many_112 : decode cX5_many 112 = .ok (.ireturn, 1) := by decide +kernel
theorem dX5_many_113 : decode cX5_many 113 = .ok (.aload_n 0, 1) := by decide +kernel
theorem dX5_many_114 : decode cX5_many 114 = .ok (.getfield 19, 3) := by decide +kernel
theorem dX5_many_117 : decode cX5_many 117 = .ok (.getfield 112, 3) := by decide +kernel
theorem dX5_many_120 : decode cX5_many 120 = .ok (.ireturn, 1) := by decide +kernel
theorem dX5_many_121 : decode cX5_many 121 = .ok (.aload_n 0, 1) := by decide +kernel
theorem dX5_many_122 : decode cX5_many 122 = .ok (.getfield 19, 3) := by decide +kernel
theorem dX5_many_125 : decode cX5_many 125 = .ok (.getfield 117, 3) := by decide +kernel
theorem dX5_many_128 : decode cX5_many 128 = .ok (.ireturn, 1) := by decide +kernel
theorem dX5_many_129 : decode cX5_many 129 = .ok (.aload_n 0, 1) := by decide +kernel
theorem dX5_many_130 : decode cX5_many 130 = .ok (.getfield 19, 3) := by decide +kernel
theorem dX5_many_133 : decode cX5_many 133 = .ok (.getfield 131, 3) := by decide +kernel
theorem dX5_many_136 : decode cX5_many 136 = .ok (.ireturn, 1) := by decide +kernel
theorem dX5_many_137 : decode cX5_many 137 = .ok (.aload_n 0, 1) := by decide +kernel
theorem dX5_many_138 : decode cX5_many 138 = .ok (.getfield 19, 3) := by decide +kernel
theorem dX5_many_141 : decode cX5_many 141 = .ok (.getfield 248, 3) := by decide +kernel
theorem dX5_many_144 : decode cX5_many 144 = .ok (.ireturn, 1) := by decide +kernel
theorem dX5_many_145 : decode cX5_many 145 = .ok (.aload_n 0, 1) := by decide +kernel
theorem dX5_many_146 : decode cX5_many 146 = .ok (.getfield 37, 3) := by decide +kernel
theorem dX5_many_149 : decode cX5_many 149 = .ok (.getfield 141, 3) := by decide +kernel
theorem dX5_many_152 : decode cX5_many 152 = .ok (.ireturn, 1) := by decide +kernel
theorem dX5_many_153 : decode cX5_many 153 = .ok (.aload_n 0, 1) := by decide +kernel
theorem dX5_many_154 : decode cX5_many 154 = .ok (.getfield 37, 3) := by decide +kernel
theorem dX5_many_157 : decode cX5_many 157 = .ok (.getfield 251, 3) := by decide +kernel
theorem dX5_many_160 : decode cX5_many 160 = .ok (.ireturn, 1) := by decide +kernel
theorem dX5_many_161 : decode cX5_many 161 = .ok (.aload_n 0, 1) := by decide +kernel
theorem dX5_many_162 : decode cX5_many 162 = .ok (.getfield 19, 3) := by decide +kernel
theorem dX5_many_165 : decode cX5_many 165 = .ok (.getfield 254, 3) := by decide +kernel
theorem dX5_many_168 : decode cX5_many 168 = .ok (.ireturn, 1) := by decide +kernel
theorem dX5_many_169 : decode cX5_many 169 = .ok (.aload_n 0, 1) := by decide +kernel
theorem dX5_many_170 : decode cX5_many 170 = .ok (.getfield 19, 3) := by decide +kernel
theorem dX5_many_173 : decode cX5_many 173 = .ok (.getfield 257, 3) := by decide +kernel
theorem dX5_many_176 : decode cX5_many 176 = .ok (.ireturn, 1) := by decide +kernel
theorem dX5_many_177 : decode cX5_many 177 = .ok (.aload_n 0, 1) := by decide +kernel
theorem dX5_many_178 : decode cX5_many 178 = .ok (.getfield 120, 3) := by decide +kernel
theorem dX5_many_181 : decode cX5_many 181 = .ok (.ireturn, 1) := by decide +kernel
theorem dX5_many_182 : decode cX5_many 182 = .ok (.aload_n 0, 1) := by decide +kernel
theorem dX5_many_183 : decode cX5_many 183 = .ok (.getfield 19, 3) := by decide +kernel
theorem dX5_many_186 : decode cX5_many 186 = .ok (.getfield 260, 3) := by decide +kernel
theorem dX5_many_189 : decode cX5_many 189 = .ok (.d2i, 1) := by decide +kernel
theorem dX5_many_190 : decode cX5_many 190 = .ok (.ireturn, 1) := by decide +kernel
set_option maxRecDepth 20000 in
theorem ggX5_bestKey_X5_needTune : GoodIn wsX5_bestKey wsX5_needTune := goodIn_ca (goodIn_r _ [5, 6, 7, 8, 9, 75, 76, 77, 78, 79, 80, 81, 82, 83, 84] (by decide +kernel) (by decide +kernel)) (goodIn_sub (fun _ h => List.mem_cons_of_mem _ (List.mem_append_right _ h)) (by decide +kernel))
set_option maxRecDepth 20000 in
theorem gX5_bestKey_X5_needTune : GoodIn wsX5_bestKey (wsV RX5 72 RX5 yX5_needTune wsX5_needTune) := goodIn_app (goodIn_of _ (by decide +kernel)) ggX5_bestKey_X5_needTune
set_option maxRecDepth 20000 in
theorem ggX5_bestKey_X5_needLine : GoodIn wsX5_bestKey wsX5_needLine := goodIn_ca (goodIn_r _ [12, 6, 7] (by decide +kernel) (by decide +kernel)) (goodIn_sub (fun _ h => List.mem_cons_of_mem _ (List.mem_append_right _ h)) (by decide +kernel))
set_option maxRecDepth 20000 in
theorem gX5_bestKey_X5_needLine : GoodIn wsX5_bestKey (va_wsS RX5 96 yX5_needLine wsX5_needLine) := goodIn_app (goodIn_of _ (by decide +kernel)) ggX5_bestKey_X5_needLine
set_option maxRecDepth 20000 in
theorem ggX5_bestKey_X5_wouldLose : GoodIn wsX5_bestKey wsX5_wouldLose := goodIn_r _ [16, 17, 18, 19, 20, 21, 22, 23, 24, 25, 26, 27, 28, 29, 30, 31, 32, 33, 34, 35, 4, 36, 8, 37, 38, 39, 40, 41, 42, 43, 44, 45, 46, 47, 48, 49, 50, 51, 52, 53, 54, 55, 56, 57, 58, 59, 60, 61, 62, 63, 64, 65, 66, 67, 68, 69, 70, 71, 72, 73, 74, 75, 76, 77, 78, 79, 80, 81, 85, 86, 87, 88, 89, 90, 91, 92, 93, 94, 95, 96, 97, 82, 83, 84, 98, 99, 100, 101, 102, 103] (by decide +kernel) (by decide +kernel)
set_option maxRecDepth 20000 in
theorem gX5_bestKey_X5_wouldLose : GoodIn wsX5_bestKey (wsV RX5 264 RX5 yX5_wouldLose wsX5_wouldLose) := goodIn_app (goodIn_of _ (by decide +kernel)) ggX5_bestKey_X5_wouldLose
theorem dX5_bestKey_0 : decode cX5_bestKey 0 = .ok (.aload_n 0, 1) := by decide +kernel
theorem dX5_bestKey_1 : decode cX5_bestKey 1 = .ok (.iload_n 1, 1) := by decide +kernel
theorem dX5_bestKey_2 : decode cX5_bestKey 2 = .ok (.invokevirtual 72, 3) := by decide +kernel
theorem dX5_bestKey_5 : decode cX5_bestKey 5 = .ok (.iload_n 2, 1) := by decide +kernel
theorem dX5_bestKey_6 : decode cX5_bestKey 6 = .ok (.invokestatic 96, 3) := by decide +kernel
theorem dX5_bestKey_9 : decode cX5_bestKey 9 = .ok (.iconst 0, 1) := by decide +kernel
theorem dX5_bestKey_10 : decode cX5_bestKey 10 = .ok (.istore_n 3, 1) := by decide +kernel
theorem dX5_bestKey_11 : decode cX5_bestKey 11 = .ok (.aload_n 0, 1) := by decide +kernel
theorem dX5_bestKey_12 : decode cX5_bestKey 12 = .ok (.iload_n 1, 1) := by decide +kernel
theorem dX5_bestKey_13 : decode cX5_bestKey 13 = .ok (.iload_n 2, 1) := by decide +kernel
theorem dX5_bestKey_14 : decode cX5_bestKey 14 = .ok (.iconst 0, 1) := by decide +kernel
theorem dX5_bestKey_15 : decode cX5_bestKey 15 = .ok (.invokevirtual 264, 3) := by decide +kernel
theorem dX5_bestKey_18 : decode cX5_bestKey 18 = .ok (.istore 4, 2) := by decide +kernel
theorem dX5_bestKey_20 : decode cX5_bestKey 20 = .ok (.iconst 1, 1) := by decide +kernel
theorem dX5_bestKey_21 : decode cX5_bestKey 21 = .ok (.istore 5, 2) := by decide +kernel
theorem dX5_bestKey_23 : decode cX5_bestKey 23 = .ok (.iload 5, 2) := by decide +kernel
theorem dX5_bestKey_25 : decode cX5_bestKey 25 = .ok (.bipush 24, 2) := by decide +kernel
theorem dX5_bestKey_27 : decode cX5_bestKey 27 = .ok (.if_icmp .gt 64, 3) := by decide +kernel
theorem dX5_bestKey_30 : decode cX5_bestKey 30 = .ok (.iload 4, 2) := by decide +kernel
theorem dX5_bestKey_32 : decode cX5_bestKey 32 = .ok (.ifCond .le 59, 3) := by decide +kernel
theorem dX5_bestKey_35 : decode cX5_bestKey 35 = .ok (.aload_n 0, 1) := by decide +kernel
theorem dX5_bestKey_36 : decode cX5_bestKey 36 = .ok (.iload_n 1, 1) := by decide +kernel
theorem dX5_bestKey_37 : decode cX5_bestKey 37 = .ok (.iload_n 2, 1) := by decide +kernel
theorem dX5_bestKey_38 : decode cX5_bestKey 38 = .ok (.iload 5, 2) := by decide +kernel
theorem dX5_bestKey_40 : decode cX5_bestKey 40 = .ok (.invokevirtual 264, 3) := by decide +kernel
theorem dX5_bestKey_43 : decode cX5_bestKey 43 = .ok (.istore 6, 2) := by decide +kernel
theorem dX5_bestKey_45 : decode cX5_bestKey 45 = .ok (.iload 6, 2) := by decide +kernel
theorem dX5_bestKey_47 : decode cX5_bestKey 47 = .ok (.iload 4, 2) := by decide +kernel
theorem dX5_bestKey_49 : decode cX5_bestKey 49 = .ok (.if_icmp .ge 10, 3) := by decide +kernel
theorem dX5_bestKey_52 : decode cX5_bestKey 52 = .ok (.iload 6, 2) := by decide +kernel
theorem dX5_bestKey_54 : decode cX5_bestKey 54 = .ok (.istore 4, 2) := by decide +kernel
theorem dX5_bestKey_56 : decode cX5_bestKey 56 = .ok (.iload 5, 2) := by decide +kernel
theorem dX5_bestKey_58 : decode cX5_bestKey 58 = .ok (.istore_n 3, 1) := by decide +kernel
theorem dX5_bestKey_59 : decode cX5_bestKey 59 = .ok (.aload_n 0, 1) := by decide +kernel
theorem dX5_bestKey_60 : decode cX5_bestKey 60 = .ok (.iload_n 1, 1) := by decide +kernel
theorem dX5_bestKey_61 : decode cX5_bestKey 61 = .ok (.iload_n 2, 1) := by decide +kernel
theorem dX5_bestKey_62 : decode cX5_bestKey 62 = .ok (.iload 5, 2) := by decide +kernel
theorem dX5_bestKey_64 : decode cX5_bestKey 64 = .ok (.ineg, 1) := by decide +kernel
theorem dX5_bestKey_65 : decode cX5_bestKey 65 = .ok (.invokevirtual 264, 3) := by decide +kernel
theorem dX5_bestKey_68 : decode cX5_bestKey 68 = .ok (.istore 7, 2) := by decide +kernel
theorem dX5_bestKey_70 : decode cX5_bestKey 70 = .ok (.iload 7, 2) := by decide +kernel
theorem dX5_bestKey_72 : decode cX5_bestKey 72 = .ok (.iload 4, 2) := by decide +kernel
theorem dX5_bestKey_74 : decode cX5_bestKey 74 = .ok (.if_icmp .ge 11, 3) := by decide +kernel
theorem dX5_bestKey_77 : decode cX5_bestKey 77 = .ok (.iload 7, 2) := by decide +kernel
theorem dX5_bestKey_79 : decode cX5_bestKey 79 = .ok (.istore 4, 2) := by decide +kernel
theorem dX5_bestKey_81 : decode cX5_bestKey 81 = .ok (.iload 5, 2) := by decide +kernel
theorem dX5_bestKey_83 : decode cX5_bestKey 83 = .ok (.ineg, 1) := by decide +kernel
theorem dX5_bestKey_84 : decode cX5_bestKey 84 = .ok (.istore_n 3, 1) := by decide +kernel
theorem dX5_bestKey_85 : decode cX5_bestKey 85 = .ok (.iinc 5 1, 3) := by decide +kernel
theorem dX5_bestKey_88 : decode cX5_bestKey 88 = .ok (.goto (-65), 3) := by decide +kernel
theorem dX5_bestKey_91 : decode cX5_bestKey 91 = .ok (.iload_n 3, 1) := by decide +kernel
theorem dX5_bestKey_92 : decode cX5_bestKey 92 = .ok (.ireturn, 1) := by decide +kernel
set_option maxRecDepth 20000 in
theorem ggX5_lasts_X4_takeOver : GoodIn wsX5_lasts wsX4_takeOver := goodIn_r _ [8, 9, 10, 11, 12, 13, 14, 15, 16, 17, 18, 19, 20, 21, 22, 23, 24, 25, 26, 27, 28, 29, 30, 31, 32, 33, 34, 35, 36, 37, 38, 39, 40, 41, 42, 43, 44, 45, 46, 47, 48, 49, 50, 108, 109, 110, 111, 112, 113, 114, 115, 116, 117, 118, 119, 120, 121, 122, 123, 124, 125, 126] (by decide +kernel) (by decide +kernel)
set_option maxRecDepth 20000 in
theorem gX5_lasts_X4_takeOver : GoodIn wsX5_lasts (wsV RX5 267 RX4 yX4_takeOver wsX4_takeOver) := goodIn_app (goodIn_of _ (by decide +kernel)) ggX5_lasts_X4_takeOver
set_option maxRecDepth 20000 in
theorem ggX5_lasts_X4_step : GoodIn wsX5_lasts wsX4_step := goodIn_r _ [54, 18, 55, 14, 15, 9, 56, 57, 10, 11, 12, 58, 59, 60, 61, 62, 63, 64, 7, 65, 66, 13, 67, 68, 69, 70, 33, 71, 35, 40, 41, 42, 72, 73, 74, 75, 16, 76, 77, 17, 78, 79, 80, 22, 81, 28, 29, 27, 26, 82, 83, 84, 85, 86, 87, 88, 89, 90, 91, 92, 93, 94, 95, 96, 97, 98, 99, 47, 100, 48, 49, 50, 108, 109, 110, 111, 112, 113, 114, 115, 116, 117, 118, 119, 120, 121, 122, 123, 124, 125, 126, 127, 128, 129, 130, 131] (by decide +kernel) (by decide +kernel)
set_option maxRecDepth 20000 in
theorem gX5_lasts_X4_step : GoodIn wsX5_lasts (wsV RX5 271 RX4 yX4_step wsX4_step) := goodIn_app (goodIn_of _ (by decide +kernel)) ggX5_lasts_X4_step
theorem dX5_lasts_0 : decode cX5_lasts 0 = .ok (.aload_n 0, 1) := by decide +kernel
theorem dX5_lasts_1 : decode cX5_lasts 1 = .ok (.getfield 38, 3) := by decide +kernel
theorem dX5_lasts_4 : decode cX5_lasts 4 = .ok (.aload_n 0, 1) := by decide +kernel
theorem dX5_lasts_5 : decode cX5_lasts 5 = .ok (.getfield 19, 3) := by decide +kernel
theorem dX5_lasts_8 : decode cX5_lasts 8 = .ok (.invokevirtual 267, 3) := by decide +kernel
theorem dX5_lasts_11 : decode cX5_lasts 11 = .ok (.iconst 0, 1) := by decide +kernel
theorem dX5_lasts_12 : decode cX5_lasts 12 = .ok (.istore_n 1, 1) := by decide +kernel
theorem dX5_lasts_13 : decode cX5_lasts 13 = .ok (.aload_n 0, 1) := by decide +kernel
theorem dX5_lasts_14 : decode cX5_lasts 14 = .ok (.getfield 38, 3) := by decide +kernel
theorem dX5_lasts_17 : decode cX5_lasts 17 = .ok (.getfield 117, 3) := by decide +kernel
theorem dX5_lasts_20 : decode cX5_lasts 20 = .ok (.ifCond .le 23, 3) := by decide +kernel
theorem dX5_lasts_23 : decode cX5_lasts 23 = .ok (.iload_n 1, 1) := by decide +kernel
theorem dX5_lasts_24 : decode cX5_lasts 24 = .ok (.sipush 2000, 3) := by decide +kernel
theorem dX5_lasts_27 : decode cX5_lasts 27 = .ok (.if_icmp .ge 16, 3) := by decide +kernel
theorem dX5_lasts_30 : decode cX5_lasts 30 = .ok (.aload_n 0, 1) := by decide +kernel
theorem dX5_lasts_31 : decode cX5_lasts 31 = .ok (.getfield 38, 3) := by decide +kernel
theorem dX5_lasts_34 : decode cX5_lasts 34 = .ok (.invokevirtual 271, 3) := by decide +kernel
theorem dX5_lasts_37 : decode cX5_lasts 37 = .ok (.iinc 1 1, 3) := by decide +kernel
theorem dX5_lasts_40 : decode cX5_lasts 40 = .ok (.goto (-27), 3) := by decide +kernel
theorem dX5_lasts_43 : decode cX5_lasts 43 = .ok (.iload_n 1, 1) := by decide +kernel
theorem dX5_lasts_44 : decode cX5_lasts 44 = .ok (.ireturn, 1) := by decide +kernel
set_option maxRecDepth 20000 in
theorem ggX5_wouldBuzz_X5_needSteps : GoodIn wsX5_wouldBuzz wsX5_needSteps := goodIn_ca (goodIn_r _ [7, 8, 9] (by decide +kernel) (by decide +kernel)) (goodIn_sub (fun _ h => List.mem_cons_of_mem _ (List.mem_append_right _ h)) (by decide +kernel))
set_option maxRecDepth 20000 in
theorem gX5_wouldBuzz_X5_needSteps : GoodIn wsX5_wouldBuzz (va_wsS RX5 138 yX5_needSteps wsX5_needSteps) := goodIn_app (goodIn_of _ (by decide +kernel)) ggX5_wouldBuzz_X5_needSteps
set_option maxRecDepth 20000 in
theorem ggX5_wouldBuzz_X4_takeOver : GoodIn wsX5_wouldBuzz wsX4_takeOver := goodIn_r _ [14, 15, 16, 17, 18, 19, 20, 21, 22, 23, 24, 25, 26, 27, 28, 29, 30, 31, 32, 33, 34, 35, 36, 37, 38, 39, 40, 41, 42, 43, 44, 45, 46, 47, 48, 49, 50, 51, 52, 53, 54, 55, 56, 118, 119, 120, 121, 122, 123, 124, 125, 126, 127, 128, 129, 130, 131, 132, 133, 134, 135, 136] (by decide +kernel) (by decide +kernel)
set_option maxRecDepth 20000 in
theorem gX5_wouldBuzz_X4_takeOver : GoodIn wsX5_wouldBuzz (wsV RX5 267 RX4 yX4_takeOver wsX4_takeOver) := goodIn_app (goodIn_of _ (by decide +kernel)) ggX5_wouldBuzz_X4_takeOver
set_option maxRecDepth 20000 in
theorem ggX5_wouldBuzz_X4_run : GoodIn wsX5_wouldBuzz wsX4_run := goodIn_r _ [60, 18, 61, 62, 63, 13, 64, 24, 65, 20, 21, 15, 66, 67, 16, 17, 68, 69, 70, 71, 72, 73, 74, 75, 76, 19, 77, 78, 79, 80, 39, 81, 41, 46, 47, 48, 82, 83, 84, 85, 22, 86, 87, 23, 88, 89, 90, 28, 91, 34, 35, 33, 32, 92, 93, 94, 95, 96, 97, 98, 99, 100, 101, 102, 103, 104, 105, 106, 107, 108, 109, 53, 110, 54, 55, 56, 118, 119, 120, 121, 122, 123, 124, 125, 126, 127, 128, 129, 130, 131, 132, 133, 134, 135, 136, 137, 138, 139, 140, 141] (by decide +kernel) (by decide +kernel)
set_option maxRecDepth 20000 in
theorem gX5_wouldBuzz_X4_run : GoodIn wsX5_wouldBuzz (wsV RX5 146 RX4 yX4_run wsX4_run) := goodIn_app (goodIn_of _ (by decide +kernel)) ggX5_wouldBuzz_X4_run
theorem dX5_wouldBuzz_0 : decode cX5_wouldBuzz 0 = .ok (.iload_n 1, 1) := by decide +kernel
theorem dX5_wouldBuzz_1 : decode cX5_wouldBuzz 1 = .ok (.invokestatic 138, 3) := by decide +kernel
theorem dX5_wouldBuzz_4 : decode cX5_wouldBuzz 4 = .ok (.aload_n 0, 1) := by decide +kernel
theorem dX5_wouldBuzz_5 : decode cX5_wouldBuzz 5 = .ok (.getfield 38, 3) := by decide +kernel
theorem dX5_wouldBuzz_8 : decode cX5_wouldBuzz 8 = .ok (.aload_n 0, 1) := by decide +kernel
theorem dX5_wouldBuzz_9 : decode cX5_wouldBuzz 9 = .ok (.getfield 19, 3) := by decide +kernel
theorem dX5_wouldBuzz_12 : decode cX5_wouldBuzz 12 = .ok (.invokevirtual 267, 3) := by decide +kernel
theorem dX5_wouldBuzz_15 : decode cX5_wouldBuzz 15 = .ok (.aload_n 0, 1) := by decide +kernel
theorem dX5_wouldBuzz_16 : decode cX5_wouldBuzz 16 = .ok (.getfield 38, 3) := by decide +kernel
theorem dX5_wouldBuzz_19 : decode cX5_wouldBuzz 19 = .ok (.iload_n 1, 1) := by decide +kernel
theorem dX5_wouldBuzz_20 : decode cX5_wouldBuzz 20 = .ok (.invokevirtual 146, 3) := by decide +kernel
theorem dX5_wouldBuzz_23 : decode cX5_wouldBuzz 23 = .ok (.aload_n 0, 1) := by decide +kernel
theorem dX5_wouldBuzz_24 : decode cX5_wouldBuzz 24 = .ok (.getfield 38, 3) := by decide +kernel
theorem dX5_wouldBuzz_27 : decode cX5_wouldBuzz 27 = .ok (.getfield 254, 3) := by decide +kernel
theorem dX5_wouldBuzz_30 : decode cX5_wouldBuzz 30 = .ok (.aload_n 0, 1) := by decide +kernel
theorem dX5_wouldBuzz_31 : decode cX5_wouldBuzz 31 = .ok (.getfield 19, 3) := by decide +kernel
theorem dX5_wouldBuzz_34 : decode cX5_wouldBuzz 34 = .ok (.getfield 254, 3) := by decide +kernel
theorem dX5_wouldBuzz_37 : decode cX5_wouldBuzz 37 = .ok (.isub, 1) := by decide +kernel
theorem dX5_wouldBuzz_38 : decode cX5_wouldBuzz 38 = .ok (.ireturn, 1) := by decide +kernel
set_option maxRecDepth 20000 in
theorem ggX5_digest_X5_many : GoodIn wsX5_digest wsX5_many := goodIn_ca (goodIn_r _ [14, 3, 4, 5, 6, 15, 16, 17, 18, 19, 20, 7, 21, 8, 22, 23, 24, 25, 26, 27, 13, 28, 29, 30, 31, 32, 33, 34, 35, 36, 37, 38, 39, 40, 41, 42, 43, 44, 45, 46, 47, 48, 49, 50, 51, 52, 53, 54, 55, 56, 57, 58, 59, 60, 61, 62, 271, 272, 273, 274, 275, 276, 277, 278, 279, 280, 281, 282, 283, 284, 285, 286, 292, 293, 294, 295, 296, 297, 298, 299, 300, 301, 302, 287, 288, 289, 290, 291, 303, 304] (by decide +kernel) (by decide +kernel)) (goodIn_sub (fun _ h => List.mem_cons_of_mem _ (List.mem_append_left _ (List.mem_append_right _ h))) (by decide +kernel))
set_option maxRecDepth 20000 in
theorem gX5_digest_X5_many : GoodIn wsX5_digest (wsV RX5 278 RX5 yX5_many wsX5_many) := goodIn_app (goodIn_of _ (by decide +kernel)) ggX5_digest_X5_many
set_option maxRecDepth 20000 in
theorem ggX5_digest_X5_digestTooth : GoodIn wsX5_digest wsX5_digestTooth := goodIn_ca (goodIn_ca (goodIn_r _ [66, 2, 42, 67, 68, 69, 13, 70, 3, 71, 72, 73, 74, 75, 76, 77, 78, 79, 80, 4, 26, 27, 28, 29, 30, 43, 44, 45, 46, 47, 48, 49, 50, 51, 52, 53, 54, 55, 56, 57, 58, 59, 60, 61, 62, 81, 271, 272, 273, 274, 275, 276, 277, 278, 279, 280, 281, 282, 283, 303, 304] (by decide +kernel) (by decide +kernel)) (goodIn_sub (fun _ h => List.mem_cons_of_mem _ (List.mem_append_right _ h)) (by decide +kernel))) (goodIn_sub (fun _ h => List.mem_cons_of_mem _ (List.mem_append_left _ (List.mem_append_right _ h))) (by decide +kernel))
set_option maxRecDepth 20000 in
theorem gX5_digest_X5_digestTooth : GoodIn wsX5_digest (wsV RX5 281 RX5 yX5_digestTooth wsX5_digestTooth) := goodIn_app (goodIn_of _ (by decide +kernel)) ggX5_digest_X5_digestTooth
set_option maxRecDepth 20000 in
theorem ggX5_digest_X5_digestTune : GoodIn wsX5_digest wsX5_digestTune := goodIn_ca (goodIn_ca (goodIn_r _ [85, 2, 86, 87, 88, 13, 89, 5, 90, 91, 92, 93, 94, 79, 80, 6, 26, 27, 28, 29, 30, 95, 96, 97, 98, 99, 100, 101, 102, 103, 104, 105, 106, 107, 108, 109, 110, 111, 112, 113, 114, 115, 116, 117, 118, 119, 120, 121, 122, 123, 124, 125, 126, 127, 128, 129, 130, 131, 132, 133, 134, 135, 136, 137, 138, 42, 139, 140, 141, 46, 142, 52, 143, 144, 145, 146, 53, 54, 55, 147, 148, 149, 150, 3, 151, 152, 153, 154, 155, 156, 157, 158, 159, 160, 161, 162, 163, 56, 57, 58, 59, 60, 61, 62, 164, 165, 166, 167, 168, 169, 170, 171, 271, 272, 273, 274, 275, 276, 277, 284, 285, 286, 292, 293, 294, 295, 296, 297, 298, 299, 300, 301, 302, 303, 304, 278, 279, 280, 281, 282, 283] (by decide +kernel) (by decide +kernel)) (goodIn_sub (fun _ h => List.mem_cons_of_mem _ (List.mem_append_right _ h)) (by decide +kernel))) (goodIn_sub (fun _ h => List.mem_cons_of_mem _ (List.mem_append_left _ (List.mem_append_right _ h))) (by decide +kernel))
set_option maxRecDepth 20000 in
theorem gX5_digest_X5_digestTune : GoodIn wsX5_digest (wsV RX5 285 RX5 yX5_digestTune wsX5_digestTune) := goodIn_app (goodIn_of _ (by decide +kernel)) ggX5_digest_X5_digestTune
set_option maxRecDepth 20000 in
theorem ggX5_digest_X2_pitchOf : GoodIn wsX5_digest wsX2_pitchOf := goodIn_r _ [176, 177, 178, 179, 180, 175, 181, 182, 287, 288, 289, 290, 291] (by decide +kernel) (by decide +kernel)
set_option maxRecDepth 20000 in
theorem gX5_digest_X2_pitchOf : GoodIn wsX5_digest (wsV RX5 221 RX2 yX2_pitchOf wsX2_pitchOf) := goodIn_app (goodIn_of _ (by decide +kernel)) ggX5_digest_X2_pitchOf
set_option maxRecDepth 20000 in
theorem ggX5_digest_X2_clockOf : GoodIn wsX5_digest wsX2_clockOf := goodIn_r _ [186, 187, 178, 179, 180, 175, 181, 182, 287, 288, 289, 290, 291] (by decide +kernel) (by decide +kernel)
set_option maxRecDepth 20000 in
theorem gX5_digest_X2_clockOf : GoodIn wsX5_digest (wsV RX5 226 RX2 yX2_clockOf wsX2_clockOf) := goodIn_app (goodIn_of _ (by decide +kernel)) ggX5_digest_X2_clockOf
set_option maxRecDepth 20000 in
theorem ggX5_digest_X5_lasts : GoodIn wsX5_digest wsX5_lasts := goodIn_r _ [191, 137, 15, 18, 192, 193, 194, 195, 196, 197, 198, 199, 200, 201, 202, 203, 204, 205, 206, 207, 208, 209, 34, 210, 36, 211, 37, 212, 213, 214, 215, 140, 141, 46, 142, 52, 143, 144, 145, 146, 53, 54, 55, 216, 217, 218, 219, 168, 169, 170, 171, 220, 221, 222, 223, 224, 225, 226, 227, 111, 112, 113, 228, 229, 230, 231, 232, 233, 234, 235, 236, 237, 238, 239, 240, 241, 242, 243, 244, 245, 246, 247, 248, 249, 250, 175, 251, 252, 177, 187, 253, 182, 178, 179, 180, 181, 254, 255, 256, 257, 258, 271, 272, 273, 274, 275, 276, 277, 292, 293, 294, 295, 296, 297, 298, 299, 300, 301, 302, 278, 279, 280, 281, 282, 283, 303, 304, 287, 288, 289, 290, 291] (by decide +kernel) (by decide +kernel)
set_option maxRecDepth 20000 in
theorem gX5_digest_X5_lasts : GoodIn wsX5_digest (wsV RX5 288 RX5 yX5_lasts wsX5_lasts) := goodIn_app (goodIn_of _ (by decide +kernel)) ggX5_digest_X5_lasts
set_option maxRecDepth 20000 in
theorem ggX5_digest_X5_wouldBuzz : GoodIn wsX5_digest wsX5_wouldBuzz := goodIn_ca (goodIn_r _ [262, 137, 15, 22, 263, 264, 13, 265, 29, 30, 192, 193, 194, 195, 196, 197, 198, 199, 200, 201, 202, 203, 204, 205, 206, 207, 208, 209, 34, 210, 36, 211, 37, 212, 213, 214, 215, 140, 141, 46, 142, 52, 143, 144, 145, 146, 53, 54, 55, 216, 217, 218, 219, 168, 169, 170, 171, 266, 267, 268, 269, 270, 221, 222, 223, 224, 225, 226, 227, 111, 112, 113, 228, 229, 230, 231, 232, 233, 234, 235, 236, 237, 238, 239, 240, 241, 242, 243, 244, 245, 246, 247, 248, 249, 250, 175, 251, 252, 177, 187, 253, 182, 178, 179, 180, 181, 254, 255, 256, 257, 258, 271, 272, 273, 274, 275, 276, 277, 292, 293, 294, 295, 296, 297, 298, 299, 300, 301, 302, 278, 279, 280, 281, 282, 283, 303, 304, 287, 288, 289, 290, 291] (by decide +kernel) (by decide +kernel)) (goodIn_sub (fun _ h => List.mem_cons_of_mem _ (List.mem_append_left _ (List.mem_append_right _ h))) (by decide +kernel))
set_option maxRecDepth 20000 in
theorem gX5_digest_X5_wouldBuzz : GoodIn wsX5_digest (wsV RX5 291 RX5 yX5_wouldBuzz wsX5_wouldBuzz) := goodIn_app (goodIn_of _ (by decide +kernel)) ggX5_digest_X5_wouldBuzz
theorem dX5_digest_0 : decode cX5_digest 0 = .ok (.ldc2_w 274, 3) := by decide +kernel
theorem dX5_digest_3 : decode cX5_digest 3 = .ok (.lstore_n 1, 1) := by decide +kernel
theorem dX5_digest_4 : decode cX5_digest 4 = .ok (.iconst 0, 1) := by decide +kernel
theorem dX5_digest_5 : decode cX5_digest 5 = .ok (.istore_n 3, 1) := by decide +kernel
theorem dX5_digest_6 : decode cX5_digest 6 = .ok (.iload_n 3, 1) := by decide +kernel
theorem dX5_digest_7 : decode cX5_digest 7 = .ok (.bipush 15, 2) := by decide +kernel
theorem dX5_digest_9 : decode cX5_digest 9 = .ok (.if_icmp .ge 22, 3) := by decide +kernel
theorem dX5_digest_12 : decode cX5_digest 12 = .ok (.lload_n 1, 1) := by decide +kernel
theorem dX5_digest_13 : decode cX5_digest 13 = .ok (.ldc2_w 276, 3) := by decide +kernel
theorem dX5_digest_16 : decode cX5_digest 16 = .ok (.lmul, 1) := by decide +kernel
theorem dX5_digest_17 : decode cX5_digest 17 = .ok (.aload_n 0, 1) := by decide +kernel
theorem dX5_digest_18 : decode cX5_digest 18 = .ok (.iload_n 3, 1) := by decide +kernel
theorem dX5_digest_19 : decode cX5_digest 19 = .ok (.invokevirtual 278, 3) := by decide +kernel
theorem dX5_digest_22 : decode cX5_digest 22 = .ok (.i2l, 1) := by decide +kernel
theorem dX5_digest_23 : decode cX5_digest 23 = .ok (.ladd, 1) := by decide +kernel
theorem dX5_digest_24 : decode cX5_digest 24 = .ok (.lstore_n 1, 1) := by decide +kernel
theorem dX5_digest_25 : decode cX5_digest 25 = .ok (.iinc 3 1, 3) := by decide +kernel
theorem dX5_digest_28 : decode cX5_digest 28 = .ok (.goto (-22), 3) := by decide +kernel
theorem dX5_digest_31 : decode cX5_digest 31 = .ok (.iconst 0, 1) := by decide +kernel
theorem dX5_digest_32 : decode cX5_digest 32 = .ok (.istore_n 3, 1) := by decide +kernel
theorem dX5_digest_33 : decode cX5_digest 33 = .ok (.iload_n 3, 1) := by decide +kernel
theorem dX5_digest_34 : decode cX5_digest 34 = .ok (.aload_n 0, 1) := by decide +kernel
theorem dX5_digest_35 : decode cX5_digest 35 = .ok (.getfield 27, 3) := by decide +kernel
theorem dX5_digest_38 : decode cX5_digest 38 = .ok (.getfield 45, 3) := by decide +kernel
theorem dX5_digest_41 : decode cX5_digest 41 = .ok (.if_icmp .ge 16, 3) := by decide +kernel
theorem dX5_digest_44 : decode cX5_digest 44 = .ok (.aload_n 0, 1) := by decide +kernel
theorem dX5_digest_45 : decode cX5_digest 45 = .ok (.lload_n 1, 1) := by decide +kernel
theorem dX5_digest_46 : decode cX5_digest 46 = .ok (.iload_n 3, 1) := by decide +kernel
theorem dX5_digest_47 : decode cX5_digest 47 = .ok (.invokevirtual 281, 3) := by decide +kernel
theorem dX5_digest_50 : decode cX5_digest 50 = .ok (.lstore_n 1, 1) := by decide +kernel
theorem dX5_digest_51 : decode cX5_digest 51 = .ok (.iinc 3 1, 3) := by decide +kernel
theorem dX5_digest_54 : decode cX5_digest 54 = .ok (.goto (-21), 3) := by decide +kernel
theorem dX5_digest_57 : decode cX5_digest 57 = .ok (.iconst 0, 1) := by decide +kernel
theorem dX5_digest_58 : decode cX5_digest 58 = .ok (.istore_n 3, 1) := by decide +kernel
theorem dX5_digest_59 : decode cX5_digest 59 = .ok (.iload_n 3, 1) := by decide +kernel
theorem dX5_digest_60 : decode cX5_digest 60 = .ok (.aload_n 0, 1) := by decide +kernel
theorem dX5_digest_61 : decode cX5_digest 61 = .ok (.getfield 10, 3) := by decide +kernel
theorem dX5_digest_64 : decode cX5_digest 64 = .ok (.getfield 69, 3) := by decide +kernel
theorem dX5_digest_67 : decode cX5_digest 67 = .ok (.if_icmp .ge 16, 3) := by decide +kernel
theorem dX5_digest_70 : decode cX5_digest 70 = .ok (.aload_n 0, 1) := by decide +kernel
theorem dX5_digest_71 : decode cX5_digest 71 = .ok (.lload_n 1, 1) := by decide +kernel
theorem dX5_digest_72 : decode cX5_digest 72 = .ok (.iload_n 3, 1) := by decide +kernel
theorem dX5_digest_73 : decode cX5_digest 73 = .ok (.invokevirtual 285, 3) := by decide +kernel
theorem dX5_digest_76 : decode cX5_digest 76 = .ok (.lstore_n 1, 1) := by decide +kernel
theorem dX5_digest_77 : decode cX5_digest 77 = .ok (.iinc 3 1, 3) := by decide +kernel
theorem dX5_digest_80 : decode cX5_digest 80 = .ok (.goto (-21), 3) := by decide +kernel
theorem dX5_digest_83 : decode cX5_digest 83 = .ok (.iconst 0, 1) := by decide +kernel
theorem dX5_digest_84 : decode cX5_digest 84 = .ok (.istore_n 3, 1) := by decide +kernel
theorem dX5_digest_85 : decode cX5_digest 85 = .ok (.iload_n 3, 1) := by decide +kernel
theorem dX5_digest_86 : decode cX5_digest 86 = .ok (.aload_n 0, 1) := by decide +kernel
theorem dX5_digest_87 : decode cX5_digest 87 = .ok (.getfield 37, 3) := by decide +kernel
theorem dX5_digest_90 : decode cX5_digest 90 = .ok (.getfield 251, 3) := by decide +kernel
theorem dX5_digest_93 : decode cX5_digest 93 = .ok (.if_icmp .ge 45, 3) := by decide +kernel
theorem dX5_digest_96 : decode cX5_digest 96 = .ok (.lload_n 1, 1) := by decide +kernel
theorem dX5_digest_97 : decode cX5_digest 97 = .ok (.ldc2_w 276, 3) := by decide +kernel
theorem dX5_digest_100 : decode cX5_digest 100 = .ok (.lmul, 1) := by decide +kernel
theorem dX5_digest_101 : decode cX5_digest 101 = .ok (.aload_n 0, 1) := by decide +kernel
theorem dX5_digest_102 : decode cX5_digest 102 = .ok (.getfield 37, 3) := by decide +kernel
theorem dX5_digest_105 : decode cX5_digest 105 = .ok (.iload_n 3, 1) := by decide +kernel
theorem dX5_digest_106 : decode cX5_digest 106 = .ok (.invokevirtual 221, 3) := by decide +kernel
theorem dX5_digest_109 : decode cX5_digest 109 = .ok (.i2l, 1) := by decide +kernel
theorem dX5_digest_110 : decode cX5_digest 110 = .ok (.ladd, 1) := by decide +kernel
theorem dX5_digest_111 : decode cX5_digest 111 = .ok (.lstore_n 1, 1) := by decide +kernel
theorem dX5_digest_112 : decode cX5_digest 112 = .ok (.lload_n 1, 1) := by decide +kernel
theorem dX5_digest_113 : decode cX5_digest 113 = .ok (.ldc2_w 276, 3) := by decide +kernel
theorem dX5_digest_116 : decode cX5_digest 116 = .ok (.lmul, 1) := by decide +kernel
theorem dX5_digest_117 : decode cX5_digest 117 = .ok (.aload_n 0, 1) := by decide +kernel
theorem dX5_digest_118 : decode cX5_digest 118 = .ok (.getfield 37, 3) := by decide +kernel
theorem dX5_digest_121 : decode cX5_digest 121 = .ok (.iload_n 3, 1) := by decide +kernel
theorem dX5_digest_122 : decode cX5_digest 122 = .ok (.invokevirtual 226, 3) := by decide +kernel
theorem dX5_digest_125 : decode cX5_digest 125 = .ok (.ldc2_w 224, 3) := by decide +kernel
theorem dX5_digest_128 : decode cX5_digest 128 = .ok (.dmul, 1) := by decide +kernel
theorem dX5_digest_129 : decode cX5_digest 129 = .ok (.d2l, 1) := by decide +kernel
theorem dX5_digest_130 : decode cX5_digest 130 = .ok (.ladd, 1) := by decide +kernel
theorem dX5_digest_131 : decode cX5_digest 131 = .ok (.lstore_n 1, 1) := by decide +kernel
theorem dX5_digest_132 : decode cX5_digest 132 = .ok (.iinc 3 1, 3) := by decide +kernel
theorem dX5_digest_135 : decode cX5_digest 135 = .ok (.goto (-50), 3) := by decide +kernel
theorem dX5_digest_138 : decode cX5_digest 138 = .ok (.lload_n 1, 1) := by decide +kernel
theorem dX5_digest_139 : decode cX5_digest 139 = .ok (.ldc2_w 276, 3) := by decide +kernel
theorem dX5_digest_142 : decode cX5_digest 142 = .ok (.lmul, 1) := by decide +kernel
theorem dX5_digest_143 : decode cX5_digest 143 = .ok (.aload_n 0, 1) := by decide +kernel
theorem dX5_digest_144 : decode cX5_digest 144 = .ok (.invokevirtual 288, 3) := by decide +kernel
theorem dX5_digest_147 : decode cX5_digest 147 = .ok (.i2l, 1) := by decide +kernel
theorem dX5_digest_148 : decode cX5_digest 148 = .ok (.ladd, 1) := by decide +kernel
theorem dX5_digest_149 : decode cX5_digest 149 = .ok (.lstore_n 1, 1) := by decide +kernel
theorem dX5_digest_150 : decode cX5_digest 150 = .ok (.lload_n 1, 1) := by decide +kernel
theorem dX5_digest_151 : decode cX5_digest 151 = .ok (.ldc2_w 276, 3) := by decide +kernel
theorem dX5_digest_154 : decode cX5_digest 154 = .ok (.lmul, 1) := by decide +kernel
theorem dX5_digest_155 : decode cX5_digest 155 = .ok (.aload_n 0, 1) := by decide +kernel
theorem dX5_digest_156 : decode cX5_digest 156 = .ok (.bipush 16, 2) := by decide +kernel
theorem dX5_digest_158 : decode cX5_digest 158 = .ok (.invokevirtual 291, 3) := by decide +kernel
theorem dX5_digest_161 : decode cX5_digest 161 = .ok (.i2l, 1) := by decide +kernel
theorem dX5_digest_162 : decode cX5_digest 162 = .ok (.ladd, 1) := by decide +kernel
theorem dX5_digest_163 : decode cX5_digest 163 = .ok (.lreturn, 1) := by decide +kernel
set_option maxRecDepth 20000 in
theorem ggX5_digestTooth_X5_ofTooth : GoodIn wsX5_digestTooth wsX5_ofTooth := goodIn_ca (goodIn_ca (goodIn_r _ [7, 8, 9, 10, 11, 12, 2, 13, 14, 15, 6, 16, 17, 18, 19, 20, 21, 22, 23, 24, 25, 26, 27, 28, 29, 30, 31, 32, 33, 34, 35, 36, 37, 38, 39, 40, 41, 42, 43, 44, 46, 47, 48, 49, 50, 51, 52, 53, 54, 55, 56, 57, 58, 59, 60] (by decide +kernel) (by decide +kernel)) (goodIn_sub (fun _ h => List.mem_cons_of_mem _ (List.mem_append_left _ (List.mem_append_right _ h))) (by decide +kernel))) (goodIn_sub (fun _ h => List.mem_cons_of_mem _ (List.mem_append_right _ h)) (by decide +kernel))
set_option maxRecDepth 20000 in
theorem gX5_digestTooth_X5_ofTooth : GoodIn wsX5_digestTooth (wsV RX5 294 RX5 yX5_ofTooth wsX5_ofTooth) := goodIn_app (goodIn_of _ (by decide +kernel)) ggX5_digestTooth_X5_ofTooth
set_option maxRecDepth 20000 in
theorem ggX5_digestTooth_X0_placesOf : GoodIn wsX5_digestTooth wsX0_placesOf := goodIn_r _ [33, 34, 35, 36, 28, 37, 59, 60] (by decide +kernel) (by decide +kernel)
set_option maxRecDepth 20000 in
theorem gX5_digestTooth_X0_placesOf : GoodIn wsX5_digestTooth (wsV RX5 172 RX0 yX0_placesOf wsX0_placesOf) := goodIn_app (goodIn_of _ (by decide +kernel)) ggX5_digestTooth_X0_placesOf
theorem dX5_digestTooth_0 : decode cX5_digestTooth 0 = .ok (.lload_n 1, 1) := by decide +kernel
theorem dX5_digestTooth_1 : decode cX5_digestTooth 1 = .ok (.lstore 4, 2) := by decide +kernel
theorem dX5_digestTooth_3 : decode cX5_digestTooth 3 = .ok (.iconst 0, 1) := by decide +kernel
theorem dX5_digestTooth_4 : decode cX5_digestTooth 4 = .ok (.istore 6, 2) := by decide +kernel
theorem dX5_digestTooth_6 : decode cX5_digestTooth 6 = .ok (.iload 6, 2) := by decide +kernel
theorem dX5_digestTooth_8 : decode cX5_digestTooth 8 = .ok (.iconst 5, 1) := by decide +kernel
theorem dX5_digestTooth_9 : decode cX5_digestTooth 9 = .ok (.if_icmp .ge 26, 3) := by decide +kernel
theorem dX5_digestTooth_12 : decode cX5_digestTooth 12 = .ok (.lload 4, 2) := by decide +kernel
theorem dX5_digestTooth_14 : decode cX5_digestTooth 14 = .ok (.ldc2_w 276, 3) := by decide +kernel
theorem dX5_digestTooth_17 : decode cX5_digestTooth 17 = .ok (.lmul, 1) := by decide +kernel
theorem dX5_digestTooth_18 : decode cX5_digestTooth 18 = .ok (.aload_n 0, 1) := by decide +kernel
theorem dX5_digestTooth_19 : decode cX5_digestTooth 19 = .ok (.iload_n 3, 1) := by decide +kernel
theorem dX5_digestTooth_20 : decode cX5_digestTooth 20 = .ok (.iload 6, 2) := by decide +kernel
theorem dX5_digestTooth_22 : decode cX5_digestTooth 22 = .ok (.invokevirtual 294, 3) := by decide +kernel
theorem dX5_digestTooth_25 : decode cX5_digestTooth 25 = .ok (.i2l, 1) := by decide +kernel
theorem dX5_digestTooth_26 : decode cX5_digestTooth 26 = .ok (.ladd, 1) := by decide +kernel
theorem dX5_digestTooth_27 : decode cX5_digestTooth 27 = .ok (.lstore 4, 2) := by decide +kernel
theorem dX5_digestTooth_29 : decode cX5_digestTooth 29 = .ok (.iinc 6 1, 3) := by decide +kernel
theorem dX5_digestTooth_32 : decode cX5_digestTooth 32 = .ok (.goto (-26), 3) := by decide +kernel
theorem dX5_digestTooth_35 : decode cX5_digestTooth 35 = .ok (.iconst 0, 1) := by decide +kernel
theorem dX5_digestTooth_36 : decode cX5_digestTooth 36 = .ok (.istore 6, 2) := by decide +kernel
theorem dX5_digestTooth_38 : decode cX5_digestTooth 38 = .ok (.iload 6, 2) := by decide +kernel
theorem dX5_digestTooth_40 : decode cX5_digestTooth 40 = .ok (.iconst 3, 1) := by decide +kernel
theorem dX5_digestTooth_41 : decode cX5_digestTooth 41 = .ok (.if_icmp .ge 28, 3) := by decide +kernel
theorem dX5_digestTooth_44 : decode cX5_digestTooth 44 = .ok (.lload 4, 2) := by decide +kernel
theorem dX5_digestTooth_46 : decode cX5_digestTooth 46 = .ok (.ldc2_w 276, 3) := by decide +kernel
theorem dX5_digestTooth_49 : decode cX5_digestTooth 49 = .ok (.lmul, 1) := by decide +kernel
theorem dX5_digestTooth_50 : decode cX5_digestTooth 50 = .ok (.aload_n 0, 1) := by decide +kernel
theorem dX5_digestTooth_51 : decode cX5_digestTooth 51 = .ok (.getfield 32, 3) := by decide +kernel
theorem dX5_digestTooth_54 : decode cX5_digestTooth 54 = .ok (.iload_n 3, 1) := by decide +kernel
theorem dX5_digestTooth_55 : decode cX5_digestTooth 55 = .ok (.iload 6, 2) := by decide +kernel
theorem dX5_digestTooth_57 : decode cX5_digestTooth 57 = .ok (.invokevirtual 172, 3) := by decide +kernel
theorem dX5_digestTooth_60 : decode cX5_digestTooth 60 = .ok (.ladd, 1) := by decide +kernel
theorem dX5_digestTooth_61 : decode cX5_digestTooth 61 = .ok (.lstore 4, 2) := by decide +kernel
theorem dX5_digestTooth_63 : decode cX5_digestTooth 63 = .ok (.iinc 6 1, 3) := by decide +kernel
theorem dX5_digestTooth_66 : decode cX5_digestTooth 66 = .ok (.goto (-28), 3) := by decide +kernel
theorem dX5_digestTooth_69 : decode cX5_digestTooth 69 = .ok (.lload 4, 2) := by decide +kernel
theorem dX5_digestTooth_71 : decode cX5_digestTooth 71 = .ok (.lreturn, 1) := by decide +kernel
set_option maxRecDepth 20000 in
theorem ggX5_digestTune_X5_ofTune : GoodIn wsX5_digestTune wsX5_ofTune := goodIn_ca (goodIn_ca (goodIn_r _ [6, 7, 8, 9, 10, 11, 5, 12, 13, 14, 15, 16, 17, 18, 19, 20, 21, 22, 23, 24, 25, 26, 27, 28, 29, 30, 31, 32, 33, 34, 35, 36, 37, 38, 39, 40, 41, 42, 43, 44, 45, 46, 47, 48, 49, 50, 51, 112, 113, 114, 115, 116, 117, 118, 119, 120, 121] (by decide +kernel) (by decide +kernel)) (goodIn_sub (fun _ h => List.mem_cons_of_mem _ (List.mem_append_left _ (List.mem_append_right _ h))) (by decide +kernel))) (goodIn_sub (fun _ h => List.mem_cons_of_mem _ (List.mem_append_right _ h)) (by decide +kernel))
set_option maxRecDepth 20000 in
theorem gX5_digestTune_X5_ofTune : GoodIn wsX5_digestTune (wsV RX5 297 RX5 yX5_ofTune wsX5_ofTune) := goodIn_app (goodIn_of _ (by decide +kernel)) ggX5_digestTune_X5_ofTune
set_option maxRecDepth 20000 in
theorem ggX5_digestTune_X5_bestKey : GoodIn wsX5_digestTune wsX5_bestKey := goodIn_ca (goodIn_r _ [55, 9, 10, 11, 5, 12, 13, 14, 7, 15, 56, 57, 58, 59, 60, 61, 62, 63, 64, 65, 66, 67, 68, 69, 70, 71, 72, 73, 74, 75, 76, 77, 78, 79, 80, 81, 82, 8, 83, 84, 45, 46, 24, 47, 31, 85, 28, 29, 30, 86, 87, 88, 89, 90, 91, 92, 93, 94, 95, 96, 97, 98, 99, 100, 101, 102, 103, 104, 105, 106, 107, 108, 109, 110, 111, 112, 113, 114, 115, 116, 117, 118, 119, 120, 121, 122, 123, 124, 125, 126, 127, 128, 129, 130, 131, 132, 133, 134, 135, 136, 137, 138, 139, 140] (by decide +kernel) (by decide +kernel)) (goodIn_sub (fun _ h => List.mem_cons_of_mem _ (List.mem_append_left _ (List.mem_append_right _ h))) (by decide +kernel))
set_option maxRecDepth 20000 in
theorem gX5_digestTune_X5_bestKey : GoodIn wsX5_digestTune (wsV RX5 300 RX5 yX5_bestKey wsX5_bestKey) := goodIn_app (goodIn_of _ (by decide +kernel)) ggX5_digestTune_X5_bestKey
theorem dX5_digestTune_0 : decode cX5_digestTune 0 = .ok (.lload_n 1, 1) := by decide +kernel
theorem dX5_digestTune_1 : decode cX5_digestTune 1 = .ok (.lstore 4, 2) := by decide +kernel
theorem dX5_digestTune_3 : decode cX5_digestTune 3 = .ok (.iconst 0, 1) := by decide +kernel
theorem dX5_digestTune_4 : decode cX5_digestTune 4 = .ok (.istore 6, 2) := by decide +kernel
theorem dX5_digestTune_6 : decode cX5_digestTune 6 = .ok (.iload 6, 2) := by decide +kernel
theorem dX5_digestTune_8 : decode cX5_digestTune 8 = .ok (.iconst 5, 1) := by decide +kernel
theorem dX5_digestTune_9 : decode cX5_digestTune 9 = .ok (.if_icmp .ge 26, 3) := by decide +kernel
theorem dX5_digestTune_12 : decode cX5_digestTune 12 = .ok (.lload 4, 2) := by decide +kernel
theorem dX5_digestTune_14 : decode cX5_digestTune 14 = .ok (.ldc2_w 276, 3) := by decide +kernel
theorem dX5_digestTune_17 : decode cX5_digestTune 17 = .ok (.lmul, 1) := by decide +kernel
theorem dX5_digestTune_18 : decode cX5_digestTune 18 = .ok (.aload_n 0, 1) := by decide +kernel
theorem dX5_digestTune_19 : decode cX5_digestTune 19 = .ok (.iload_n 3, 1) := by decide +kernel
theorem dX5_digestTune_20 : decode cX5_digestTune 20 = .ok (.iload 6, 2) := by decide +kernel
theorem dX5_digestTune_22 : decode cX5_digestTune 22 = .ok (.invokevirtual 297, 3) := by decide +kernel
theorem dX5_digestTune_25 : decode cX5_digestTune 25 = .ok (.i2l, 1) := by decide +kernel
theorem dX5_digestTune_26 : decode cX5_digestTune 26 = .ok (.ladd, 1) := by decide +kernel
theorem dX5_digestTune_27 : decode cX5_digestTune 27 = .ok (.lstore 4, 2) := by decide +kernel
theorem dX5_digestTune_29 : decode cX5_digestTune 29 = .ok (.iinc 6 1, 3) := by decide +kernel
theorem dX5_digestTune_32 : decode cX5_digestTune 32 = .ok (.goto (-26), 3) := by decide +kernel
theorem dX5_digestTune_35 : decode cX5_digestTune 35 = .ok (.lload 4, 2) := by decide +kernel
theorem dX5_digestTune_37 : decode cX5_digestTune 37 = .ok (.ldc2_w 276, 3) := by decide +kernel
theorem dX5_digestTune_40 : decode cX5_digestTune 40 = .ok (.lmul, 1) := by decide +kernel
theorem dX5_digestTune_41 : decode cX5_digestTune 41 = .ok (.aload_n 0, 1) := by decide +kernel
theorem dX5_digestTune_42 : decode cX5_digestTune 42 = .ok (.iload_n 3, 1) := by decide +kernel
theorem dX5_digestTune_43 : decode cX5_digestTune 43 = .ok (.iconst 0, 1) := by decide +kernel
theorem dX5_digestTune_44 : decode cX5_digestTune 44 = .ok (.invokevirtual 300, 3) := by decide +kernel
theorem dX5_digestTune_47 : decode cX5_digestTune 47 = .ok (.i2l, 1) := by decide +kernel
theorem dX5_digestTune_48 : decode cX5_digestTune 48 = .ok (.ladd, 1) := by decide +kernel
theorem dX5_digestTune_49 : decode cX5_digestTune 49 = .ok (.lreturn, 1) := by decide +kernel
set_option maxRecDepth 20000 in
theorem ggX5_pinTune_X3_timeOf : GoodIn wsX5_pinTune wsX3_timeOf := goodIn_r _ [8, 9, 52, 53, 54] (by decide +kernel) (by decide +kernel)
set_option maxRecDepth 20000 in
theorem gX5_pinTune_X3_timeOf : GoodIn wsX5_pinTune (wsV RX5 303 RX3 yX3_timeOf wsX3_timeOf) := goodIn_app (goodIn_of _ (by decide +kernel)) ggX5_pinTune_X3_timeOf
set_option maxRecDepth 20000 in
theorem ggX5_pinTune_X3_pitchOf : GoodIn wsX5_pinTune wsX3_pitchOf := goodIn_r _ [13, 9, 52, 53, 54] (by decide +kernel) (by decide +kernel)
set_option maxRecDepth 20000 in
theorem gX5_pinTune_X3_pitchOf : GoodIn wsX5_pinTune (wsV RX5 306 RX3 yX3_pitchOf wsX3_pitchOf) := goodIn_app (goodIn_of _ (by decide +kernel)) ggX5_pinTune_X3_pitchOf
set_option maxRecDepth 20000 in
theorem ggX5_pinTune_X0_freeTooth : GoodIn wsX5_pinTune wsX0_freeTooth := goodIn_r _ [18, 19, 20, 21, 22, 23, 24, 17, 25, 26, 27, 28, 29, 30, 31, 32, 33, 34, 35, 36, 55, 56, 57, 58, 59, 60, 61, 62] (by decide +kernel) (by decide +kernel)
set_option maxRecDepth 20000 in
theorem gX5_pinTune_X0_freeTooth : GoodIn wsX5_pinTune (wsV RX5 308 RX0 yX0_freeTooth wsX0_freeTooth) := goodIn_app (goodIn_of _ (by decide +kernel)) ggX5_pinTune_X0_freeTooth
set_option maxRecDepth 20000 in
theorem ggX5_pinTune_X0_setPin : GoodIn wsX5_pinTune wsX0_setPin := goodIn_r _ [40, 22, 41, 27, 28, 17, 29, 42, 43, 44, 61, 62] (by decide +kernel) (by decide +kernel)
set_option maxRecDepth 20000 in
theorem gX5_pinTune_X0_setPin : GoodIn wsX5_pinTune (wsV RX5 312 RX0 yX0_setPin wsX0_setPin) := goodIn_app (goodIn_of _ (by decide +kernel)) ggX5_pinTune_X0_setPin
theorem dX5_pinTune_0 : decode cX5_pinTune 0 = .ok (.iconst 0, 1) := by decide +kernel
theorem dX5_pinTune_1 : decode cX5_pinTune 1 = .ok (.istore 5, 2) := by decide +kernel
theorem dX5_pinTune_3 : decode cX5_pinTune 3 = .ok (.aload_n 0, 1) := by decide +kernel
theorem dX5_pinTune_4 : decode cX5_pinTune 4 = .ok (.getfield 10, 3) := by decide +kernel
theorem dX5_pinTune_7 : decode cX5_pinTune 7 = .ok (.getfield 84, 3) := by decide +kernel
theorem dX5_pinTune_10 : decode cX5_pinTune 10 = .ok (.iload_n 2, 1) := by decide +kernel
theorem dX5_pinTune_11 : decode cX5_pinTune 11 = .ok (.iaload, 1) := by decide +kernel
theorem dX5_pinTune_12 : decode cX5_pinTune 12 = .ok (.istore 6, 2) := by decide +kernel
theorem dX5_pinTune_14 : decode cX5_pinTune 14 = .ok (.iconst 0, 1) := by decide +kernel
theorem dX5_pinTune_15 : decode cX5_pinTune 15 = .ok (.istore 7, 2) := by decide +kernel
theorem dX5_pinTune_17 : decode cX5_pinTune 17 = .ok (.iload 7, 2) := by decide +kernel
theorem dX5_pinTune_19 : decode cX5_pinTune 19 = .ok (.iload 6, 2) := by decide +kernel
theorem dX5_pinTune_21 : decode cX5_pinTune 21 = .ok (.if_icmp .ge 68, 3) := by decide +kernel
theorem dX5_pinTune_24 : decode cX5_pinTune 24 = .ok (.aload_n 0, 1) := by decide +kernel
theorem dX5_pinTune_25 : decode cX5_pinTune 25 = .ok (.getfield 10, 3) := by decide +kernel
theorem dX5_pinTune_28 : decode cX5_pinTune 28 = .ok (.iload_n 2, 1) := by decide +kernel
theorem dX5_pinTune_29 : decode cX5_pinTune 29 = .ok (.iload 7, 2) := by decide +kernel
theorem dX5_pinTune_31 : decode cX5_pinTune 31 = .ok (.invokevirtual 303, 3) := by decide +kernel
theorem dX5_pinTune_34 : decode cX5_pinTune 34 = .ok (.istore 8, 2) := by decide +kernel
theorem dX5_pinTune_36 : decode cX5_pinTune 36 = .ok (.aload_n 1, 1) := by decide +kernel
theorem dX5_pinTune_37 : decode cX5_pinTune 37 = .ok (.aload_n 0, 1) := by decide +kernel
theorem dX5_pinTune_38 : decode cX5_pinTune 38 = .ok (.getfield 27, 3) := by decide +kernel
theorem dX5_pinTune_41 : decode cX5_pinTune 41 = .ok (.iload_n 3, 1) := by decide +kernel
theorem dX5_pinTune_42 : decode cX5_pinTune 42 = .ok (.aload_n 0, 1) := by decide +kernel
theorem dX5_pinTune_43 : decode cX5_pinTune 43 = .ok (.getfield 10, 3) := by decide +kernel
theorem dX5_pinTune_46 : decode cX5_pinTune 46 = .ok (.iload_n 2, 1) := by decide +kernel
theorem dX5_pinTune_47 : decode cX5_pinTune 47 = .ok (.iload 7, 2) := by decide +kernel
theorem dX5_pinTune_49 : decode cX5_pinTune 49 = .ok (.invokevirtual 306, 3) := by decide +kernel
theorem dX5_pinTune_52 : decode cX5_pinTune 52 = .ok (.iload 4, 2) := by decide +kernel
theorem dX5_pinTune_54 : decode cX5_pinTune 54 = .ok (.iadd, 1) := by decide +kernel
theorem dX5_pinTune_55 : decode cX5_pinTune 55 = .ok (.iload 8, 2) := by decide +kernel
theorem dX5_pinTune_57 : decode cX5_pinTune 57 = .ok (.invokevirtual 308, 3) := by decide +kernel
theorem dX5_pinTune_60 : decode cX5_pinTune 60 = .ok (.istore 9, 2) := by decide +kernel
theorem dX5_pinTune_62 : decode cX5_pinTune 62 = .ok (.iload 9, 2) := by decide +kernel
theorem dX5_pinTune_64 : decode cX5_pinTune 64 = .ok (.iconst (-1), 1) := by decide +kernel
theorem dX5_pinTune_65 : decode cX5_pinTune 65 = .ok (.if_icmp .ne 9, 3) := by decide +kernel
theorem dX5_pinTune_68 : decode cX5_pinTune 68 = .ok (.iinc 5 1, 3) := by decide +kernel
theorem dX5_pinTune_71 : decode cX5_pinTune 71 = .ok (.goto 12, 3) := by decide +kernel
theorem dX5_pinTune_74 : decode cX5_pinTune 74 = .ok (.aload_n 1, 1) := by decide +kernel
theorem dX5_pinTune_75 : decode cX5_pinTune 75 = .ok (.iload 9, 2) := by decide +kernel
theorem dX5_pinTune_77 : decode cX5_pinTune 77 = .ok (.iload_n 3, 1) := by decide +kernel
theorem dX5_pinTune_78 : decode cX5_pinTune 78 = .ok (.iload 8, 2) := by decide +kernel
theorem dX5_pinTune_80 : decode cX5_pinTune 80 = .ok (.invokevirtual 312, 3) := by decide +kernel
theorem dX5_pinTune_83 : decode cX5_pinTune 83 = .ok (.iinc 7 1, 3) := by decide +kernel
theorem dX5_pinTune_86 : decode cX5_pinTune 86 = .ok (.goto (-69), 3) := by decide +kernel
theorem dX5_pinTune_89 : decode cX5_pinTune 89 = .ok (.iload 5, 2) := by decide +kernel
theorem dX5_pinTune_91 : decode cX5_pinTune 91 = .ok (.ireturn, 1) := by decide +kernel
set_option maxRecDepth 20000 in
theorem ggX5_wouldLose_X0_takePins : GoodIn wsX5_wouldLose wsX0_takePins := goodIn_r _ [8, 9, 10, 11, 12, 13, 14, 15, 7, 16, 79, 80] (by decide +kernel) (by decide +kernel)
set_option maxRecDepth 20000 in
theorem gX5_wouldLose_X0_takePins : GoodIn wsX5_wouldLose (wsV RX5 315 RX0 yX0_takePins wsX0_takePins) := goodIn_app (goodIn_of _ (by decide +kernel)) ggX5_wouldLose_X0_takePins
set_option maxRecDepth 20000 in
theorem ggX5_wouldLose_X5_pinTune : GoodIn wsX5_wouldLose wsX5_pinTune := goodIn_r _ [21, 22, 23, 24, 25, 26, 27, 28, 29, 30, 31, 32, 33, 34, 35, 36, 37, 7, 38, 39, 40, 41, 9, 42, 43, 44, 45, 14, 15, 16, 46, 47, 48, 49, 50, 51, 52, 53, 54, 55, 56, 57, 58, 59, 60, 61, 62, 63, 64, 65, 66, 67, 81, 82, 83, 84, 85, 86, 87, 88, 89, 79, 80] (by decide +kernel) (by decide +kernel)
set_option maxRecDepth 20000 in
theorem gX5_wouldLose_X5_pinTune : GoodIn wsX5_wouldLose (wsV RX5 102 RX5 yX5_pinTune wsX5_pinTune) := goodIn_app (goodIn_of _ (by decide +kernel)) ggX5_wouldLose_X5_pinTune
theorem dX5_wouldLose_0 : decode cX5_wouldLose 0 = .ok (.aload_n 0, 1) := by decide +kernel
theorem dX5_wouldLose_1 : decode cX5_wouldLose 1 = .ok (.getfield 38, 3) := by decide +kernel
theorem dX5_wouldLose_4 : decode cX5_wouldLose 4 = .ok (.getfield 28, 3) := by decide +kernel
theorem dX5_wouldLose_7 : decode cX5_wouldLose 7 = .ok (.aload_n 0, 1) := by decide +kernel
theorem dX5_wouldLose_8 : decode cX5_wouldLose 8 = .ok (.getfield 32, 3) := by decide +kernel
theorem dX5_wouldLose_11 : decode cX5_wouldLose 11 = .ok (.iload_n 2, 1) := by decide +kernel
theorem dX5_wouldLose_12 : decode cX5_wouldLose 12 = .ok (.invokevirtual 315, 3) := by decide +kernel
theorem dX5_wouldLose_15 : decode cX5_wouldLose 15 = .ok (.aload_n 0, 1) := by decide +kernel
theorem dX5_wouldLose_16 : decode cX5_wouldLose 16 = .ok (.aload_n 0, 1) := by decide +kernel
theorem dX5_wouldLose_17 : decode cX5_wouldLose 17 = .ok (.getfield 38, 3) := by decide +kernel
theorem dX5_wouldLose_20 : decode cX5_wouldLose 20 = .ok (.getfield 28, 3) := by decide +kernel
theorem dX5_wouldLose_23 : decode cX5_wouldLose 23 = .ok (.iload_n 1, 1) := by decide +kernel
theorem dX5_wouldLose_24 : decode cX5_wouldLose 24 = .ok (.iload_n 2, 1) := by decide +kernel
theorem dX5_wouldLose_25 : decode cX5_wouldLose 25 = .ok (.iload_n 3, 1) := by decide +kernel
theorem dX5_wouldLose_26 : decode cX5_wouldLose 26 = .ok (.invokevirtual 102, 3) := by decide +kernel
theorem dX5_wouldLose_29 : decode cX5_wouldLose 29 = .ok (.ireturn, 1) := by decide +kernel
set_option maxRecDepth 20000 in
theorem ggX5_allPins_X0_pinsOfTooth : GoodIn wsX5_allPins wsX0_pinsOfTooth := goodIn_r _ [8, 9, 10, 11, 7, 12, 13, 14, 15, 16, 17, 18, 19, 20, 21, 22, 23, 37, 38] (by decide +kernel) (by decide +kernel)
set_option maxRecDepth 20000 in
theorem gX5_allPins_X0_pinsOfTooth : GoodIn wsX5_allPins (wsV RX5 169 RX0 yX0_pinsOfTooth wsX0_pinsOfTooth) := goodIn_app (goodIn_of _ (by decide +kernel)) ggX5_allPins_X0_pinsOfTooth
theorem dX5_allPins_0 : decode cX5_allPins 0 = .ok (.iconst 0, 1) := by decide +kernel
theorem dX5_allPins_1 : decode cX5_allPins 1 = .ok (.istore_n 1, 1) := by decide +kernel
theorem dX5_allPins_2 : decode cX5_allPins 2 = .ok (.iconst 0, 1) := by decide +kernel
theorem dX5_allPins_3 : decode cX5_allPins 3 = .ok (.istore_n 2, 1) := by decide +kernel
theorem dX5_allPins_4 : decode cX5_allPins 4 = .ok (.iload_n 2, 1) := by decide +kernel
theorem dX5_allPins_5 : decode cX5_allPins 5 = .ok (.aload_n 0, 1) := by decide +kernel
theorem dX5_allPins_6 : decode cX5_allPins 6 = .ok (.getfield 27, 3) := by decide +kernel
theorem dX5_allPins_9 : decode cX5_allPins 9 = .ok (.getfield 45, 3) := by decide +kernel
theorem dX5_allPins_12 : decode cX5_allPins 12 = .ok (.if_icmp .ge 20, 3) := by decide +kernel
theorem dX5_allPins_15 : decode cX5_allPins 15 = .ok (.iload_n 1, 1) := by decide +kernel
theorem dX5_allPins_16 : decode cX5_allPins 16 = .ok (.aload_n 0, 1) := by decide +kernel
theorem dX5_allPins_17 : decode cX5_allPins 17 = .ok (.getfield 32, 3) := by decide +kernel
theorem dX5_allPins_20 : decode cX5_allPins 20 = .ok (.iload_n 2, 1) := by decide +kernel
theorem dX5_allPins_21 : decode cX5_allPins 21 = .ok (.invokevirtual 169, 3) := by decide +kernel
theorem dX5_allPins_24 : decode cX5_allPins 24 = .ok (.iadd, 1) := by decide +kernel
theorem dX5_allPins_25 : decode cX5_allPins 25 = .ok (.istore_n 1, 1) := by decide +kernel
theorem dX5_allPins_26 : decode cX5_allPins 26 = .ok (.iinc 2 1, 3) := by decide +kernel
theorem dX5_allPins_29 : decode cX5_allPins 29 = .ok (.goto (-25), 3) := by decide +kernel
theorem dX5_allPins_32 : decode cX5_allPins 32 = .ok (.iload_n 1, 1) := by decide +kernel
theorem dX5_allPins_33 : decode cX5_allPins 33 = .ok (.ireturn, 1) := by decide +kernel
set_option maxRecDepth 20000 in
theorem ggX5_signOf_X0_hasPin : GoodIn wsX5_signOf wsX0_hasPin := goodIn_r _ [10, 11, 12, 13, 9, 14, 39, 40] (by decide +kernel) (by decide +kernel)
set_option maxRecDepth 20000 in
theorem gX5_signOf_X0_hasPin : GoodIn wsX5_signOf (wsV RX5 179 RX0 yX0_hasPin wsX0_hasPin) := goodIn_app (goodIn_of _ (by decide +kernel)) ggX5_signOf_X0_hasPin
theorem dX5_signOf_0 : decode cX5_signOf 0 = .ok (.aload_n 0, 1) := by decide +kernel
theorem dX5_signOf_1 : decode cX5_signOf 1 = .ok (.getfield 27, 3) := by decide +kernel
theorem dX5_signOf_4 : decode cX5_signOf 4 = .ok (.getfield 159, 3) := by decide +kernel
theorem dX5_signOf_7 : decode cX5_signOf 7 = .ok (.iload_n 1, 1) := by decide +kernel
theorem dX5_signOf_8 : decode cX5_signOf 8 = .ok (.baload, 1) := by decide +kernel
theorem dX5_signOf_9 : decode cX5_signOf 9 = .ok (.ifCond .eq 6, 3) := by decide +kernel
theorem dX5_signOf_12 : decode cX5_signOf 12 = .ok (.bipush 120, 2) := by decide +kernel
theorem dX5_signOf_14 : decode cX5_signOf 14 = .ok (.ireturn, 1) := by decide +kernel
theorem dX5_signOf_15 : decode cX5_signOf 15 = .ok (.aload_n 0, 1) := by decide +kernel
theorem dX5_signOf_16 : decode cX5_signOf 16 = .ok (.getfield 32, 3) := by decide +kernel
theorem dX5_signOf_19 : decode cX5_signOf 19 = .ok (.iload_n 1, 1) := by decide +kernel
theorem dX5_signOf_20 : decode cX5_signOf 20 = .ok (.aload_n 0, 1) := by decide +kernel
theorem dX5_signOf_21 : decode cX5_signOf 21 = .ok (.getfield 19, 3) := by decide +kernel
theorem dX5_signOf_24 : decode cX5_signOf 24 = .ok (.getfield 112, 3) := by decide +kernel
theorem dX5_signOf_27 : decode cX5_signOf 27 = .ok (.iload_n 2, 1) := by decide +kernel
theorem dX5_signOf_28 : decode cX5_signOf 28 = .ok (.invokevirtual 179, 3) := by decide +kernel
theorem dX5_signOf_31 : decode cX5_signOf 31 = .ok (.ifCond .eq 8, 3) := by decide +kernel
theorem dX5_signOf_34 : decode cX5_signOf 34 = .ok (.bipush 124, 2) := by decide +kernel
theorem dX5_signOf_36 : decode cX5_signOf 36 = .ok (.goto 5, 3) := by decide +kernel
theorem dX5_signOf_39 : decode cX5_signOf 39 = .ok (.bipush 46, 2) := by decide +kernel
theorem dX5_signOf_41 : decode cX5_signOf 41 = .ok (.ireturn, 1) := by decide +kernel
theorem dX5_nearestWhole_0 : decode cX5_nearestWhole 0 = .ok (.dload_n 0, 1) := by decide +kernel
theorem dX5_nearestWhole_1 : decode cX5_nearestWhole 1 = .ok (.d2l, 1) := by decide +kernel
theorem dX5_nearestWhole_2 : decode cX5_nearestWhole 2 = .ok (.lstore_n 2, 1) := by decide +kernel
theorem dX5_nearestWhole_3 : decode cX5_nearestWhole 3 = .ok (.dload_n 0, 1) := by decide +kernel
theorem dX5_nearestWhole_4 : decode cX5_nearestWhole 4 = .ok (.lload_n 2, 1) := by decide +kernel
theorem dX5_nearestWhole_5 : decode cX5_nearestWhole 5 = .ok (.l2d, 1) := by decide +kernel
theorem dX5_nearestWhole_6 : decode cX5_nearestWhole 6 = .ok (.dsub, 1) := by decide +kernel
theorem dX5_nearestWhole_7 : decode cX5_nearestWhole 7 = .ok (.dstore 4, 2) := by decide +kernel
theorem dX5_nearestWhole_9 : decode cX5_nearestWhole 9 = .ok (.dload 4, 2) := by decide +kernel
theorem dX5_nearestWhole_11 : decode cX5_nearestWhole 11 = .ok (.ldc2_w 319, 3) := by decide +kernel
theorem dX5_nearestWhole_14 : decode cX5_nearestWhole 14 = .ok (.dcmp .l, 1) := by decide +kernel
theorem dX5_nearestWhole_15 : decode cX5_nearestWhole 15 = .ok (.ifCond .gt 20, 3) := by decide +kernel
theorem dX5_nearestWhole_18 : decode cX5_nearestWhole 18 = .ok (.dload 4, 2) := by decide +kernel
theorem dX5_nearestWhole_20 : decode cX5_nearestWhole 20 = .ok (.ldc2_w 319, 3) := by decide +kernel
theorem dX5_nearestWhole_23 : decode cX5_nearestWhole 23 = .ok (.dcmp .l, 1) := by decide +kernel
theorem dX5_nearestWhole_24 : decode cX5_nearestWhole 24 = .ok (.ifCond .ne 15, 3) := by decide +kernel
theorem dX5_nearestWhole_27 : decode cX5_nearestWhole 27 = .ok (.lload_n 2, 1) := by decide +kernel
theorem dX5_nearestWhole_28 : decode cX5_nearestWhole 28 = .ok (.lconst 1, 1) := by decide +kernel
theorem dX5_nearestWhole_29 : decode cX5_nearestWhole 29 = .ok (.land, 1) := by decide +kernel
theorem dX5_nearestWhole_30 : decode cX5_nearestWhole 30 = .ok (.lconst 1, 1) := by decide +kernel
theorem dX5_nearestWhole_31 : decode cX5_nearestWhole 31 = .ok (.lcmp, 1) := by decide +kernel
theorem dX5_nearestWhole_32 : decode cX5_nearestWhole 32 = .ok (.ifCond .ne 7, 3) := by decide +kernel
theorem dX5_nearestWhole_35 : decode cX5_nearestWhole 35 = .ok (.lload_n 2, 1) := by decide +kernel
theorem dX5_nearestWhole_36 : decode cX5_nearestWhole 36 = .ok (.lconst 1, 1) := by decide +kernel
theorem dX5_nearestWhole_37 : decode cX5_nearestWhole 37 = .ok (.ladd, 1) := by decide +kernel
theorem dX5_nearestWhole_38 : decode cX5_nearestWhole 38 = .ok (.lreturn, 1) := by decide +kernel
theorem dX5_nearestWhole_39 : decode cX5_nearestWhole 39 = .ok (.lload_n 2, 1) := by decide +kernel
theorem dX5_nearestWhole_40 : decode cX5_nearestWhole 40 = .ok (.lreturn, 1) := by decide +kernel
theorem dX5_needTooth_0 : decode cX5_needTooth 0 = .ok (.iload_n 1, 1) := by decide +kernel
theorem dX5_needTooth_1 : decode cX5_needTooth 1 = .ok (.ifCond .lt 14, 3) := by decide +kernel
theorem dX5_needTooth_4 : decode cX5_needTooth 4 = .ok (.iload_n 1, 1) := by decide +kernel
theorem dX5_needTooth_5 : decode cX5_needTooth 5 = .ok (.aload_n 0, 1) := by decide +kernel
theorem dX5_needTooth_6 : decode cX5_needTooth 6 = .ok (.getfield 27, 3) := by decide +kernel
theorem dX5_needTooth_9 : decode cX5_needTooth 9 = .ok (.getfield 45, 3) := by decide +kernel
theorem dX5_needTooth_12 : decode cX5_needTooth 12 = .ok (.if_icmp .lt 14, 3) := by decide +kernel
theorem dX5_needTooth_15 : decode cX5_needTooth 15 = .ok (.new 321, 3) := by decide +kernel
theorem dX5_needTooth_18 : decode cX5_needTooth 18 = .ok (.dup, 1) := by decide +kernel
theorem dX5_needTooth_19 : decode cX5_needTooth 19 = .ok (.ldc_w 323, 3) := by decide +kernel
theorem dX5_needTooth_22 : decode cX5_needTooth 22 = .ok (.invokespecial 325, 3) := by decide +kernel
theorem dX5_needTooth_25 : decode cX5_needTooth 25 = .ok (.athrow, 1) := by decide +kernel
theorem dX5_needTooth_26 : decode cX5_needTooth 26 = .ok (.return_, 1) := by decide +kernel
theorem dX5_needTune_0 : decode cX5_needTune 0 = .ok (.iload_n 1, 1) := by decide +kernel
theorem dX5_needTune_1 : decode cX5_needTune 1 = .ok (.ifCond .lt 14, 3) := by decide +kernel
theorem dX5_needTune_4 : decode cX5_needTune 4 = .ok (.iload_n 1, 1) := by decide +kernel
theorem dX5_needTune_5 : decode cX5_needTune 5 = .ok (.aload_n 0, 1) := by decide +kernel
theorem dX5_needTune_6 : decode cX5_needTune 6 = .ok (.getfield 10, 3) := by decide +kernel
theorem dX5_needTune_9 : decode cX5_needTune 9 = .ok (.getfield 69, 3) := by decide +kernel
theorem dX5_needTune_12 : decode cX5_needTune 12 = .ok (.if_icmp .lt 14, 3) := by decide +kernel
theorem dX5_needTune_15 : decode cX5_needTune 15 = .ok (.new 321, 3) := by decide +kernel
theorem dX5_needTune_18 : decode cX5_needTune 18 = .ok (.dup, 1) := by decide +kernel
theorem dX5_needTune_19 : decode cX5_needTune 19 = .ok (.ldc_w 326, 3) := by decide +kernel
theorem dX5_needTune_22 : decode cX5_needTune 22 = .ok (.invokespecial 325, 3) := by decide +kernel
theorem dX5_needTune_25 : decode cX5_needTune 25 = .ok (.athrow, 1) := by decide +kernel
theorem dX5_needTune_26 : decode cX5_needTune 26 = .ok (.return_, 1) := by decide +kernel
theorem dX5_needSound_0 : decode cX5_needSound 0 = .ok (.iload_n 1, 1) := by decide +kernel
theorem dX5_needSound_1 : decode cX5_needSound 1 = .ok (.ifCond .lt 14, 3) := by decide +kernel
theorem dX5_needSound_4 : decode cX5_needSound 4 = .ok (.iload_n 1, 1) := by decide +kernel
theorem dX5_needSound_5 : decode cX5_needSound 5 = .ok (.aload_n 0, 1) := by decide +kernel
theorem dX5_needSound_6 : decode cX5_needSound 6 = .ok (.getfield 37, 3) := by decide +kernel
theorem dX5_needSound_9 : decode cX5_needSound 9 = .ok (.getfield 251, 3) := by decide +kernel
theorem dX5_needSound_12 : decode cX5_needSound 12 = .ok (.if_icmp .lt 14, 3) := by decide +kernel
theorem dX5_needSound_15 : decode cX5_needSound 15 = .ok (.new 321, 3) := by decide +kernel
theorem dX5_needSound_18 : decode cX5_needSound 18 = .ok (.dup, 1) := by decide +kernel
theorem dX5_needSound_19 : decode cX5_needSound 19 = .ok (.ldc_w 328, 3) := by decide +kernel
theorem dX5_needSound_22 : decode cX5_needSound 22 = .ok (.invokespecial 325, 3) := by decide +kernel
theorem dX5_needSound_25 : decode cX5_needSound 25 = .ok (.athrow, 1) := by decide +kernel
theorem dX5_needSound_26 : decode cX5_needSound 26 = .ok (.return_, 1) := by decide +kernel
theorem dX5_needLine_0 : decode cX5_needLine 0 = .ok (.iload_n 0, 1) := by decide +kernel
theorem dX5_needLine_1 : decode cX5_needLine 1 = .ok (.ifCond .lt 8, 3) := by decide +kernel
theorem dX5_needLine_4 : decode cX5_needLine 4 = .ok (.iload_n 0, 1) := by decide +kernel
theorem dX5_needLine_5 : decode cX5_needLine 5 = .ok (.iconst 3, 1) := by decide +kernel
theorem dX5_needLine_6 : decode cX5_needLine 6 = .ok (.if_icmp .lt 14, 3) := by decide +kernel
theorem dX5_needLine_9 : decode cX5_needLine 9 = .ok (.new 321, 3) := by decide +kernel
theorem dX5_needLine_12 : decode cX5_needLine 12 = .ok (.dup, 1) := by decide +kernel
theorem dX5_needLine_13 : decode cX5_needLine 13 = .ok (.ldc_w 330, 3) := by decide +kernel
theorem dX5_needLine_16 : decode cX5_needLine 16 = .ok (.invokespecial 325, 3) := by decide +kernel
theorem dX5_needLine_19 : decode cX5_needLine 19 = .ok (.athrow, 1) := by decide +kernel
theorem dX5_needLine_20 : decode cX5_needLine 20 = .ok (.return_, 1) := by decide +kernel
theorem dX5_needPlace_0 : decode cX5_needPlace 0 = .ok (.iload_n 0, 1) := by decide +kernel
theorem dX5_needPlace_1 : decode cX5_needPlace 1 = .ok (.ifCond .lt 9, 3) := by decide +kernel
theorem dX5_needPlace_4 : decode cX5_needPlace 4 = .ok (.iload_n 0, 1) := by decide +kernel
theorem dX5_needPlace_5 : decode cX5_needPlace 5 = .ok (.bipush 64, 2) := by decide +kernel
theorem dX5_needPlace_7 : decode cX5_needPlace 7 = .ok (.if_icmp .lt 14, 3) := by decide +kernel
theorem dX5_needPlace_10 : decode cX5_needPlace 10 = .ok (.new 321, 3) := by decide +kernel
theorem dX5_needPlace_13 : decode cX5_needPlace 13 = .ok (.dup, 1) := by decide +kernel
theorem dX5_needPlace_14 : decode cX5_needPlace 14 = .ok (.ldc_w 332, 3) := by decide +kernel
theorem dX5_needPlace_17 : decode cX5_needPlace 17 = .ok (.invokespecial 325, 3) := by decide +kernel
theorem dX5_needPlace_20 : decode cX5_needPlace 20 = .ok (.athrow, 1) := by decide +kernel
theorem dX5_needPlace_21 : decode cX5_needPlace 21 = .ok (.return_, 1) := by decide +kernel
theorem dX5_needPitch_0 : decode cX5_needPitch 0 = .ok (.iload_n 0, 1) := by decide +kernel
theorem dX5_needPitch_1 : decode cX5_needPitch 1 = .ok (.ifCond .lt 9, 3) := by decide +kernel
theorem dX5_needPitch_4 : decode cX5_needPitch 4 = .ok (.iload_n 0, 1) := by decide +kernel
theorem dX5_needPitch_5 : decode cX5_needPitch 5 = .ok (.bipush 48, 2) := by decide +kernel
theorem dX5_needPitch_7 : decode cX5_needPitch 7 = .ok (.if_icmp .lt 14, 3) := by decide +kernel
theorem dX5_needPitch_10 : decode cX5_needPitch 10 = .ok (.new 75, 3) := by decide +kernel
theorem dX5_needPitch_13 : decode cX5_needPitch 13 = .ok (.dup, 1) := by decide +kernel
theorem dX5_needPitch_14 : decode cX5_needPitch 14 = .ok (.ldc_w 334, 3) := by decide +kernel
theorem dX5_needPitch_17 : decode cX5_needPitch 17 = .ok (.invokespecial 79, 3) := by decide +kernel
theorem dX5_needPitch_20 : decode cX5_needPitch 20 = .ok (.athrow, 1) := by decide +kernel
theorem dX5_needPitch_21 : decode cX5_needPitch 21 = .ok (.return_, 1) := by decide +kernel
theorem dX5_needKey_0 : decode cX5_needKey 0 = .ok (.iload_n 0, 1) := by decide +kernel
theorem dX5_needKey_1 : decode cX5_needKey 1 = .ok (.bipush (-24), 2) := by decide +kernel
theorem dX5_needKey_3 : decode cX5_needKey 3 = .ok (.if_icmp .lt 9, 3) := by decide +kernel
theorem dX5_needKey_6 : decode cX5_needKey 6 = .ok (.iload_n 0, 1) := by decide +kernel
theorem dX5_needKey_7 : decode cX5_needKey 7 = .ok (.bipush 24, 2) := by decide +kernel
theorem dX5_needKey_9 : decode cX5_needKey 9 = .ok (.if_icmp .le 14, 3) := by decide +kernel
theorem dX5_needKey_12 : decode cX5_needKey 12 = .ok (.new 75, 3) := by decide +kernel
theorem dX5_needKey_15 : decode cX5_needKey 15 = .ok (.dup, 1) := by decide +kernel
theorem dX5_needKey_16 : decode cX5_needKey 16 = .ok (.ldc_w 336, 3) := by decide +kernel
theorem dX5_needKey_19 : decode cX5_needKey 19 = .ok (.invokespecial 79, 3) := by decide +kernel
theorem dX5_needKey_22 : decode cX5_needKey 22 = .ok (.athrow, 1) := by decide +kernel
theorem dX5_needKey_23 : decode cX5_needKey 23 = .ok (.return_, 1) := by decide +kernel
theorem dX5_needSteps_0 : decode cX5_needSteps 0 = .ok (.iload_n 0, 1) := by decide +kernel
theorem dX5_needSteps_1 : decode cX5_needSteps 1 = .ok (.iconst 1, 1) := by decide +kernel
theorem dX5_needSteps_2 : decode cX5_needSteps 2 = .ok (.if_icmp .lt 10, 3) := by decide +kernel
theorem dX5_needSteps_5 : decode cX5_needSteps 5 = .ok (.iload_n 0, 1) := by decide +kernel
theorem dX5_needSteps_6 : decode cX5_needSteps 6 = .ok (.sipush 128, 3) := by decide +kernel
theorem dX5_needSteps_9 : decode cX5_needSteps 9 = .ok (.if_icmp .le 14, 3) := by decide +kernel
theorem dX5_needSteps_12 : decode cX5_needSteps 12 = .ok (.new 75, 3) := by decide +kernel
theorem dX5_needSteps_15 : decode cX5_needSteps 15 = .ok (.dup, 1) := by decide +kernel
theorem dX5_needSteps_16 : decode cX5_needSteps 16 = .ok (.ldc_w 338, 3) := by decide +kernel
theorem dX5_needSteps_19 : decode cX5_needSteps 19 = .ok (.invokespecial 79, 3) := by decide +kernel
theorem dX5_needSteps_22 : decode cX5_needSteps 22 = .ok (.athrow, 1) := by decide +kernel
theorem dX5_needSteps_23 : decode cX5_needSteps 23 = .ok (.return_, 1) := by decide +kernel
theorem dX5_needQuestion_0 : decode cX5_needQuestion 0 = .ok (.iload_n 0, 1) := by decide +kernel
theorem dX5_needQuestion_1 : decode cX5_needQuestion 1 = .ok (.ifCond .lt 8, 3) := by decide +kernel
theorem dX5_needQuestion_4 : decode cX5_needQuestion 4 = .ok (.iload_n 0, 1) := by decide +kernel
theorem dX5_needQuestion_5 : decode cX5_needQuestion 5 = .ok (.iload_n 1, 1) := by decide +kernel
theorem dX5_needQuestion_6 : decode cX5_needQuestion 6 = .ok (.if_icmp .lt 14, 3) := by decide +kernel
theorem dX5_needQuestion_9 : decode cX5_needQuestion 9 = .ok (.new 75, 3) := by decide +kernel
theorem dX5_needQuestion_12 : decode cX5_needQuestion 12 = .ok (.dup, 1) := by decide +kernel
theorem dX5_needQuestion_13 : decode cX5_needQuestion 13 = .ok (.ldc_w 340, 3) := by decide +kernel
theorem dX5_needQuestion_16 : decode cX5_needQuestion 16 = .ok (.invokespecial 79, 3) := by decide +kernel
theorem dX5_needQuestion_19 : decode cX5_needQuestion 19 = .ok (.athrow, 1) := by decide +kernel
theorem dX5_needQuestion_20 : decode cX5_needQuestion 20 = .ok (.return_, 1) := by decide +kernel
set_option maxRecDepth 20000 in
theorem ggJ5_init_d00df_J2_newBytesFor_77867 : GoodIn wsJ5_init_d00df wsJ2_newBytesFor_77867 := goodIn_r _ [11, 5, 12, 13, 10, 14, 15] (by decide +kernel) (by decide +kernel)
set_option maxRecDepth 20000 in
theorem gJ5_init_d00df_J2_newBytesFor_77867 : GoodIn wsJ5_init_d00df (va_wsS RJ5 26 yJ2_newBytesFor_77867 wsJ2_newBytesFor_77867) := goodIn_app (goodIn_of _ (by decide +kernel)) ggJ5_init_d00df_J2_newBytesFor_77867
theorem dJ5_init_d00df_0 : decode cJ5_init_d00df 0 = .ok (.aload_n 0, 1) := by decide +kernel
theorem dJ5_init_d00df_1 : decode cJ5_init_d00df 1 = .ok (.invokespecial 3, 3) := by decide +kernel
theorem dJ5_init_d00df_4 : decode cJ5_init_d00df 4 = .ok (.getstatic 18, 3) := by decide +kernel
theorem dJ5_init_d00df_7 : decode cJ5_init_d00df 7 = .ok (.ifCond .eq 18, 3) := by decide +kernel
theorem dJ5_init_d00df_10 : decode cJ5_init_d00df 10 = .ok (.aload_n 0, 1) := by decide +kernel
theorem dJ5_init_d00df_11 : decode cJ5_init_d00df 11 = .ok (.iload_n 1, 1) := by decide +kernel
theorem dJ5_init_d00df_12 : decode cJ5_init_d00df 12 = .ok (.newarray .byte, 2) := by decide +kernel
theorem dJ5_init_d00df_14 : decode cJ5_init_d00df 14 = .ok (.putfield 15, 3) := by decide +kernel
theorem dJ5_init_d00df_17 : decode cJ5_init_d00df 17 = .ok (.aload_n 0, 1) := by decide +kernel
theorem dJ5_init_d00df_18 : decode cJ5_init_d00df 18 = .ok (.iconst 0, 1) := by decide +kernel
theorem dJ5_init_d00df_19 : decode cJ5_init_d00df 19 = .ok (.putfield 22, 3) := by decide +kernel
theorem dJ5_init_d00df_22 : decode cJ5_init_d00df 22 = .ok (.goto 16, 3) := by decide +kernel
theorem dJ5_init_d00df_25 : decode cJ5_init_d00df 25 = .ok (.aload_n 0, 1) := by decide +kernel
theorem dJ5_init_d00df_26 : decode cJ5_init_d00df 26 = .ok (.iload_n 1, 1) := by decide +kernel
theorem dJ5_init_d00df_27 : decode cJ5_init_d00df 27 = .ok (.invokestatic 26, 3) := by decide +kernel
theorem dJ5_init_d00df_30 : decode cJ5_init_d00df 30 = .ok (.putfield 15, 3) := by decide +kernel
theorem dJ5_init_d00df_33 : decode cJ5_init_d00df 33 = .ok (.aload_n 0, 1) := by decide +kernel
theorem dJ5_init_d00df_34 : decode cJ5_init_d00df 34 = .ok (.iconst 1, 1) := by decide +kernel
theorem dJ5_init_d00df_35 : decode cJ5_init_d00df 35 = .ok (.putfield 22, 3) := by decide +kernel
theorem dJ5_init_d00df_38 : decode cJ5_init_d00df 38 = .ok (.return_, 1) := by decide +kernel
theorem dJ5_length_8abf5_0 : decode cJ5_length_8abf5 0 = .ok (.aload_n 0, 1) := by decide +kernel
theorem dJ5_length_8abf5_1 : decode cJ5_length_8abf5 1 = .ok (.getfield 79, 3) := by decide +kernel
theorem dJ5_length_8abf5_4 : decode cJ5_length_8abf5 4 = .ok (.ireturn, 1) := by decide +kernel
set_option maxRecDepth 20000 in
theorem ggJ5_ensureCapacityInternal_d00df_J5_newCapacity_0f7a4 : GoodIn wsJ5_ensureCapacityInternal_d00df wsJ5_newCapacity_0f7a4 := goodIn_r _ [8, 1, 2, 9, 10, 11, 12, 13, 14, 15, 16, 17, 18, 19, 20, 21, 40, 41, 42, 43] (by decide +kernel) (by decide +kernel)
set_option maxRecDepth 20000 in
theorem gJ5_ensureCapacityInternal_d00df_J5_newCapacity_0f7a4_u104J4 : GoodIn wsJ5_ensureCapacityInternal_d00df (va_wsU RJ5 104 RJ4 "java/lang/AbstractStringBuilder" ⟨"java/lang/AbstractStringBuilder", "newCapacity", "(I)I"⟩ yJ5_newCapacity_0f7a4 wsJ5_newCapacity_0f7a4) := goodIn_app (goodIn_of _ (by decide +kernel)) ggJ5_ensureCapacityInternal_d00df_J5_newCapacity_0f7a4
set_option maxRecDepth 20000 in
theorem ggJ5_ensureCapacityInternal_d00df_J7_copyOf_9075b : GoodIn wsJ5_ensureCapacityInternal_d00df wsJ7_copyOf_9075b := goodIn_r _ [25, 26, 27, 28, 29, 30, 31, 32, 33, 34, 16, 35, 36, 37, 38, 39] (by decide +kernel) (by decide +kernel)
set_option maxRecDepth 20000 in
theorem gJ5_ensureCapacityInternal_d00df_J7_copyOf_9075b : GoodIn wsJ5_ensureCapacityInternal_d00df (va_wsS RJ5 108 yJ7_copyOf_9075b wsJ7_copyOf_9075b) := goodIn_app (goodIn_of _ (by decide +kernel)) ggJ5_ensureCapacityInternal_d00df_J7_copyOf_9075b
theorem dJ5_ensureCapacityInternal_d00df_0 : decode cJ5_ensureCapacityInternal_d00df 0 = .ok (.aload_n 0, 1) := by decide +kernel
theorem dJ5_ensureCapacityInternal_d00df_1 : decode cJ5_ensureCapacityInternal_d00df 1 = .ok (.getfield 15, 3) := by decide +kernel
theorem dJ5_ensureCapacityInternal_d00df_4 : decode cJ5_ensureCapacityInternal_d00df 4 = .ok (.arraylength, 1) := by decide +kernel
theorem dJ5_ensureCapacityInternal_d00df_5 : decode cJ5_ensureCapacityInternal_d00df 5 = .ok (.aload_n 0, 1) := by decide +kernel
theorem dJ5_ensureCapacityInternal_d00df_6 : decode cJ5_ensureCapacityInternal_d00df 6 = .ok (.getfield 22, 3) := by decide +kernel
theorem dJ5_ensureCapacityInternal_d00df_9 : decode cJ5_ensureCapacityInternal_d00df 9 = .ok (.ishr, 1) := by decide +kernel
theorem dJ5_ensureCapacityInternal_d00df_10 : decode cJ5_ensureCapacityInternal_d00df 10 = .ok (.istore_n 2, 1) := by decide +kernel
theorem dJ5_ensureCapacityInternal_d00df_11 : decode cJ5_ensureCapacityInternal_d00df 11 = .ok (.iload_n 1, 1) := by decide +kernel
theorem dJ5_ensureCapacityInternal_d00df_12 : decode cJ5_ensureCapacityInternal_d00df 12 = .ok (.iload_n 2, 1) := by decide +kernel
theorem dJ5_ensureCapacityInternal_d00df_13 : decode cJ5_ensureCapacityInternal_d00df 13 = .ok (.isub, 1) := by decide +kernel
theorem dJ5_ensureCapacityInternal_d00df_14 : decode cJ5_ensureCapacityInternal_d00df 14 = .ok (.ifCond .le 24, 3) := by decide +kernel
theorem dJ5_ensureCapacityInternal_d00df_17 : decode cJ5_ensureCapacityInternal_d00df 17 = .ok (.aload_n 0, 1) := by decide +kernel
theorem dJ5_ensureCapacityInternal_d00df_18 : decode cJ5_ensureCapacityInternal_d00df 18 = .ok (.aload_n 0, 1) := by decide +kernel
theorem dJ5_ensureCapacityInternal_d00df_19 : decode cJ5_ensureCapacityInternal_d00df 19 = .ok (.getfield 15, 3) := by decide +kernel
theorem dJ5_ensureCapacityInternal_d00df_22 : decode cJ5_ensureCapacityInternal_d00df 22 = .ok (.aload_n 0, 1) := by decide +kernel
theorem dJ5_ensureCapacityInternal_d00df_23 : decode cJ5_ensureCapacityInternal_d00df 23 = .ok (.iload_n 1, 1) := by decide +kernel
theorem dJ5_ensureCapacityInternal_d00df_24 : decode cJ5_ensureCapacityInternal_d00df 24 = .ok (.invokevirtual 104, 3) := by decide +kernel
theorem dJ5_ensureCapacityInternal_d00df_27 : decode cJ5_ensureCapacityInternal_d00df 27 = .ok (.aload_n 0, 1) := by decide +kernel
theorem dJ5_ensureCapacityInternal_d00df_28 : decode cJ5_ensureCapacityInternal_d00df 28 = .ok (.getfield 22, 3) := by decide +kernel
theorem dJ5_ensureCapacityInternal_d00df_31 : decode cJ5_ensureCapacityInternal_d00df 31 = .ok (.ishl, 1) := by decide +kernel
theorem dJ5_ensureCapacityInternal_d00df_32 : decode cJ5_ensureCapacityInternal_d00df 32 = .ok (.invokestatic 108, 3) := by decide +kernel
theorem dJ5_ensureCapacityInternal_d00df_35 : decode cJ5_ensureCapacityInternal_d00df 35 = .ok (.putfield 15, 3) := by decide +kernel
theorem dJ5_ensureCapacityInternal_d00df_38 : decode cJ5_ensureCapacityInternal_d00df 38 = .ok (.return_, 1) := by decide +kernel
set_option maxRecDepth 20000 in
theorem ggJ5_newCapacity_0f7a4_J8_newLength_cabcc : GoodIn wsJ5_newCapacity_0f7a4 wsJ8_newLength_cabcc := goodIn_r _ [7, 8, 9, 10, 11, 12, 13, 14, 6, 15] (by decide +kernel) (by decide +kernel)
set_option maxRecDepth 20000 in
theorem gJ5_newCapacity_0f7a4_J8_newLength_cabcc : GoodIn wsJ5_newCapacity_0f7a4 (va_wsS RJ5 114 yJ8_newLength_cabcc wsJ8_newLength_cabcc) := goodIn_app (goodIn_of _ (by decide +kernel)) ggJ5_newCapacity_0f7a4_J8_newLength_cabcc
theorem dJ5_newCapacity_0f7a4_0 : decode cJ5_newCapacity_0f7a4 0 = .ok (.aload_n 0, 1) := by decide +kernel
theorem dJ5_newCapacity_0f7a4_1 : decode cJ5_newCapacity_0f7a4 1 = .ok (.getfield 15, 3) := by decide +kernel
theorem dJ5_newCapacity_0f7a4_4 : decode cJ5_newCapacity_0f7a4 4 = .ok (.arraylength, 1) := by decide +kernel
theorem dJ5_newCapacity_0f7a4_5 : decode cJ5_newCapacity_0f7a4 5 = .ok (.istore_n 2, 1) := by decide +kernel
theorem dJ5_newCapacity_0f7a4_6 : decode cJ5_newCapacity_0f7a4 6 = .ok (.iload_n 1, 1) := by decide +kernel
theorem dJ5_newCapacity_0f7a4_7 : decode cJ5_newCapacity_0f7a4 7 = .ok (.aload_n 0, 1) := by decide +kernel
theorem dJ5_newCapacity_0f7a4_8 : decode cJ5_newCapacity_0f7a4 8 = .ok (.getfield 22, 3) := by decide +kernel
theorem dJ5_newCapacity_0f7a4_11 : decode cJ5_newCapacity_0f7a4 11 = .ok (.ishl, 1) := by decide +kernel
theorem dJ5_newCapacity_0f7a4_12 : decode cJ5_newCapacity_0f7a4 12 = .ok (.istore_n 3, 1) := by decide +kernel
theorem dJ5_newCapacity_0f7a4_13 : decode cJ5_newCapacity_0f7a4 13 = .ok (.iload_n 3, 1) := by decide +kernel
theorem dJ5_newCapacity_0f7a4_14 : decode cJ5_newCapacity_0f7a4 14 = .ok (.iload_n 2, 1) := by decide +kernel
theorem dJ5_newCapacity_0f7a4_15 : decode cJ5_newCapacity_0f7a4 15 = .ok (.isub, 1) := by decide +kernel
theorem dJ5_newCapacity_0f7a4_16 : decode cJ5_newCapacity_0f7a4 16 = .ok (.istore 4, 2) := by decide +kernel
theorem dJ5_newCapacity_0f7a4_18 : decode cJ5_newCapacity_0f7a4 18 = .ok (.iload_n 2, 1) := by decide +kernel
theorem dJ5_newCapacity_0f7a4_19 : decode cJ5_newCapacity_0f7a4 19 = .ok (.iload 4, 2) := by decide +kernel
theorem dJ5_newCapacity_0f7a4_21 : decode cJ5_newCapacity_0f7a4 21 = .ok (.iload_n 2, 1) := by decide +kernel
theorem dJ5_newCapacity_0f7a4_22 : decode cJ5_newCapacity_0f7a4 22 = .ok (.iconst 2, 1) := by decide +kernel
theorem dJ5_newCapacity_0f7a4_23 : decode cJ5_newCapacity_0f7a4 23 = .ok (.aload_n 0, 1) := by decide +kernel
theorem dJ5_newCapacity_0f7a4_24 : decode cJ5_newCapacity_0f7a4 24 = .ok (.getfield 22, 3) := by decide +kernel
theorem dJ5_newCapacity_0f7a4_27 : decode cJ5_newCapacity_0f7a4 27 = .ok (.ishl, 1) := by decide +kernel
theorem dJ5_newCapacity_0f7a4_28 : decode cJ5_newCapacity_0f7a4 28 = .ok (.iadd, 1) := by decide +kernel
theorem dJ5_newCapacity_0f7a4_29 : decode cJ5_newCapacity_0f7a4 29 = .ok (.invokestatic 114, 3) := by decide +kernel
theorem dJ5_newCapacity_0f7a4_32 : decode cJ5_newCapacity_0f7a4 32 = .ok (.istore 5, 2) := by decide +kernel
theorem dJ5_newCapacity_0f7a4_34 : decode cJ5_newCapacity_0f7a4 34 = .ok (.iload 5, 2) := by decide +kernel
theorem dJ5_newCapacity_0f7a4_36 : decode cJ5_newCapacity_0f7a4 36 = .ok (.ldc 39, 2) := by decide +kernel
theorem dJ5_newCapacity_0f7a4_38 : decode cJ5_newCapacity_0f7a4 38 = .ok (.if_icmp .ne 13, 3) := by decide +kernel
theorem dJ5_newCapacity_0f7a4_41 : decode cJ5_newCapacity_0f7a4 41 = .ok (.new 120, 3) := by decide +kernel
theorem dJ5_newCapacity_0f7a4_44 : decode cJ5_newCapacity_0f7a4 44 = .ok (.dup, 1) := by decide +kernel
theorem dJ5_newCapacity_0f7a4_45 : decode cJ5_newCapacity_0f7a4 45 = .ok (.ldc 122, 2) := by decide +kernel
theorem dJ5_newCapacity_0f7a4_47 : decode cJ5_newCapacity_0f7a4 47 = .ok (.invokespecial 124, 3) := by decide +kernel
theorem dJ5_newCapacity_0f7a4_50 : decode cJ5_newCapacity_0f7a4 50 = .ok (.athrow, 1) := by decide +kernel
theorem dJ5_newCapacity_0f7a4_51 : decode cJ5_newCapacity_0f7a4 51 = .ok (.iload 5, 2) := by decide +kernel
theorem dJ5_newCapacity_0f7a4_53 : decode cJ5_newCapacity_0f7a4 53 = .ok (.aload_n 0, 1) := by decide +kernel
theorem dJ5_newCapacity_0f7a4_54 : decode cJ5_newCapacity_0f7a4 54 = .ok (.getfield 22, 3) := by decide +kernel
theorem dJ5_newCapacity_0f7a4_57 : decode cJ5_newCapacity_0f7a4 57 = .ok (.ishr, 1) := by decide +kernel
theorem dJ5_newCapacity_0f7a4_58 : decode cJ5_newCapacity_0f7a4 58 = .ok (.ireturn, 1) := by decide +kernel
set_option maxRecDepth 20000 in
theorem ggJ5_inflate_da8c8_J5_isLatin1_aae02 : GoodIn wsJ5_inflate_da8c8 wsJ5_isLatin1_aae02 := goodIn_r _ [9, 10, 3, 48, 49, 50, 51] (by decide +kernel) (by decide +kernel)
set_option maxRecDepth 20000 in
theorem gJ5_inflate_da8c8_J5_isLatin1_aae02_u83J4 : GoodIn wsJ5_inflate_da8c8 (va_wsU RJ5 83 RJ4 "java/lang/AbstractStringBuilder" ⟨"java/lang/AbstractStringBuilder", "isLatin1", "()Z"⟩ yJ5_isLatin1_aae02 wsJ5_isLatin1_aae02) := goodIn_app (goodIn_of _ (by decide +kernel)) ggJ5_inflate_da8c8_J5_isLatin1_aae02
set_option maxRecDepth 20000 in
theorem ggJ5_inflate_da8c8_J2_newBytesFor_77867 : GoodIn wsJ5_inflate_da8c8 wsJ2_newBytesFor_77867 := goodIn_r _ [14, 15, 16, 17, 13, 18, 19] (by decide +kernel) (by decide +kernel)
set_option maxRecDepth 20000 in
theorem gJ5_inflate_da8c8_J2_newBytesFor_77867 : GoodIn wsJ5_inflate_da8c8 (va_wsS RJ5 26 yJ2_newBytesFor_77867 wsJ2_newBytesFor_77867) := goodIn_app (goodIn_of _ (by decide +kernel)) ggJ5_inflate_da8c8_J2_newBytesFor_77867
set_option maxRecDepth 20000 in
theorem ggJ5_inflate_da8c8_J1_inflate_0e8fd : GoodIn wsJ5_inflate_da8c8 wsJ1_inflate_0e8fd := goodIn_r _ [23, 24, 25, 13, 26, 27, 28, 29, 30, 31, 32, 33, 34, 35, 36, 37, 38, 39, 40, 41, 42, 43, 44, 45, 46, 47] (by decide +kernel) (by decide +kernel)
set_option maxRecDepth 20000 in
theorem gJ5_inflate_da8c8_J1_inflate_0e8fd : GoodIn wsJ5_inflate_da8c8 (va_wsS RJ5 125 yJ1_inflate_0e8fd wsJ1_inflate_0e8fd) := goodIn_app (goodIn_of _ (by decide +kernel)) ggJ5_inflate_da8c8_J1_inflate_0e8fd
theorem dJ5_inflate_da8c8_0 : decode cJ5_inflate_da8c8 0 = .ok (.aload_n 0, 1) := by decide +kernel
theorem dJ5_inflate_da8c8_1 : decode cJ5_inflate_da8c8 1 = .ok (.invokevirtual 83, 3) := by decide +kernel
theorem dJ5_inflate_da8c8_4 : decode cJ5_inflate_da8c8 4 = .ok (.ifCond .ne 4, 3) := by decide +kernel
theorem dJ5_inflate_da8c8_7 : decode cJ5_inflate_da8c8 7 = .ok (.return_, 1) := by decide +kernel
theorem dJ5_inflate_da8c8_8 : decode cJ5_inflate_da8c8 8 = .ok (.aload_n 0, 1) := by decide +kernel
theorem dJ5_inflate_da8c8_9 : decode cJ5_inflate_da8c8 9 = .ok (.getfield 15, 3) := by decide +kernel
theorem dJ5_inflate_da8c8_12 : decode cJ5_inflate_da8c8 12 = .ok (.arraylength, 1) := by decide +kernel
theorem dJ5_inflate_da8c8_13 : decode cJ5_inflate_da8c8 13 = .ok (.invokestatic 26, 3) := by decide +kernel
theorem dJ5_inflate_da8c8_16 : decode cJ5_inflate_da8c8 16 = .ok (.astore_n 1, 1) := by decide +kernel
theorem dJ5_inflate_da8c8_17 : decode cJ5_inflate_da8c8 17 = .ok (.aload_n 0, 1) := by decide +kernel
