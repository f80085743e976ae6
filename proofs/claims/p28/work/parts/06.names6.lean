theorem dL_cell_15 : decode cL_cell 15 = .ok (.iconst 3, 1) := by decide +kernel
theorem dL_cell_16 : decode cL_cell 16 = .ok (.iadd, 1) := by decide +kernel
theorem dL_cell_17 : decode cL_cell 17 = .ok (.imul, 1) := by decide +kernel
theorem dL_cell_18 : decode cL_cell 18 = .ok (.ireturn, 1) := by decide +kernel
set_option maxRecDepth 20000 in
theorem ggL_law_X5_init : GoodIn wsL_law wsX5_init := goodIn_r _ [14, 15, 16, 17, 18, 19, 20, 21, 22, 23, 24, 25, 26, 27, 28, 29, 30, 31, 32, 33, 34, 35, 36, 37, 38, 39, 40, 41, 42, 43, 44, 45, 46, 47, 48, 49, 50, 51, 52, 53, 54, 55, 56, 57, 58, 59, 60, 61, 62, 63, 64, 65, 66, 67, 68, 69, 70, 71, 72, 73, 74, 75, 76, 77, 78, 79, 80, 700, 701, 702, 693, 694, 695, 696, 697, 698, 699, 703, 704, 705, 706, 707, 708, 709, 710, 711, 712, 713, 714, 715, 716, 717, 718, 719, 720, 721, 722, 723, 724, 725, 726] (by decide +kernel) (by decide +kernel)
set_option maxRecDepth 20000 in
theorem gL_law_X5_init : GoodIn wsL_law (wsX5_init) := ggL_law_X5_init
set_option maxRecDepth 20000 in
theorem ggL_law_L_cell : GoodIn wsL_law wsL_cell := goodIn_r _ [84, 85] (by decide +kernel) (by decide +kernel)
set_option maxRecDepth 20000 in
theorem gL_law_L_cell : GoodIn wsL_law (va_wsS RL 12 yL_cell wsL_cell) := goodIn_app (goodIn_of _ (by decide +kernel)) ggL_law_L_cell
set_option maxRecDepth 20000 in
theorem ggL_law_L_below : GoodIn wsL_law wsL_below := goodIn_r _ [88, 89] (by decide +kernel) (by decide +kernel)
set_option maxRecDepth 20000 in
theorem gL_law_L_below : GoodIn wsL_law (va_wsS RL 18 yL_below wsL_below) := goodIn_app (goodIn_of _ (by decide +kernel)) ggL_law_L_below
set_option maxRecDepth 20000 in
theorem ggL_law_X5_tooth : GoodIn wsL_law wsX5_tooth := goodIn_ca (goodIn_ca (goodIn_r _ [93, 94, 95, 27, 96, 97, 98, 2, 99, 100, 101, 102, 103, 104, 46, 105, 61, 106, 693, 694, 695, 696, 697, 698, 699, 714, 715, 716, 717, 718, 719] (by decide +kernel) (by decide +kernel)) (goodIn_sub (fun _ h => List.mem_append_left _ (List.mem_append_left _ (List.mem_append_right _ h))) (by decide +kernel))) (goodIn_sub (fun _ h => List.mem_append_left _ (List.mem_append_right _ h)) (by decide +kernel))
set_option maxRecDepth 20000 in
theorem gL_law_X5_tooth : GoodIn wsL_law (wsV RL 22 RX5 yX5_tooth wsX5_tooth) := goodIn_app (goodIn_of _ (by decide +kernel)) ggL_law_X5_tooth
set_option maxRecDepth 20000 in
theorem ggL_law_X5_tune : GoodIn wsL_law wsX5_tune := goodIn_ca (goodIn_r _ [110, 94, 95, 21, 111, 693, 694, 695, 696, 697, 698, 699, 700, 701, 702] (by decide +kernel) (by decide +kernel)) (goodIn_sub (fun _ h => List.mem_append_left _ (List.mem_append_left _ (List.mem_append_right _ h))) (by decide +kernel))
set_option maxRecDepth 20000 in
theorem gL_law_X5_tune : GoodIn wsL_law (wsV RL 26 RX5 yX5_tune wsX5_tune) := goodIn_app (goodIn_of _ (by decide +kernel)) ggL_law_X5_tune
set_option maxRecDepth 20000 in
theorem ggL_law_X5_ofTune : GoodIn wsL_law wsX5_ofTune := goodIn_ca (goodIn_ca (goodIn_r _ [115, 21, 116, 117, 118, 119, 2, 120, 121, 122, 111, 123, 124, 125, 100, 101, 126, 127, 128, 20, 129, 38, 130, 131, 132, 133, 39, 134, 135, 136, 137, 138, 139, 5, 140, 141, 142, 143, 144, 145, 146, 147, 148, 149, 150, 151, 152, 693, 694, 695, 696, 697, 698, 699, 700, 701, 702] (by decide +kernel) (by decide +kernel)) (goodIn_sub (fun _ h => List.mem_append_right _ h) (by decide +kernel))) (goodIn_sub (fun _ h => List.mem_append_left _ (List.mem_append_right _ h)) (by decide +kernel))
set_option maxRecDepth 20000 in
theorem gL_law_X5_ofTune : GoodIn wsL_law (wsV RL 30 RX5 yX5_ofTune wsX5_ofTune) := goodIn_app (goodIn_of _ (by decide +kernel)) ggL_law_X5_ofTune
set_option maxRecDepth 20000 in
theorem ggL_law_X5_note : GoodIn wsL_law wsX5_note := goodIn_ca (goodIn_ca (goodIn_ca (goodIn_r _ [156, 100, 101, 94, 95, 21, 116, 117, 118, 119, 2, 120, 121, 122, 111, 97, 98, 99, 157, 158, 159, 20, 160, 38, 39, 161, 162, 163, 164, 165, 166, 167, 168, 169, 170, 171, 172, 693, 694, 695, 696, 697, 698, 699, 700, 701, 702] (by decide +kernel) (by decide +kernel)) (goodIn_sub (fun _ h => List.mem_append_left _ (List.mem_append_right _ h)) (by decide +kernel))) (goodIn_sub (fun _ h => List.mem_append_left _ (List.mem_append_left _ (List.mem_append_right _ h))) (by decide +kernel))) (goodIn_sub (fun _ h => List.mem_append_right _ h) (by decide +kernel))
set_option maxRecDepth 20000 in
theorem gL_law_X5_note : GoodIn wsL_law (wsV RL 33 RX5 yX5_note wsX5_note) := goodIn_app (goodIn_of _ (by decide +kernel)) ggL_law_X5_note
set_option maxRecDepth 20000 in
theorem ggL_law_X5_many : GoodIn wsL_law wsX5_many := goodIn_ca (goodIn_r _ [176, 27, 96, 21, 111, 25, 177, 178, 179, 180, 181, 31, 182, 183, 184, 185, 186, 187, 123, 124, 2, 125, 100, 101, 188, 189, 190, 46, 191, 106, 63, 192, 193, 194, 195, 29, 196, 197, 198, 50, 199, 200, 201, 202, 203, 72, 204, 205, 206, 207, 208, 209, 210, 211, 212, 213, 693, 694, 695, 696, 697, 698, 699, 714, 715, 716, 717, 718, 719, 700, 701, 702, 703, 704, 705, 706, 707, 708, 709, 710, 711, 712, 713, 722, 723, 724, 725, 726, 720, 721] (by decide +kernel) (by decide +kernel)) (goodIn_sub (fun _ h => List.mem_append_left _ (List.mem_append_right _ h)) (by decide +kernel))
set_option maxRecDepth 20000 in
theorem gL_law_X5_many : GoodIn wsL_law (wsV RL 42 RX5 yX5_many wsX5_many) := goodIn_app (goodIn_of _ (by decide +kernel)) ggL_law_X5_many
set_option maxRecDepth 20000 in
theorem ggL_law_X5_pin : GoodIn wsL_law wsX5_pin := goodIn_ca (goodIn_ca (goodIn_r _ [217, 29, 117, 118, 119, 2, 120, 121, 122, 21, 111, 218, 219, 220, 221, 222, 223, 100, 101, 224, 225, 226, 227, 116, 27, 228, 146, 147, 20, 148, 39, 229, 131, 132, 133, 230, 231, 232, 50, 233, 234, 235, 236, 72, 237, 238, 239, 240, 204, 205, 206, 207, 208, 209, 210, 211, 212, 213, 241, 242, 243, 244, 73, 245, 246, 247, 693, 694, 695, 696, 697, 698, 699, 700, 701, 702, 714, 715, 716, 717, 718, 719, 720, 721] (by decide +kernel) (by decide +kernel)) (goodIn_sub (fun _ h => List.mem_append_right _ h) (by decide +kernel))) (goodIn_sub (fun _ h => List.mem_append_left _ (List.mem_append_right _ h)) (by decide +kernel))
set_option maxRecDepth 20000 in
theorem gL_law_X5_pin : GoodIn wsL_law (wsV RL 45 RX5 yX5_pin wsX5_pin) := goodIn_app (goodIn_of _ (by decide +kernel)) ggL_law_X5_pin
set_option maxRecDepth 20000 in
theorem ggL_law_X5_pull : GoodIn wsL_law wsX5_pull := goodIn_ca (goodIn_r _ [251, 27, 96, 29, 218, 219, 2, 220, 121, 122, 252, 253, 254, 50, 255, 72, 256, 257, 258, 259, 260, 204, 205, 206, 261, 262, 263, 264, 73, 245, 246, 247, 693, 694, 695, 696, 697, 698, 699, 714, 715, 716, 717, 718, 719, 720, 721] (by decide +kernel) (by decide +kernel)) (goodIn_sub (fun _ h => List.mem_append_right _ h) (by decide +kernel))
set_option maxRecDepth 20000 in
theorem gL_law_X5_pull : GoodIn wsL_law (wsV RL 48 RX5 yX5_pull wsX5_pull) := goodIn_app (goodIn_of _ (by decide +kernel)) ggL_law_X5_pull
set_option maxRecDepth 20000 in
theorem ggL_law_X5_shift : GoodIn wsL_law wsX5_shift := goodIn_ca (goodIn_r _ [268, 25, 178, 218, 219, 2, 220, 121, 122, 693, 694, 695, 696, 697, 698, 699, 703, 704, 705, 706, 707, 708, 709, 710, 711, 712, 713] (by decide +kernel) (by decide +kernel)) (goodIn_sub (fun _ h => List.mem_append_right _ h) (by decide +kernel))
set_option maxRecDepth 20000 in
theorem gL_law_X5_shift : GoodIn wsL_law (wsV RL 52 RX5 yX5_shift wsX5_shift) := goodIn_app (goodIn_of _ (by decide +kernel)) ggL_law_X5_shift
set_option maxRecDepth 20000 in
theorem ggL_law_X5_wind : GoodIn wsL_law wsX5_wind := goodIn_ca (goodIn_r _ [272, 100, 101, 25, 179, 186, 273, 8, 5, 9, 693, 694, 695, 696, 697, 698, 699, 703, 704, 705, 706, 707, 708, 709, 710, 711, 712, 713] (by decide +kernel) (by decide +kernel)) (goodIn_sub (fun _ h => List.mem_append_left _ (List.mem_append_right _ h)) (by decide +kernel))
set_option maxRecDepth 20000 in
theorem gL_law_X5_wind : GoodIn wsL_law (wsV RL 55 RX5 yX5_wind wsX5_wind) := goodIn_app (goodIn_of _ (by decide +kernel)) ggL_law_X5_wind
set_option maxRecDepth 20000 in
theorem ggL_law_X5_govern : GoodIn wsL_law wsX5_govern := goodIn_ca (goodIn_r _ [277, 100, 101, 25, 180, 278, 279, 280, 2, 281, 282, 283, 284, 24, 285, 286, 56, 287, 288, 693, 694, 695, 696, 697, 698, 699, 703, 704, 705, 706, 707, 708, 709, 710, 711, 712, 713] (by decide +kernel) (by decide +kernel)) (goodIn_sub (fun _ h => List.mem_append_left _ (List.mem_append_right _ h)) (by decide +kernel))
set_option maxRecDepth 20000 in
theorem gL_law_X5_govern : GoodIn wsL_law (wsV RL 61 RX5 yX5_govern wsX5_govern) := goodIn_app (goodIn_of _ (by decide +kernel)) ggL_law_X5_govern
set_option maxRecDepth 20000 in
theorem ggL_law_X5_speed : GoodIn wsL_law wsX5_speed := goodIn_r _ [281, 25, 282, 283, 284, 24, 285, 286, 56, 287, 288, 693, 694, 695, 696, 697, 698, 699, 703, 704, 705, 706, 707, 708, 709, 710, 711, 712, 713] (by decide +kernel) (by decide +kernel)
set_option maxRecDepth 20000 in
theorem gL_law_X5_speed : GoodIn wsL_law (wsV RL 65 RX5 yX5_speed wsX5_speed) := goodIn_app (goodIn_of _ (by decide +kernel)) ggL_law_X5_speed
set_option maxRecDepth 20000 in
theorem ggL_law_X5_mend : GoodIn wsL_law wsX5_mend := goodIn_r _ [293, 27, 96, 29, 294, 295, 296, 46, 297, 63, 64, 298, 299, 300, 50, 301, 73, 257, 258, 259, 260, 72, 204, 205, 206, 261, 262, 263, 264, 245, 246, 247, 693, 694, 695, 696, 697, 698, 699, 714, 715, 716, 717, 718, 719, 720, 721] (by decide +kernel) (by decide +kernel)
set_option maxRecDepth 20000 in
theorem gL_law_X5_mend : GoodIn wsL_law (wsV RL 73 RX5 yX5_mend wsX5_mend) := goodIn_app (goodIn_of _ (by decide +kernel)) ggL_law_X5_mend
set_option maxRecDepth 20000 in
theorem ggL_law_X5_ofTooth : GoodIn wsL_law wsX5_ofTooth := goodIn_ca (goodIn_ca (goodIn_r _ [305, 27, 306, 307, 308, 309, 29, 310, 311, 312, 2, 313, 121, 122, 96, 123, 124, 125, 100, 101, 196, 197, 198, 50, 199, 200, 201, 202, 203, 72, 204, 205, 206, 207, 208, 209, 210, 211, 212, 213, 693, 694, 695, 696, 697, 698, 699, 714, 715, 716, 717, 718, 719, 720, 721] (by decide +kernel) (by decide +kernel)) (goodIn_sub (fun _ h => List.mem_append_right _ h) (by decide +kernel))) (goodIn_sub (fun _ h => List.mem_append_left _ (List.mem_append_right _ h)) (by decide +kernel))
set_option maxRecDepth 20000 in
theorem gL_law_X5_ofTooth : GoodIn wsL_law (wsV RL 76 RX5 yX5_ofTooth wsX5_ofTooth) := goodIn_app (goodIn_of _ (by decide +kernel)) ggL_law_X5_ofTooth
set_option maxRecDepth 20000 in
theorem ggL_law_X5_file : GoodIn wsL_law wsX5_file := goodIn_ca (goodIn_ca (goodIn_r _ [317, 27, 306, 310, 311, 312, 2, 313, 121, 122, 96, 97, 98, 99, 100, 101, 693, 694, 695, 696, 697, 698, 699, 714, 715, 716, 717, 718, 719] (by decide +kernel) (by decide +kernel)) (goodIn_sub (fun _ h => List.mem_append_right _ h) (by decide +kernel))) (goodIn_sub (fun _ h => List.mem_append_left _ (List.mem_append_right _ h)) (by decide +kernel))
set_option maxRecDepth 20000 in
theorem gL_law_X5_file : GoodIn wsL_law (wsV RL 79 RX5 yX5_file wsX5_file) := goodIn_app (goodIn_of _ (by decide +kernel)) ggL_law_X5_file
