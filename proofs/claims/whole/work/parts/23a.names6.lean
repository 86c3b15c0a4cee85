theorem inlX0 : ∀ w ∈ wsX00, w ∈ wsL_law := fun _ h => List.mem_append_left _ (List.mem_append_left _ (List.mem_append_left _ (List.mem_append_left _ (List.mem_append_left _ (List.mem_append_left _ (List.mem_append_right _ h))))))
theorem inlX1 : ∀ w ∈ wsX10, w ∈ wsL_law := fun _ h => List.mem_append_left _ (List.mem_append_left _ (List.mem_append_left _ (List.mem_append_left _ (List.mem_append_left _ (List.mem_append_left _ (List.mem_append_left _ (List.mem_append_left _ (List.mem_append_right _ h))))))))
theorem inlX2 : ∀ w ∈ wsX20, w ∈ wsL_law := fun _ h => List.mem_append_left _ (List.mem_append_left _ (List.mem_append_left _ (List.mem_append_left _ (List.mem_append_left _ (List.mem_append_left _ (List.mem_append_left _ (List.mem_append_right _ h)))))))
theorem inlX3 : ∀ w ∈ wsX30, w ∈ wsL_law := fun _ h => List.mem_append_left _ (List.mem_append_left _ (List.mem_append_left _ (List.mem_append_left _ (List.mem_append_left _ (List.mem_append_right _ h)))))
theorem inlX4 : ∀ w ∈ wsX40, w ∈ wsL_law := fun _ h => List.mem_append_left _ (List.mem_append_left _ (List.mem_append_left _ (List.mem_append_left _ (List.mem_append_left _ (List.mem_append_left _ (List.mem_append_left _ (List.mem_append_left _ (List.mem_append_left _ (List.mem_append_left _ (List.mem_append_right _ h))))))))))
theorem inlX5 : ∀ w ∈ wsX50, w ∈ wsL_law := fun _ h => List.mem_append_left _ (List.mem_append_left _ (List.mem_append_left _ (List.mem_append_left _ (List.mem_append_left _ (List.mem_append_left _ (List.mem_append_left _ (List.mem_append_left _ (List.mem_append_left _ (List.mem_append_right _ h)))))))))
set_option maxRecDepth 20000 in
theorem ggL_law_X4_init : GoodIn wsL_law wsX4_init := goodIn_r _ [9, 10, 11, 12, 13, 14, 15, 16, 17, 18, 19, 20, 21, 22, 23, 24, 25, 26, 27, 28, 29, 30, 31, 32, 33, 34, 35, 36, 37, 38, 39, 40, 41, 42, 43, 44, 45, 46, 47, 48, 49, 50, 51, 52, 53, 54, 55, 56, 57, 58, 59, 60, 61, 62, 63, 6, 64, 65, 66, 67, 68, 701, 702, 703, 704, 705, 706, 707, 708, 709, 710, 711, 712, 713, 714, 715, 716, 717, 718, 736, 737, 738, 739, 740, 741] (by decide +kernel) (by decide +kernel)
set_option maxRecDepth 20000 in
theorem gL_law_X4_init : GoodIn wsL_law (wsX4_init) := ggL_law_X4_init
set_option maxRecDepth 20000 in
theorem ggL_law_X5_init : GoodIn wsL_law wsX5_init := goodIn_r _ [71, 72, 11, 12, 13, 73, 74, 16, 75, 76, 77, 78, 79, 80, 81, 82, 83, 84, 85, 86, 6, 87, 719, 720, 721, 722, 723, 724, 725, 726, 727, 728, 729, 730, 731, 732, 733, 734, 735] (by decide +kernel) (by decide +kernel)
set_option maxRecDepth 20000 in
theorem gL_law_X5_init : GoodIn wsL_law (wsX5_init) := ggL_law_X5_init
set_option maxRecDepth 20000 in
theorem ggL_law_L_addMember : GoodIn wsL_law wsL_addMember := goodIn_ca (goodIn_ca (goodIn_r _ [91, 92, 93, 94, 95, 96, 2, 97, 98, 99, 29, 14, 15, 17, 21, 22, 100, 101, 102, 103, 104, 105, 106, 107, 701, 702, 703, 704, 705, 706, 707, 708, 709, 710, 711, 712, 713, 714, 715, 716, 717, 718] (by decide +kernel) (by decide +kernel)) (goodIn_sub (fun _ h => List.mem_append_left _ (List.mem_append_left _ (List.mem_append_left _ (List.mem_append_right _ h)))) (by decide +kernel))) (goodIn_sub (fun _ h => List.mem_append_left _ (List.mem_append_left _ (List.mem_append_right _ h))) (by decide +kernel))
set_option maxRecDepth 20000 in
theorem gL_law_L_addMember : GoodIn wsL_law (va_wsS RL 90 yL_addMember wsL_addMember) := goodIn_app (goodIn_of _ (by decide +kernel)) ggL_law_L_addMember
set_option maxRecDepth 20000 in
theorem ggL_law_X5_addMember : GoodIn wsL_law wsX5_addMember := goodIn_r _ [111, 112, 73, 74, 79, 80, 113, 114, 5, 115, 116, 117, 118, 119, 120, 121, 122, 123, 719, 720, 721, 722, 723, 724, 725, 726, 727, 728, 729, 730, 731, 732, 733, 734, 735] (by decide +kernel) (by decide +kernel)
set_option maxRecDepth 20000 in
theorem gL_law_X5_addMember : GoodIn wsL_law (wsV RL 95 RX5 yX5_addMember wsX5_addMember) := goodIn_app (goodIn_of _ (by decide +kernel)) ggL_law_X5_addMember
set_option maxRecDepth 20000 in
theorem ggL_law_X5_thrown : GoodIn wsL_law wsX5_thrown := goodIn_r _ [127, 123, 719, 720, 721, 722, 723, 724, 725, 726, 727, 728, 729, 730, 731, 732, 733, 734, 735] (by decide +kernel) (by decide +kernel)
set_option maxRecDepth 20000 in
theorem gL_law_X5_thrown : GoodIn wsL_law (wsV RL 96 RX5 yX5_thrown wsX5_thrown) := goodIn_app (goodIn_of _ (by decide +kernel)) ggL_law_X5_thrown
set_option maxRecDepth 20000 in
theorem ggL_law_L_move : GoodIn wsL_law wsL_move := goodIn_ca (goodIn_ca (goodIn_r _ [130, 131, 92, 132, 133, 134, 2, 135, 14, 15, 136, 137, 138, 139, 140, 141, 29, 100, 101, 102, 103, 104, 105, 106, 107, 701, 702, 703, 704, 705, 706, 707, 708, 709, 710, 711, 712, 713, 714, 715, 716, 717, 718] (by decide +kernel) (by decide +kernel)) (goodIn_sub (fun _ h => List.mem_append_left _ (List.mem_append_right _ h)) (by decide +kernel))) (goodIn_sub (fun _ h => List.mem_append_left _ (List.mem_append_left _ (List.mem_append_right _ h))) (by decide +kernel))
set_option maxRecDepth 20000 in
theorem gL_law_L_move : GoodIn wsL_law (va_wsS RL 100 yL_move wsL_move) := goodIn_app (goodIn_of _ (by decide +kernel)) ggL_law_L_move
set_option maxRecDepth 20000 in
theorem ggL_law_X5_move : GoodIn wsL_law wsX5_move := goodIn_r _ [145, 73, 74, 146, 147, 148, 5, 149, 112, 116, 117, 118, 113, 114, 115, 119, 120, 121, 122, 123, 719, 720, 721, 722, 723, 724, 725, 726, 727, 728, 729, 730, 731, 732, 733, 734, 735] (by decide +kernel) (by decide +kernel)
set_option maxRecDepth 20000 in
theorem gL_law_X5_move : GoodIn wsL_law (wsV RL 103 RX5 yX5_move wsX5_move) := goodIn_app (goodIn_of _ (by decide +kernel)) ggL_law_X5_move
set_option maxRecDepth 20000 in
theorem ggL_law_L_toggle : GoodIn wsL_law wsL_toggle := goodIn_ca (goodIn_r _ [152, 131, 153, 154, 155, 2, 156, 17, 136, 137, 138, 139, 140, 141, 29, 701, 702, 703, 704, 705, 706, 707, 708, 709, 710, 711, 712, 713, 714, 715, 716, 717, 718] (by decide +kernel) (by decide +kernel)) (goodIn_sub (fun _ h => List.mem_append_left _ (List.mem_append_right _ h)) (by decide +kernel))
set_option maxRecDepth 20000 in
theorem gL_law_L_toggle : GoodIn wsL_law (va_wsS RL 104 yL_toggle wsL_toggle) := goodIn_app (goodIn_of _ (by decide +kernel)) ggL_law_L_toggle
set_option maxRecDepth 20000 in
theorem ggL_law_X5_toggle : GoodIn wsL_law wsX5_toggle := goodIn_r _ [160, 75, 146, 147, 148, 5, 149, 112, 116, 117, 118, 119, 120, 121, 122, 123, 719, 720, 721, 722, 723, 724, 725, 726, 727, 728, 729, 730, 731, 732, 733, 734, 735] (by decide +kernel) (by decide +kernel)
set_option maxRecDepth 20000 in
theorem gL_law_X5_toggle : GoodIn wsL_law (wsV RL 107 RX5 yX5_toggle wsX5_toggle) := goodIn_app (goodIn_of _ (by decide +kernel)) ggL_law_X5_toggle
set_option maxRecDepth 20000 in
theorem ggL_law_L_setPriority : GoodIn wsL_law wsL_setPriority := goodIn_ca (goodIn_ca (goodIn_r _ [163, 131, 92, 164, 165, 166, 2, 167, 18, 136, 137, 138, 139, 140, 141, 29, 103, 104, 105, 106, 107, 701, 702, 703, 704, 705, 706, 707, 708, 709, 710, 711, 712, 713, 714, 715, 716, 717, 718] (by decide +kernel) (by decide +kernel)) (goodIn_sub (fun _ h => List.mem_append_left _ (List.mem_append_right _ h)) (by decide +kernel))) (goodIn_sub (fun _ h => List.mem_append_left _ (List.mem_append_left _ (List.mem_append_right _ h))) (by decide +kernel))
set_option maxRecDepth 20000 in
theorem gL_law_L_setPriority : GoodIn wsL_law (va_wsS RL 108 yL_setPriority wsL_setPriority) := goodIn_app (goodIn_of _ (by decide +kernel)) ggL_law_L_setPriority
set_option maxRecDepth 20000 in
theorem ggL_law_X5_setPriority : GoodIn wsL_law wsX5_setPriority := goodIn_r _ [171, 76, 146, 147, 148, 5, 149, 112, 116, 117, 118, 119, 120, 121, 122, 123, 719, 720, 721, 722, 723, 724, 725, 726, 727, 728, 729, 730, 731, 732, 733, 734, 735] (by decide +kernel) (by decide +kernel)
set_option maxRecDepth 20000 in
theorem gL_law_X5_setPriority : GoodIn wsL_law (wsV RL 110 RX5 yX5_setPriority wsX5_setPriority) := goodIn_app (goodIn_of _ (by decide +kernel)) ggL_law_X5_setPriority
set_option maxRecDepth 20000 in
theorem ggL_law_L_setRange : GoodIn wsL_law wsL_setRange := goodIn_ca (goodIn_r _ [174, 92, 175, 176, 177, 2, 178, 30, 103, 104, 105, 106, 107, 701, 702, 703, 704, 705, 706, 707, 708, 709, 710, 711, 712, 713, 714, 715, 716, 717, 718] (by decide +kernel) (by decide +kernel)) (goodIn_sub (fun _ h => List.mem_append_left _ (List.mem_append_left _ (List.mem_append_right _ h))) (by decide +kernel))
set_option maxRecDepth 20000 in
theorem gL_law_L_setRange : GoodIn wsL_law (va_wsS RL 111 yL_setRange wsL_setRange) := goodIn_app (goodIn_of _ (by decide +kernel)) ggL_law_L_setRange
set_option maxRecDepth 20000 in
theorem ggL_law_X5_setRange : GoodIn wsL_law wsX5_setRange := goodIn_r _ [182, 83, 116, 117, 5, 118, 119, 120, 121, 122, 123, 719, 720, 721, 722, 723, 724, 725, 726, 727, 728, 729, 730, 731, 732, 733, 734, 735] (by decide +kernel) (by decide +kernel)
set_option maxRecDepth 20000 in
theorem gL_law_X5_setRange : GoodIn wsL_law (wsV RL 113 RX5 yX5_setRange wsX5_setRange) := goodIn_app (goodIn_of _ (by decide +kernel)) ggL_law_X5_setRange
set_option maxRecDepth 20000 in
theorem ggL_law_L_block : GoodIn wsL_law wsL_block := goodIn_ca (goodIn_ca (goodIn_r _ [185, 131, 92, 186, 187, 188, 2, 189, 28, 190, 191, 192, 193, 106, 107, 136, 137, 138, 139, 140, 141, 29, 194, 27, 195, 196, 49, 197, 198, 199, 200, 201, 202, 203, 204, 205, 206, 207, 208, 209, 210, 211, 701, 702, 703, 704, 705, 706, 707, 708, 709, 710, 711, 712, 713, 714, 715, 716, 717, 718, 736] (by decide +kernel) (by decide +kernel)) (goodIn_sub (fun _ h => List.mem_append_left _ (List.mem_append_left _ (List.mem_append_right _ h))) (by decide +kernel))) (goodIn_sub (fun _ h => List.mem_append_left _ (List.mem_append_right _ h)) (by decide +kernel))
set_option maxRecDepth 20000 in
theorem gL_law_L_block : GoodIn wsL_law (va_wsS RL 114 yL_block wsL_block) := goodIn_app (goodIn_of _ (by decide +kernel)) ggL_law_L_block
set_option maxRecDepth 20000 in
theorem ggL_law_X5_block : GoodIn wsL_law wsX5_block := goodIn_r _ [215, 81, 146, 147, 148, 5, 149, 112, 116, 117, 118, 119, 120, 121, 122, 123, 719, 720, 721, 722, 723, 724, 725, 726, 727, 728, 729, 730, 731, 732, 733, 734, 735] (by decide +kernel) (by decide +kernel)
set_option maxRecDepth 20000 in
theorem gL_law_X5_block : GoodIn wsL_law (wsV RL 116 RX5 yX5_block wsX5_block) := goodIn_app (goodIn_of _ (by decide +kernel)) ggL_law_X5_block
set_option maxRecDepth 20000 in
theorem ggL_law_X4_members : GoodIn wsL_law wsX4_members := goodIn_r _ [219, 29, 701, 702, 703, 704, 705, 706, 707, 708, 709, 710, 711, 712, 713, 714, 715, 716, 717, 718] (by decide +kernel) (by decide +kernel)
set_option maxRecDepth 20000 in
theorem gL_law_X4_members : GoodIn wsL_law (wsV RL 117 RX4 yX4_members wsX4_members) := goodIn_app (goodIn_of _ (by decide +kernel)) ggL_law_X4_members
set_option maxRecDepth 20000 in
theorem ggL_law_X5_members : GoodIn wsL_law wsX5_members := goodIn_r _ [223, 123, 112, 719, 720, 721, 722, 723, 724, 725, 726, 727, 728, 729, 730, 731, 732, 733, 734, 735] (by decide +kernel) (by decide +kernel)
set_option maxRecDepth 20000 in
theorem gL_law_X5_members : GoodIn wsL_law (wsV RL 120 RX5 yX5_members wsX5_members) := goodIn_app (goodIn_of _ (by decide +kernel)) ggL_law_X5_members
set_option maxRecDepth 20000 in
theorem ggL_law_L_xOf : GoodIn wsL_law wsL_xOf := goodIn_ca (goodIn_r _ [226, 131, 227, 228, 229, 2, 230, 14, 136, 137, 138, 139, 140, 141, 29, 701, 702, 703, 704, 705, 706, 707, 708, 709, 710, 711, 712, 713, 714, 715, 716, 717, 718] (by decide +kernel) (by decide +kernel)) (goodIn_sub (fun _ h => List.mem_append_left _ (List.mem_append_right _ h)) (by decide +kernel))
set_option maxRecDepth 20000 in
theorem gL_law_L_xOf : GoodIn wsL_law (va_wsS RL 121 yL_xOf wsL_xOf) := goodIn_app (goodIn_of _ (by decide +kernel)) ggL_law_L_xOf
set_option maxRecDepth 20000 in
theorem ggL_law_X5_xOf : GoodIn wsL_law wsX5_xOf := goodIn_r _ [234, 73, 146, 147, 148, 5, 149, 112, 116, 117, 118, 119, 120, 121, 122, 123, 719, 720, 721, 722, 723, 724, 725, 726, 727, 728, 729, 730, 731, 732, 733, 734, 735] (by decide +kernel) (by decide +kernel)
set_option maxRecDepth 20000 in
theorem gL_law_X5_xOf : GoodIn wsL_law (wsV RL 123 RX5 yX5_xOf wsX5_xOf) := goodIn_app (goodIn_of _ (by decide +kernel)) ggL_law_X5_xOf
set_option maxRecDepth 20000 in
theorem ggL_law_L_yOf : GoodIn wsL_law wsL_yOf := goodIn_ca (goodIn_r _ [237, 131, 238, 239, 240, 2, 241, 15, 136, 137, 138, 139, 140, 141, 29, 701, 702, 703, 704, 705, 706, 707, 708, 709, 710, 711, 712, 713, 714, 715, 716, 717, 718] (by decide +kernel) (by decide +kernel)) (goodIn_sub (fun _ h => List.mem_append_left _ (List.mem_append_right _ h)) (by decide +kernel))
set_option maxRecDepth 20000 in
theorem gL_law_L_yOf : GoodIn wsL_law (va_wsS RL 124 yL_yOf wsL_yOf) := goodIn_app (goodIn_of _ (by decide +kernel)) ggL_law_L_yOf
set_option maxRecDepth 20000 in
theorem ggL_law_X5_yOf : GoodIn wsL_law wsX5_yOf := goodIn_r _ [245, 74, 146, 147, 148, 5, 149, 112, 116, 117, 118, 119, 120, 121, 122, 123, 719, 720, 721, 722, 723, 724, 725, 726, 727, 728, 729, 730, 731, 732, 733, 734, 735] (by decide +kernel) (by decide +kernel)
set_option maxRecDepth 20000 in
theorem gL_law_X5_yOf : GoodIn wsL_law (wsV RL 126 RX5 yX5_yOf wsX5_yOf) := goodIn_app (goodIn_of _ (by decide +kernel)) ggL_law_X5_yOf
set_option maxRecDepth 20000 in
theorem ggL_law_L_areLinked : GoodIn wsL_law wsL_areLinked := goodIn_ca (goodIn_r _ [248, 131, 249, 250, 251, 2, 252, 136, 137, 138, 139, 140, 141, 29, 253, 254, 255, 256, 17, 28, 30, 194, 27, 195, 196, 49, 197, 198, 199, 257, 258, 259, 260, 14, 15, 701, 702, 703, 704, 705, 706, 707, 708, 709, 710, 711, 712, 713, 714, 715, 716, 717, 718, 736] (by decide +kernel) (by decide +kernel)) (goodIn_sub (fun _ h => List.mem_append_left _ (List.mem_append_right _ h)) (by decide +kernel))
set_option maxRecDepth 20000 in
theorem gL_law_L_areLinked : GoodIn wsL_law (va_wsS RL 127 yL_areLinked wsL_areLinked) := goodIn_app (goodIn_of _ (by decide +kernel)) ggL_law_L_areLinked
set_option maxRecDepth 20000 in
theorem ggL_law_X5_areLinked : GoodIn wsL_law wsX5_areLinked := goodIn_r _ [264, 146, 147, 148, 5, 149, 112, 116, 117, 118, 119, 120, 121, 122, 123, 265, 266, 267, 268, 75, 81, 83, 269, 270, 271, 272, 73, 74, 719, 720, 721, 722, 723, 724, 725, 726, 727, 728, 729, 730, 731, 732, 733, 734, 735] (by decide +kernel) (by decide +kernel)
set_option maxRecDepth 20000 in
theorem gL_law_X5_areLinked : GoodIn wsL_law (wsV RL 129 RX5 yX5_areLinked wsX5_areLinked) := goodIn_app (goodIn_of _ (by decide +kernel)) ggL_law_X5_areLinked
set_option maxRecDepth 20000 in
theorem ggL_law_X4_links : GoodIn wsL_law wsX4_links := goodIn_r _ [276, 31, 277, 278, 279, 2, 280, 29, 281, 27, 282, 283, 49, 284, 66, 67, 68, 253, 254, 255, 256, 17, 28, 30, 194, 195, 196, 197, 198, 199, 257, 258, 259, 260, 14, 15, 206, 207, 208, 209, 210, 211, 285, 286, 287, 288, 289, 290, 291, 292, 293, 294, 295, 296, 297, 298, 701, 702, 703, 704, 705, 706, 707, 708, 709, 710, 711, 712, 713, 714, 715, 716, 717, 718, 736] (by decide +kernel) (by decide +kernel)
set_option maxRecDepth 20000 in
theorem gL_law_X4_links : GoodIn wsL_law (wsV RL 130 RX4 yX4_links wsX4_links) := goodIn_app (goodIn_of _ (by decide +kernel)) ggL_law_X4_links
set_option maxRecDepth 20000 in
theorem ggL_law_X5_links : GoodIn wsL_law wsX5_links := goodIn_r _ [302, 123, 112, 303, 304, 305, 5, 306, 265, 266, 267, 268, 75, 81, 83, 269, 270, 271, 272, 73, 74, 719, 720, 721, 722, 723, 724, 725, 726, 727, 728, 729, 730, 731, 732, 733, 734, 735] (by decide +kernel) (by decide +kernel)
set_option maxRecDepth 20000 in
theorem gL_law_X5_links : GoodIn wsL_law (wsV RL 133 RX5 yX5_links wsX5_links) := goodIn_app (goodIn_of _ (by decide +kernel)) ggL_law_X5_links
set_option maxRecDepth 20000 in
theorem ggL_law_L_degree : GoodIn wsL_law wsL_degree := goodIn_ca (goodIn_r _ [309, 131, 310, 311, 312, 2, 313, 31, 136, 137, 138, 139, 140, 141, 29, 277, 278, 279, 280, 281, 27, 282, 283, 49, 284, 66, 67, 68, 253, 254, 255, 256, 17, 28, 30, 194, 195, 196, 197, 198, 199, 257, 258, 259, 260, 14, 15, 206, 207, 208, 209, 210, 211, 289, 290, 291, 292, 293, 294, 295, 296, 297, 298, 701, 702, 703, 704, 705, 706, 707, 708, 709, 710, 711, 712, 713, 714, 715, 716, 717, 718, 736] (by decide +kernel) (by decide +kernel)) (goodIn_sub (fun _ h => List.mem_append_left _ (List.mem_append_right _ h)) (by decide +kernel))
set_option maxRecDepth 20000 in
theorem gL_law_L_degree : GoodIn wsL_law (va_wsS RL 134 yL_degree wsL_degree) := goodIn_app (goodIn_of _ (by decide +kernel)) ggL_law_L_degree
set_option maxRecDepth 20000 in
theorem ggL_law_X5_degree : GoodIn wsL_law wsX5_degree := goodIn_r _ [317, 146, 147, 148, 5, 149, 112, 116, 117, 118, 119, 120, 121, 122, 123, 303, 304, 305, 306, 265, 266, 267, 268, 75, 81, 83, 269, 270, 271, 272, 73, 74, 719, 720, 721, 722, 723, 724, 725, 726, 727, 728, 729, 730, 731, 732, 733, 734, 735] (by decide +kernel) (by decide +kernel)
set_option maxRecDepth 20000 in
theorem gL_law_X5_degree : GoodIn wsL_law (wsV RL 136 RX5 yX5_degree wsX5_degree) := goodIn_app (goodIn_of _ (by decide +kernel)) ggL_law_X5_degree
set_option maxRecDepth 20000 in
theorem ggL_law_X4_groups : GoodIn wsL_law wsX4_groups := goodIn_r _ [321, 277, 278, 279, 2, 280, 31, 29, 281, 27, 282, 283, 49, 284, 66, 67, 68, 253, 254, 255, 256, 17, 28, 30, 194, 195, 196, 197, 198, 199, 257, 258, 259, 260, 14, 15, 206, 207, 208, 209, 210, 211, 322, 323, 324, 325, 326, 327, 328, 701, 702, 703, 704, 705, 706, 707, 708, 709, 710, 711, 712, 713, 714, 715, 716, 717, 718, 736] (by decide +kernel) (by decide +kernel)
set_option maxRecDepth 20000 in
theorem gL_law_X4_groups : GoodIn wsL_law (wsV RL 137 RX4 yX4_groups wsX4_groups) := goodIn_app (goodIn_of _ (by decide +kernel)) ggL_law_X4_groups
set_option maxRecDepth 20000 in
theorem ggL_law_X5_groups : GoodIn wsL_law wsX5_groups := goodIn_r _ [332, 123, 333, 334, 335, 5, 336, 112, 75, 337, 338, 339, 340, 265, 266, 267, 268, 81, 83, 269, 270, 271, 272, 73, 74, 719, 720, 721, 722, 723, 724, 725, 726, 727, 728, 729, 730, 731, 732, 733, 734, 735] (by decide +kernel) (by decide +kernel)
set_option maxRecDepth 20000 in
theorem gL_law_X5_groups : GoodIn wsL_law (wsV RL 140 RX5 yX5_groups wsX5_groups) := goodIn_app (goodIn_of _ (by decide +kernel)) ggL_law_X5_groups
set_option maxRecDepth 20000 in
theorem ggL_law_L_leader : GoodIn wsL_law wsL_leader := goodIn_ca (goodIn_r _ [343, 131, 344, 345, 346, 2, 347, 17, 31, 29, 136, 137, 138, 139, 140, 141, 277, 278, 279, 280, 281, 27, 282, 283, 49, 284, 66, 67, 68, 253, 254, 255, 256, 28, 30, 194, 195, 196, 197, 198, 199, 257, 258, 259, 260, 14, 15, 206, 207, 208, 209, 210, 211, 326, 327, 328, 348, 349, 350, 351, 18, 701, 702, 703, 704, 705, 706, 707, 708, 709, 710, 711, 712, 713, 714, 715, 716, 717, 718, 736] (by decide +kernel) (by decide +kernel)) (goodIn_sub (fun _ h => List.mem_append_left _ (List.mem_append_right _ h)) (by decide +kernel))
set_option maxRecDepth 20000 in
theorem gL_law_L_leader : GoodIn wsL_law (va_wsS RL 141 yL_leader wsL_leader) := goodIn_app (goodIn_of _ (by decide +kernel)) ggL_law_L_leader
set_option maxRecDepth 20000 in
theorem ggL_law_X5_leader : GoodIn wsL_law wsX5_leader := goodIn_r _ [355, 75, 123, 112, 76, 146, 147, 148, 5, 149, 116, 117, 118, 119, 120, 121, 122, 337, 338, 339, 340, 265, 266, 267, 268, 81, 83, 269, 270, 271, 272, 73, 74, 719, 720, 721, 722, 723, 724, 725, 726, 727, 728, 729, 730, 731, 732, 733, 734, 735] (by decide +kernel) (by decide +kernel)
set_option maxRecDepth 20000 in
theorem gL_law_X5_leader : GoodIn wsL_law (wsV RL 143 RX5 yX5_leader wsX5_leader) := goodIn_app (goodIn_of _ (by decide +kernel)) ggL_law_X5_leader
set_option maxRecDepth 20000 in
theorem ggL_law_X4_trees : GoodIn wsL_law wsX4_trees := goodIn_r _ [359, 45, 31, 277, 278, 279, 2, 280, 29, 281, 27, 282, 283, 49, 284, 66, 67, 68, 253, 254, 255, 256, 17, 28, 30, 194, 195, 196, 197, 198, 199, 257, 258, 259, 260, 14, 15, 206, 207, 208, 209, 210, 211, 360, 361, 362, 363, 364, 44, 365, 366, 367, 368, 294, 369, 370, 204, 205, 371, 372, 373, 374, 64, 375, 376, 377, 378, 289, 290, 291, 292, 293, 295, 296, 297, 298, 379, 380, 381, 382, 701, 702, 703, 704, 705, 706, 707, 708, 709, 710, 711, 712, 713, 714, 715, 716, 717, 718, 736, 741] (by decide +kernel) (by decide +kernel)
set_option maxRecDepth 20000 in
theorem gL_law_X4_trees : GoodIn wsL_law (wsV RL 144 RX4 yX4_trees wsX4_trees) := goodIn_app (goodIn_of _ (by decide +kernel)) ggL_law_X4_trees
set_option maxRecDepth 20000 in
theorem ggL_law_X5_trees : GoodIn wsL_law wsX5_trees := goodIn_r _ [386, 123, 112, 85, 75, 333, 334, 335, 5, 336, 337, 338, 339, 340, 265, 266, 267, 268, 81, 83, 269, 270, 271, 272, 73, 74, 387, 388, 389, 390, 87, 391, 303, 304, 305, 306, 719, 720, 721, 722, 723, 724, 725, 726, 727, 728, 729, 730, 731, 732, 733, 734, 735] (by decide +kernel) (by decide +kernel)
set_option maxRecDepth 20000 in
theorem gL_law_X5_trees : GoodIn wsL_law (wsV RL 148 RX5 yX5_trees wsX5_trees) := goodIn_app (goodIn_of _ (by decide +kernel)) ggL_law_X5_trees
set_option maxRecDepth 20000 in
theorem ggL_law_L_setEstimate : GoodIn wsL_law wsL_setEstimate := goodIn_ca (goodIn_ca (goodIn_r _ [394, 131, 92, 395, 396, 397, 2, 398, 19, 136, 137, 138, 139, 140, 141, 29, 399, 400, 401, 402, 403, 103, 104, 105, 106, 107, 701, 702, 703, 704, 705, 706, 707, 708, 709, 710, 711, 712, 713, 714, 715, 716, 717, 718] (by decide +kernel) (by decide +kernel)) (goodIn_sub (fun _ h => List.mem_append_left _ (List.mem_append_right _ h)) (by decide +kernel))) (goodIn_sub (fun _ h => List.mem_append_left _ (List.mem_append_left _ (List.mem_append_right _ h))) (by decide +kernel))
set_option maxRecDepth 20000 in
theorem gL_law_L_setEstimate : GoodIn wsL_law (va_wsS RL 149 yL_setEstimate wsL_setEstimate) := goodIn_app (goodIn_of _ (by decide +kernel)) ggL_law_L_setEstimate
set_option maxRecDepth 20000 in
theorem ggL_law_X5_setEstimate : GoodIn wsL_law wsX5_setEstimate := goodIn_r _ [407, 408, 409, 77, 146, 147, 148, 5, 149, 112, 116, 117, 118, 119, 120, 121, 122, 123, 719, 720, 721, 722, 723, 724, 725, 726, 727, 728, 729, 730, 731, 732, 733, 734, 735] (by decide +kernel) (by decide +kernel)
set_option maxRecDepth 20000 in
theorem gL_law_X5_setEstimate : GoodIn wsL_law (wsV RL 151 RX5 yX5_setEstimate wsX5_setEstimate) := goodIn_app (goodIn_of _ (by decide +kernel)) ggL_law_X5_setEstimate
set_option maxRecDepth 20000 in
theorem ggL_law_L_estimate : GoodIn wsL_law wsL_estimate := goodIn_ca (goodIn_r _ [412, 131, 413, 414, 415, 2, 416, 19, 136, 137, 138, 139, 140, 141, 29, 701, 702, 703, 704, 705, 706, 707, 708, 709, 710, 711, 712, 713, 714, 715, 716, 717, 718] (by decide +kernel) (by decide +kernel)) (goodIn_sub (fun _ h => List.mem_append_left _ (List.mem_append_right _ h)) (by decide +kernel))
set_option maxRecDepth 20000 in
theorem gL_law_L_estimate : GoodIn wsL_law (va_wsS RL 152 yL_estimate wsL_estimate) := goodIn_app (goodIn_of _ (by decide +kernel)) ggL_law_L_estimate
set_option maxRecDepth 20000 in
theorem ggL_law_X5_estimate : GoodIn wsL_law wsX5_estimate := goodIn_r _ [420, 77, 146, 147, 148, 5, 149, 112, 116, 117, 118, 119, 120, 121, 122, 123, 719, 720, 721, 722, 723, 724, 725, 726, 727, 728, 729, 730, 731, 732, 733, 734, 735] (by decide +kernel) (by decide +kernel)
set_option maxRecDepth 20000 in
theorem gL_law_X5_estimate : GoodIn wsL_law (wsV RL 154 RX5 yX5_estimate wsX5_estimate) := goodIn_app (goodIn_of _ (by decide +kernel)) ggL_law_X5_estimate
set_option maxRecDepth 20000 in
theorem ggL_law_L_agree : GoodIn wsL_law wsL_agree := goodIn_ca (goodIn_r _ [423, 92, 424, 425, 426, 2, 427, 428, 429, 430, 103, 104, 105, 106, 107, 277, 278, 279, 280, 31, 29, 281, 27, 282, 283, 49, 284, 66, 67, 68, 253, 254, 255, 256, 17, 28, 30, 194, 195, 196, 197, 198, 199, 257, 258, 259, 260, 14, 15, 206, 207, 208, 209, 210, 211, 431, 432, 433, 434, 32, 19, 65, 435, 436, 437, 438, 439, 440, 441, 442, 289, 290, 291, 292, 293, 294, 295, 296, 297, 298, 443, 444, 445, 446, 447, 448, 449, 450, 451, 452, 453, 701, 702, 703, 704, 705, 706, 707, 708, 709, 710, 711, 712, 713, 714, 715, 716, 717, 718, 736] (by decide +kernel) (by decide +kernel)) (goodIn_sub (fun _ h => List.mem_append_left _ (List.mem_append_left _ (List.mem_append_right _ h))) (by decide +kernel))
set_option maxRecDepth 20000 in
theorem gL_law_L_agree : GoodIn wsL_law (va_wsS RL 155 yL_agree wsL_agree) := goodIn_app (goodIn_of _ (by decide +kernel)) ggL_law_L_agree
set_option maxRecDepth 20000 in
theorem ggL_law_X5_agree : GoodIn wsL_law wsX5_agree := goodIn_r _ [457, 77, 112, 116, 117, 5, 118, 119, 120, 121, 122, 123, 458, 459, 460, 461, 84, 265, 266, 267, 268, 75, 81, 83, 269, 270, 271, 272, 73, 74, 303, 304, 305, 306, 719, 720, 721, 722, 723, 724, 725, 726, 727, 728, 729, 730, 731, 732, 733, 734, 735] (by decide +kernel) (by decide +kernel)
set_option maxRecDepth 20000 in
theorem gL_law_X5_agree : GoodIn wsL_law (wsV RL 157 RX5 yX5_agree wsX5_agree) := goodIn_app (goodIn_of _ (by decide +kernel)) ggL_law_X5_agree
set_option maxRecDepth 20000 in
theorem ggL_law_L_setSum : GoodIn wsL_law wsL_setSum := goodIn_ca (goodIn_ca (goodIn_r _ [464, 131, 92, 465, 466, 467, 2, 468, 20, 136, 137, 138, 139, 140, 141, 29, 399, 400, 401, 402, 403, 103, 104, 105, 106, 107, 701, 702, 703, 704, 705, 706, 707, 708, 709, 710, 711, 712, 713, 714, 715, 716, 717, 718] (by decide +kernel) (by decide +kernel)) (goodIn_sub (fun _ h => List.mem_append_left _ (List.mem_append_right _ h)) (by decide +kernel))) (goodIn_sub (fun _ h => List.mem_append_left _ (List.mem_append_left _ (List.mem_append_right _ h))) (by decide +kernel))
set_option maxRecDepth 20000 in
theorem gL_law_L_setSum : GoodIn wsL_law (va_wsS RL 158 yL_setSum wsL_setSum) := goodIn_app (goodIn_of _ (by decide +kernel)) ggL_law_L_setSum
set_option maxRecDepth 20000 in
theorem ggL_law_X5_setSum : GoodIn wsL_law wsX5_setSum := goodIn_r _ [472, 408, 409, 78, 146, 147, 148, 5, 149, 112, 116, 117, 118, 119, 120, 121, 122, 123, 719, 720, 721, 722, 723, 724, 725, 726, 727, 728, 729, 730, 731, 732, 733, 734, 735] (by decide +kernel) (by decide +kernel)
set_option maxRecDepth 20000 in
theorem gL_law_X5_setSum : GoodIn wsL_law (wsV RL 160 RX5 yX5_setSum wsX5_setSum) := goodIn_app (goodIn_of _ (by decide +kernel)) ggL_law_X5_setSum
set_option maxRecDepth 20000 in
theorem ggL_law_L_sum : GoodIn wsL_law wsL_sum := goodIn_ca (goodIn_r _ [475, 131, 476, 477, 478, 2, 479, 20, 136, 137, 138, 139, 140, 141, 29, 701, 702, 703, 704, 705, 706, 707, 708, 709, 710, 711, 712, 713, 714, 715, 716, 717, 718] (by decide +kernel) (by decide +kernel)) (goodIn_sub (fun _ h => List.mem_append_left _ (List.mem_append_right _ h)) (by decide +kernel))
set_option maxRecDepth 20000 in
theorem gL_law_L_sum : GoodIn wsL_law (va_wsS RL 161 yL_sum wsL_sum) := goodIn_app (goodIn_of _ (by decide +kernel)) ggL_law_L_sum
set_option maxRecDepth 20000 in
theorem ggL_law_X5_sum : GoodIn wsL_law wsX5_sum := goodIn_r _ [483, 78, 146, 147, 148, 5, 149, 112, 116, 117, 118, 119, 120, 121, 122, 123, 719, 720, 721, 722, 723, 724, 725, 726, 727, 728, 729, 730, 731, 732, 733, 734, 735] (by decide +kernel) (by decide +kernel)
set_option maxRecDepth 20000 in
theorem gL_law_X5_sum : GoodIn wsL_law (wsV RL 163 RX5 yX5_sum wsX5_sum) := goodIn_app (goodIn_of _ (by decide +kernel)) ggL_law_X5_sum
set_option maxRecDepth 20000 in
theorem ggL_law_L_weight : GoodIn wsL_law wsL_weight := goodIn_ca (goodIn_r _ [486, 131, 487, 488, 489, 2, 490, 21, 136, 137, 138, 139, 140, 141, 29, 701, 702, 703, 704, 705, 706, 707, 708, 709, 710, 711, 712, 713, 714, 715, 716, 717, 718] (by decide +kernel) (by decide +kernel)) (goodIn_sub (fun _ h => List.mem_append_left _ (List.mem_append_right _ h)) (by decide +kernel))
set_option maxRecDepth 20000 in
theorem gL_law_L_weight : GoodIn wsL_law (va_wsS RL 164 yL_weight wsL_weight) := goodIn_app (goodIn_of _ (by decide +kernel)) ggL_law_L_weight
set_option maxRecDepth 20000 in
theorem ggL_law_X5_weight : GoodIn wsL_law wsX5_weight := goodIn_r _ [494, 79, 146, 147, 148, 5, 149, 112, 116, 117, 118, 119, 120, 121, 122, 123, 719, 720, 721, 722, 723, 724, 725, 726, 727, 728, 729, 730, 731, 732, 733, 734, 735] (by decide +kernel) (by decide +kernel)
set_option maxRecDepth 20000 in
theorem gL_law_X5_weight : GoodIn wsL_law (wsV RL 166 RX5 yX5_weight wsX5_weight) := goodIn_app (goodIn_of _ (by decide +kernel)) ggL_law_X5_weight
set_option maxRecDepth 20000 in
theorem ggL_law_L_spread : GoodIn wsL_law wsL_spread := goodIn_ca (goodIn_r _ [497, 92, 498, 499, 500, 2, 501, 428, 429, 430, 103, 104, 105, 106, 107, 277, 278, 279, 280, 31, 29, 281, 27, 282, 283, 49, 284, 66, 67, 68, 253, 254, 255, 256, 17, 28, 30, 194, 195, 196, 197, 198, 199, 257, 258, 259, 260, 14, 15, 206, 207, 208, 209, 210, 211, 502, 503, 504, 505, 32, 33, 20, 21, 22, 65, 506, 507, 508, 509, 510, 511, 512, 443, 444, 445, 446, 701, 702, 703, 704, 705, 706, 707, 708, 709, 710, 711, 712, 713, 714, 715, 716, 717, 718, 736] (by decide +kernel) (by decide +kernel)) (goodIn_sub (fun _ h => List.mem_append_left _ (List.mem_append_left _ (List.mem_append_right _ h))) (by decide +kernel))
set_option maxRecDepth 20000 in
theorem gL_law_L_spread : GoodIn wsL_law (va_wsS RL 167 yL_spread wsL_spread) := goodIn_app (goodIn_of _ (by decide +kernel)) ggL_law_L_spread
set_option maxRecDepth 20000 in
theorem ggL_law_X5_spread : GoodIn wsL_law wsX5_spread := goodIn_r _ [516, 116, 117, 5, 118, 119, 120, 121, 122, 123, 517, 518, 519, 520, 112, 84, 85, 78, 79, 80, 521, 522, 523, 524, 265, 266, 267, 268, 75, 81, 83, 269, 270, 271, 272, 73, 74, 719, 720, 721, 722, 723, 724, 725, 726, 727, 728, 729, 730, 731, 732, 733, 734, 735] (by decide +kernel) (by decide +kernel)
set_option maxRecDepth 20000 in
theorem gL_law_X5_spread : GoodIn wsL_law (wsV RL 169 RX5 yX5_spread wsX5_spread) := goodIn_app (goodIn_of _ (by decide +kernel)) ggL_law_X5_spread
set_option maxRecDepth 20000 in
theorem ggL_law_L_want : GoodIn wsL_law wsL_want := goodIn_ca (goodIn_ca (goodIn_r _ [527, 131, 92, 528, 529, 530, 2, 531, 532, 24, 190, 191, 192, 193, 106, 107, 136, 137, 138, 139, 140, 141, 29, 103, 104, 105, 701, 702, 703, 704, 705, 706, 707, 708, 709, 710, 711, 712, 713, 714, 715, 716, 717, 718] (by decide +kernel) (by decide +kernel)) (goodIn_sub (fun _ h => List.mem_append_left _ (List.mem_append_left _ (List.mem_append_right _ h))) (by decide +kernel))) (goodIn_sub (fun _ h => List.mem_append_left _ (List.mem_append_right _ h)) (by decide +kernel))
set_option maxRecDepth 20000 in
theorem gL_law_L_want : GoodIn wsL_law (va_wsS RL 170 yL_want wsL_want) := goodIn_app (goodIn_of _ (by decide +kernel)) ggL_law_L_want
set_option maxRecDepth 20000 in
theorem ggL_law_X5_want : GoodIn wsL_law wsX5_want := goodIn_r _ [536, 537, 82, 116, 117, 5, 118, 146, 147, 148, 149, 112, 119, 120, 121, 122, 123, 719, 720, 721, 722, 723, 724, 725, 726, 727, 728, 729, 730, 731, 732, 733, 734, 735] (by decide +kernel) (by decide +kernel)
set_option maxRecDepth 20000 in
theorem gL_law_X5_want : GoodIn wsL_law (wsV RL 173 RX5 yX5_want wsX5_want) := goodIn_app (goodIn_of _ (by decide +kernel)) ggL_law_X5_want
set_option maxRecDepth 20000 in
theorem ggL_law_X4_error : GoodIn wsL_law wsX4_error := goodIn_r _ [541, 29, 542, 543, 441, 544, 277, 278, 279, 2, 280, 31, 281, 27, 282, 283, 49, 284, 66, 67, 68, 253, 254, 255, 256, 17, 28, 30, 194, 195, 196, 197, 198, 199, 257, 258, 259, 260, 14, 15, 206, 207, 208, 209, 210, 211, 545, 546, 547, 548, 24, 701, 702, 703, 704, 705, 706, 707, 708, 709, 710, 711, 712, 713, 714, 715, 716, 717, 718, 736] (by decide +kernel) (by decide +kernel)
set_option maxRecDepth 20000 in
theorem gL_law_X4_error : GoodIn wsL_law (wsV RL 174 RX4 yX4_error wsX4_error) := goodIn_app (goodIn_of _ (by decide +kernel)) ggL_law_X4_error
set_option maxRecDepth 20000 in
theorem ggL_law_X5_error : GoodIn wsL_law wsX5_error := goodIn_r _ [552, 123, 553, 554, 555, 5, 556, 112, 557, 558, 559, 560, 82, 265, 266, 267, 268, 75, 81, 83, 269, 270, 271, 272, 73, 74, 719, 720, 721, 722, 723, 724, 725, 726, 727, 728, 729, 730, 731, 732, 733, 734, 735] (by decide +kernel) (by decide +kernel)
set_option maxRecDepth 20000 in
theorem gL_law_X5_error : GoodIn wsL_law (wsV RL 177 RX5 yX5_error wsX5_error) := goodIn_app (goodIn_of _ (by decide +kernel)) ggL_law_X5_error
set_option maxRecDepth 20000 in
theorem ggL_law_L_settle : GoodIn wsL_law wsL_settle := goodIn_ca (goodIn_r _ [563, 92, 564, 565, 566, 2, 567, 428, 429, 430, 103, 104, 105, 106, 107, 568, 569, 570, 571, 29, 32, 14, 33, 15, 277, 278, 279, 280, 31, 281, 27, 282, 283, 49, 284, 66, 67, 68, 253, 254, 255, 256, 17, 28, 30, 194, 195, 196, 197, 198, 199, 257, 258, 259, 260, 206, 207, 208, 209, 210, 211, 572, 573, 574, 575, 576, 577, 578, 579, 580, 441, 581, 582, 583, 584, 545, 546, 547, 548, 24, 585, 586, 587, 451, 452, 453, 439, 440, 442, 588, 539, 540, 541, 542, 543, 544, 701, 702, 703, 704, 705, 706, 707, 708, 709, 710, 711, 712, 713, 714, 715, 716, 717, 718, 736] (by decide +kernel) (by decide +kernel)) (goodIn_sub (fun _ h => List.mem_append_left _ (List.mem_append_left _ (List.mem_append_right _ h))) (by decide +kernel))
set_option maxRecDepth 20000 in
theorem gL_law_L_settle : GoodIn wsL_law (va_wsS RL 178 yL_settle wsL_settle) := goodIn_app (goodIn_of _ (by decide +kernel)) ggL_law_L_settle
set_option maxRecDepth 20000 in
theorem ggL_law_X5_settle : GoodIn wsL_law wsX5_settle := goodIn_r _ [592, 116, 117, 5, 118, 119, 120, 121, 122, 123, 593, 594, 595, 596, 112, 73, 74, 84, 85, 557, 558, 559, 560, 82, 265, 266, 267, 268, 75, 81, 83, 269, 270, 271, 272, 597, 598, 599, 600, 601, 602, 603, 604, 605, 553, 554, 555, 556, 719, 720, 721, 722, 723, 724, 725, 726, 727, 728, 729, 730, 731, 732, 733, 734, 735] (by decide +kernel) (by decide +kernel)
set_option maxRecDepth 20000 in
theorem gL_law_X5_settle : GoodIn wsL_law (wsV RL 180 RX5 yX5_settle wsX5_settle) := goodIn_app (goodIn_of _ (by decide +kernel)) ggL_law_X5_settle
set_option maxRecDepth 20000 in
theorem ggL_law_X4_rank : GoodIn wsL_law wsX4_rank := goodIn_r _ [609, 37, 31, 277, 278, 279, 2, 280, 29, 281, 27, 282, 283, 49, 284, 66, 67, 68, 253, 254, 255, 256, 17, 28, 30, 194, 195, 196, 197, 198, 199, 257, 258, 259, 260, 14, 15, 206, 207, 208, 209, 210, 211, 610, 36, 611, 612, 53, 54, 613, 614, 615, 616, 617, 618, 619, 620, 621, 622, 623, 624, 625, 55, 626, 627, 628, 629, 630, 631, 632, 633, 634, 635, 636, 637, 204, 205, 701, 702, 703, 704, 705, 706, 707, 708, 709, 710, 711, 712, 713, 714, 715, 716, 717, 718, 736, 737, 738, 739] (by decide +kernel) (by decide +kernel)
set_option maxRecDepth 20000 in
theorem gL_law_X4_rank : GoodIn wsL_law (wsV RL 181 RX4 yX4_rank wsX4_rank) := goodIn_app (goodIn_of _ (by decide +kernel)) ggL_law_X4_rank
set_option maxRecDepth 20000 in
theorem ggL_law_X5_rank : GoodIn wsL_law wsX5_rank := goodIn_r _ [641, 123, 642, 643, 644, 5, 645, 86, 112, 265, 266, 267, 268, 75, 81, 83, 269, 270, 271, 272, 73, 74, 646, 647, 648, 649, 650, 651, 652, 719, 720, 721, 722, 723, 724, 725, 726, 727, 728, 729, 730, 731, 732, 733, 734, 735] (by decide +kernel) (by decide +kernel)
set_option maxRecDepth 20000 in
theorem gL_law_X5_rank : GoodIn wsL_law (wsV RL 184 RX5 yX5_rank wsX5_rank) := goodIn_app (goodIn_of _ (by decide +kernel)) ggL_law_X5_rank
set_option maxRecDepth 20000 in
theorem ggL_law_X4_rankByCounting : GoodIn wsL_law wsX4_rankByCounting := goodIn_r _ [656, 41, 31, 277, 278, 279, 2, 280, 29, 281, 27, 282, 283, 49, 284, 66, 67, 68, 253, 254, 255, 256, 17, 28, 30, 194, 195, 196, 197, 198, 199, 257, 258, 259, 260, 14, 15, 206, 207, 208, 209, 210, 211, 657, 40, 658, 659, 59, 660, 661, 662, 663, 664, 665, 293, 294, 295, 296, 297, 298, 666, 667, 668, 669, 701, 702, 703, 704, 705, 706, 707, 708, 709, 710, 711, 712, 713, 714, 715, 716, 717, 718, 736, 740] (by decide +kernel) (by decide +kernel)
set_option maxRecDepth 20000 in
theorem gL_law_X4_rankByCounting : GoodIn wsL_law (wsV RL 185 RX4 yX4_rankByCounting wsX4_rankByCounting) := goodIn_app (goodIn_of _ (by decide +kernel)) ggL_law_X4_rankByCounting
set_option maxRecDepth 20000 in
theorem ggL_law_X5_rankByCounting : GoodIn wsL_law wsX5_rankByCounting := goodIn_r _ [673, 123, 642, 643, 644, 5, 645, 86, 112, 265, 266, 267, 268, 75, 81, 83, 269, 270, 271, 272, 73, 74, 646, 647, 648, 649, 650, 651, 652, 719, 720, 721, 722, 723, 724, 725, 726, 727, 728, 729, 730, 731, 732, 733, 734, 735] (by decide +kernel) (by decide +kernel)
set_option maxRecDepth 20000 in
theorem gL_law_X5_rankByCounting : GoodIn wsL_law (wsV RL 188 RX5 yX5_rankByCounting wsX5_rankByCounting) := goodIn_app (goodIn_of _ (by decide +kernel)) ggL_law_X5_rankByCounting
set_option maxRecDepth 20000 in
theorem ggL_law_X4_isRigid : GoodIn wsL_law wsX4_isRigid := goodIn_r _ [677, 37, 31, 277, 278, 279, 2, 280, 29, 281, 27, 282, 283, 49, 284, 66, 67, 68, 253, 254, 255, 256, 17, 28, 30, 194, 195, 196, 197, 198, 199, 257, 258, 259, 260, 14, 15, 206, 207, 208, 209, 210, 211, 360, 361, 362, 363, 678, 293, 294, 295, 296, 297, 298, 322, 323, 324, 325, 326, 327, 328, 610, 36, 611, 612, 53, 54, 613, 614, 615, 616, 617, 618, 619, 620, 621, 622, 623, 624, 625, 55, 626, 627, 628, 629, 630, 631, 632, 633, 634, 635, 636, 637, 204, 205, 701, 702, 703, 704, 705, 706, 707, 708, 709, 710, 711, 712, 713, 714, 715, 716, 717, 718, 736, 737, 738, 739] (by decide +kernel) (by decide +kernel)
set_option maxRecDepth 20000 in
theorem gL_law_X4_isRigid : GoodIn wsL_law (wsV RL 189 RX4 yX4_isRigid wsX4_isRigid) := goodIn_app (goodIn_of _ (by decide +kernel)) ggL_law_X4_isRigid
set_option maxRecDepth 20000 in
theorem ggL_law_X5_isRigid : GoodIn wsL_law wsX5_isRigid := goodIn_r _ [682, 123, 333, 334, 335, 5, 336, 112, 75, 337, 338, 339, 340, 265, 266, 267, 268, 81, 83, 269, 270, 271, 272, 73, 74, 683, 684, 685, 686, 642, 643, 644, 645, 86, 646, 647, 648, 649, 650, 651, 652, 719, 720, 721, 722, 723, 724, 725, 726, 727, 728, 729, 730, 731, 732, 733, 734, 735] (by decide +kernel) (by decide +kernel)
set_option maxRecDepth 20000 in
theorem gL_law_X5_isRigid : GoodIn wsL_law (wsV RL 193 RX5 yX5_isRigid wsX5_isRigid) := goodIn_app (goodIn_of _ (by decide +kernel)) ggL_law_X5_isRigid
set_option maxRecDepth 20000 in
theorem ggL_law_L_isSpare : GoodIn wsL_law wsL_isSpare := goodIn_ca (goodIn_ca (goodIn_r _ [689, 131, 690, 691, 692, 693, 2, 694, 695, 696, 37, 31, 136, 137, 138, 139, 140, 141, 29, 253, 254, 255, 256, 17, 28, 30, 194, 27, 195, 196, 49, 197, 198, 199, 257, 258, 259, 260, 14, 15, 277, 278, 279, 280, 281, 282, 283, 284, 66, 67, 68, 206, 207, 208, 209, 210, 211, 610, 36, 611, 612, 53, 54, 613, 614, 615, 616, 617, 618, 619, 620, 621, 622, 623, 624, 625, 55, 626, 627, 628, 629, 630, 631, 632, 633, 634, 635, 636, 637, 204, 205, 200, 201, 202, 203, 701, 702, 703, 704, 705, 706, 707, 708, 709, 710, 711, 712, 713, 714, 715, 716, 717, 718, 736, 737, 738, 739] (by decide +kernel) (by decide +kernel)) (goodIn_sub (fun _ h => List.mem_append_right _ h) (by decide +kernel))) (goodIn_sub (fun _ h => List.mem_append_left _ (List.mem_append_right _ h)) (by decide +kernel))
set_option maxRecDepth 20000 in
theorem gL_law_L_isSpare : GoodIn wsL_law (va_wsS RL 194 yL_isSpare wsL_isSpare) := goodIn_app (goodIn_of _ (by decide +kernel)) ggL_law_L_isSpare
set_option maxRecDepth 20000 in
theorem ggL_law_X5_isSpare : GoodIn wsL_law wsX5_isSpare := goodIn_r _ [700, 146, 147, 148, 5, 149, 112, 116, 117, 118, 265, 266, 267, 268, 75, 81, 83, 269, 270, 271, 272, 73, 74, 119, 120, 121, 122, 123, 642, 643, 644, 645, 86, 646, 647, 648, 649, 650, 651, 652, 719, 720, 721, 722, 723, 724, 725, 726, 727, 728, 729, 730, 731, 732, 733, 734, 735] (by decide +kernel) (by decide +kernel)
set_option maxRecDepth 20000 in
theorem gL_law_X5_isSpare : GoodIn wsL_law (wsV RL 196 RX5 yX5_isSpare wsX5_isSpare) := goodIn_app (goodIn_of _ (by decide +kernel)) ggL_law_X5_isSpare
