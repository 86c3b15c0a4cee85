theorem gqL_holds_L_acts {big a : List Cond} {c : Cond} (hc : GoodIn big [c]) (ha : GoodIn big a) : GoodIn big (c :: a) := fun w h => (List.mem_cons.mp h).elim (fun e => hc w (by rw [e]; exact List.mem_singleton.mpr rfl)) (ha w)
set_option maxRecDepth 20000 in
theorem gqL_holds_L_acts_0 : GoodIn wsL_holds [.code yL_acts cL_acts 12 (some .boolean)] := goodIn_r _ [242] (by rfl) (by decide +kernel)
set_option maxRecDepth 20000 in
theorem gqL_holds_L_acts_r1 : GoodIn wsL_holds wsL_acts_r1 := goodIn_r _ [243, 244, 245, 3, 246, 12, 13, 247, 248, 249, 250, 251, 252, 27, 237, 238, 239, 75, 76, 77, 78, 79, 253, 254] (by rfl) (by decide +kernel)
set_option maxRecDepth 20000 in
theorem gqL_holds_L_acts_r2 : GoodIn wsL_holds wsL_acts_r2 := goodIn_r _ [255, 256, 15, 257, 258, 259, 260, 16, 261, 262, 263, 264, 28, 265, 266, 227, 267, 268, 269, 270, 271, 26, 272, 273] (by rfl) (by decide +kernel)
set_option maxRecDepth 20000 in
theorem gqL_holds_L_acts_r3 : GoodIn wsL_holds wsL_acts_r3 := goodIn_r _ [274, 275, 92, 25, 93, 94, 47, 95, 96, 97, 276, 277, 278, 279, 171, 172, 102, 103, 104, 105, 106, 107, 280, 281] (by rfl) (by decide +kernel)
set_option maxRecDepth 20000 in
theorem gqL_holds_L_acts_r4 : GoodIn wsL_holds wsL_acts_r4 := goodIn_r _ [282, 283, 17, 284, 285, 286, 287, 288, 289, 290, 291, 292, 18, 293, 294, 295, 296, 297, 22, 298, 299, 300, 4, 301] (by rfl) (by decide +kernel)
set_option maxRecDepth 20000 in
theorem gqL_holds_L_acts_r5 : GoodIn wsL_holds wsL_acts_r5 := goodIn_r _ [302, 303, 304, 305, 306, 307, 308, 309, 310, 311, 312, 313, 314, 315, 62, 316, 317, 318, 319, 320, 321, 322, 323, 68] (by rfl) (by decide +kernel)
set_option maxRecDepth 20000 in
theorem gqL_holds_L_acts_r6 : GoodIn wsL_holds wsL_acts_r6 := goodIn_r _ [69, 70, 71, 72, 73, 74, 80, 81, 82, 83, 29, 84, 85, 86, 87, 65, 66, 67, 88, 89, 90, 91, 98, 99] (by rfl) (by decide +kernel)
set_option maxRecDepth 20000 in
theorem gqL_holds_L_acts_r7 : GoodIn wsL_holds wsL_acts_r7 := goodIn_r _ [100, 101, 108, 109, 110, 111, 30, 64, 112, 113, 114, 115, 116, 117, 118, 119, 120, 121, 122, 123, 124, 125, 126, 127] (by rfl) (by decide +kernel)
set_option maxRecDepth 20000 in
theorem gqL_holds_L_acts_r8 : GoodIn wsL_holds wsL_acts_r8 := goodIn_r _ [128, 129, 130, 131, 132, 133, 134, 135, 136, 137, 138, 139, 140, 141, 142, 143, 144, 145, 146, 147, 148, 31, 19, 20] (by rfl) (by decide +kernel)
set_option maxRecDepth 20000 in
theorem gqL_holds_L_acts_r9 : GoodIn wsL_holds wsL_acts_r9 := goodIn_r _ [149, 150, 151, 152, 153, 154, 155, 324, 325, 326, 327, 328, 329, 330, 331, 332, 333, 334, 335, 336, 337, 338, 339, 340] (by rfl) (by decide +kernel)
set_option maxRecDepth 20000 in
theorem gqL_holds_L_acts_r10 : GoodIn wsL_holds wsL_acts_r10 := goodIn_r _ [341, 342, 343, 344, 345, 346, 347, 348, 349, 350, 351, 352, 353, 354, 355, 356, 357, 358, 359, 360, 361] (by rfl) (by decide +kernel)
set_option maxRecDepth 20000 in
theorem gqL_holds_L_acts_wsX40 : GoodIn wsL_holds wsX40 := goodIn_r _ [470, 471, 472, 473, 474, 475, 476, 477, 478, 479, 480, 481, 482, 483, 484, 485, 486, 487] (by rfl) (by decide +kernel)
set_option maxRecDepth 20000 in
theorem gqL_holds_L_acts_wsX10 : GoodIn wsL_holds wsX10 := goodIn_r _ [488] (by rfl) (by decide +kernel)
set_option maxRecDepth 20000 in
theorem ggL_holds_L_acts : GoodIn wsL_holds wsL_acts := goodIn_ca (goodIn_ca (gqL_holds_L_acts gqL_holds_L_acts_0 (goodIn_app (goodIn_app (goodIn_app gqL_holds_L_acts_r1 (goodIn_app gqL_holds_L_acts_r2 (goodIn_app gqL_holds_L_acts_r3 (goodIn_app gqL_holds_L_acts_r4 (goodIn_app gqL_holds_L_acts_r5 (goodIn_app gqL_holds_L_acts_r6 (goodIn_app gqL_holds_L_acts_r7 (goodIn_app gqL_holds_L_acts_r8 (goodIn_app gqL_holds_L_acts_r9 gqL_holds_L_acts_r10))))))))) gqL_holds_L_acts_wsX40) gqL_holds_L_acts_wsX10)) (goodIn_sub (fun _ h => List.mem_cons_of_mem _ (List.mem_append_left _ (List.mem_append_right _ h))) (by decide +kernel))) (goodIn_sub (fun _ h => List.mem_cons_of_mem _ (List.mem_append_left _ (List.mem_append_left _ (List.mem_append_left _ (List.mem_append_right _ h))))) (by decide +kernel))
set_option maxRecDepth 20000 in
theorem gL_holds_L_acts : GoodIn wsL_holds (va_wsS RL 175 yL_acts wsL_acts) := goodIn_app (goodIn_of _ (by decide +kernel)) ggL_holds_L_acts
theorem gqL_isHeld_L_holds {big a : List Cond} {c : Cond} (hc : GoodIn big [c]) (ha : GoodIn big a) : GoodIn big (c :: a) := fun w h => (List.mem_cons.mp h).elim (fun e => hc w (by rw [e]; exact List.mem_singleton.mpr rfl)) (ha w)
set_option maxRecDepth 20000 in
theorem gqL_isHeld_L_holds_0 : GoodIn wsL_isHeld [.code yL_holds cL_holds 10 (some .boolean)] := goodIn_r _ [7] (by rfl) (by decide +kernel)
set_option maxRecDepth 20000 in
theorem gqL_isHeld_L_holds_r1 : GoodIn wsL_isHeld wsL_holds_r1 := goodIn_r _ [8, 9, 10, 11, 12, 13, 14, 15, 16, 17, 18, 19, 20, 21, 22, 23, 24, 25, 26, 27, 28, 29, 30, 31] (by rfl) (by decide +kernel)
set_option maxRecDepth 20000 in
theorem gqL_isHeld_L_holds_r2 : GoodIn wsL_isHeld wsL_holds_r2 := goodIn_r _ [32, 33, 34, 35, 36, 37, 38, 39, 40, 41, 42, 43, 44, 45, 46, 47, 48, 49, 50, 51, 52, 53, 54, 55] (by rfl) (by decide +kernel)
set_option maxRecDepth 20000 in
theorem gqL_isHeld_L_holds_r3 : GoodIn wsL_isHeld wsL_holds_r3 := goodIn_r _ [56, 57, 58, 59, 60, 61, 62, 63, 64, 65, 66, 67, 68, 69, 70, 71, 72, 73, 74, 75, 76, 77, 78, 79] (by rfl) (by decide +kernel)
set_option maxRecDepth 20000 in
theorem gqL_isHeld_L_holds_r4 : GoodIn wsL_isHeld wsL_holds_r4 := goodIn_r _ [80, 81, 82, 83, 84, 85, 86, 87, 88, 89, 90, 91, 92, 93, 94, 95, 96, 97, 98, 99, 100, 101, 102, 103] (by rfl) (by decide +kernel)
set_option maxRecDepth 20000 in
theorem gqL_isHeld_L_holds_r5 : GoodIn wsL_isHeld wsL_holds_r5 := goodIn_r _ [104, 105, 106, 107, 108, 109, 110, 111, 112, 113, 114, 115, 116, 117, 118, 119, 120, 121, 122, 123, 124, 125, 126, 127] (by rfl) (by decide +kernel)
set_option maxRecDepth 20000 in
theorem gqL_isHeld_L_holds_r6 : GoodIn wsL_isHeld wsL_holds_r6 := goodIn_r _ [128, 129, 130, 131, 132, 133, 134, 135, 136, 137, 138, 139, 140, 141, 142, 143, 144, 145, 146, 147, 148, 149, 150, 151] (by rfl) (by decide +kernel)
set_option maxRecDepth 20000 in
theorem gqL_isHeld_L_holds_r7 : GoodIn wsL_isHeld wsL_holds_r7 := goodIn_r _ [152, 153, 154, 155, 156, 157, 158, 159, 160, 161, 162, 163, 164, 165, 166, 167, 168, 169, 170, 171, 172, 173, 174, 175] (by rfl) (by decide +kernel)
set_option maxRecDepth 20000 in
theorem gqL_isHeld_L_holds_r8 : GoodIn wsL_isHeld wsL_holds_r8 := goodIn_r _ [176, 177, 178, 179, 180, 181, 182, 183, 184, 185, 186, 187, 188, 189, 190, 191, 192, 193, 194, 195, 196, 197, 198, 199] (by rfl) (by decide +kernel)
set_option maxRecDepth 20000 in
theorem gqL_isHeld_L_holds_r9 : GoodIn wsL_isHeld wsL_holds_r9 := goodIn_r _ [200, 201, 202, 203, 204, 205, 206, 207, 208, 209, 210, 211, 212, 213, 214, 215, 216, 217, 218, 219, 220, 221, 222, 223] (by rfl) (by decide +kernel)
set_option maxRecDepth 20000 in
theorem gqL_isHeld_L_holds_r10 : GoodIn wsL_isHeld wsL_holds_r10 := goodIn_r _ [224, 225, 226, 227, 228, 229, 230, 231, 232, 233, 6, 234, 235, 236, 237, 238, 239, 240, 241, 242, 243, 244, 245, 246] (by rfl) (by decide +kernel)
set_option maxRecDepth 20000 in
theorem gqL_isHeld_L_holds_r11 : GoodIn wsL_isHeld wsL_holds_r11 := goodIn_r _ [247, 248, 249, 250, 251, 252, 253, 254, 255, 256, 257, 258, 259, 260, 261, 262, 263, 264, 265, 266, 267, 268, 269, 270] (by rfl) (by decide +kernel)
set_option maxRecDepth 20000 in
theorem gqL_isHeld_L_holds_r12 : GoodIn wsL_isHeld wsL_holds_r12 := goodIn_r _ [271, 272, 273, 274, 275, 276, 277, 278, 279, 280, 281, 282, 283, 284, 285, 286, 287, 288, 289, 290, 291, 292, 293, 294] (by rfl) (by decide +kernel)
set_option maxRecDepth 20000 in
theorem gqL_isHeld_L_holds_r13 : GoodIn wsL_isHeld wsL_holds_r13 := goodIn_r _ [295, 296, 297, 298, 299, 300, 301, 302, 303, 304, 305, 306, 307, 308, 309, 310, 311, 312, 313, 314, 315, 316, 317, 318] (by rfl) (by decide +kernel)
set_option maxRecDepth 20000 in
theorem gqL_isHeld_L_holds_r14 : GoodIn wsL_isHeld wsL_holds_r14 := goodIn_r _ [319, 320, 321, 322, 323, 324, 325, 326, 327, 328, 329, 330, 331, 332, 333, 334, 335, 336, 337, 338, 339, 340, 341, 342] (by rfl) (by decide +kernel)
set_option maxRecDepth 20000 in
theorem gqL_isHeld_L_holds_r15 : GoodIn wsL_isHeld wsL_holds_r15 := goodIn_r _ [343, 344, 345, 346, 347, 348, 349, 350, 351, 352, 353, 354, 355, 356, 357, 358, 359, 360, 361, 362, 363, 364, 365, 366] (by rfl) (by decide +kernel)
set_option maxRecDepth 20000 in
theorem gqL_isHeld_L_holds_r16 : GoodIn wsL_isHeld wsL_holds_r16 := goodIn_r _ [367, 368, 369, 370, 371, 372, 373, 374, 375, 376, 377, 378, 379, 380, 381, 382, 383, 384, 385, 386, 387, 388, 389, 390] (by rfl) (by decide +kernel)
set_option maxRecDepth 20000 in
theorem gqL_isHeld_L_holds_r17 : GoodIn wsL_isHeld wsL_holds_r17 := goodIn_r _ [391, 392, 393, 394, 395, 396, 397, 398, 399, 400, 401, 402, 403, 404, 405, 406, 407, 408, 409, 410, 411, 412, 413, 414] (by rfl) (by decide +kernel)
set_option maxRecDepth 20000 in
theorem gqL_isHeld_L_holds_r18 : GoodIn wsL_isHeld wsL_holds_r18 := goodIn_r _ [415, 416, 417, 418, 419, 420, 421, 422, 423, 424, 425, 426, 427, 428, 429, 430, 431, 432, 433, 434, 435, 436, 437, 438] (by rfl) (by decide +kernel)
set_option maxRecDepth 20000 in
theorem gqL_isHeld_L_holds_r19 : GoodIn wsL_isHeld wsL_holds_r19 := goodIn_r _ [439, 440, 441, 442, 443, 444, 445, 446, 447, 448, 449, 450, 451, 452, 453, 454, 455, 456, 457, 458, 459, 460, 461, 462] (by rfl) (by decide +kernel)
set_option maxRecDepth 20000 in
theorem gqL_isHeld_L_holds_r20 : GoodIn wsL_isHeld wsL_holds_r20 := goodIn_r _ [463, 464, 465, 466, 467, 468, 469, 470, 471, 472, 473, 474, 475] (by rfl) (by decide +kernel)
set_option maxRecDepth 20000 in
theorem gqL_isHeld_L_holds_wsX40 : GoodIn wsL_isHeld wsX40 := goodIn_r _ [476, 477, 478, 479, 480, 481, 482, 483, 484, 485, 486, 487, 488, 489, 490, 491, 492, 493] (by rfl) (by decide +kernel)
set_option maxRecDepth 20000 in
theorem gqL_isHeld_L_holds_wsX10 : GoodIn wsL_isHeld wsX10 := goodIn_r _ [494] (by rfl) (by decide +kernel)
set_option maxRecDepth 20000 in
theorem gqL_isHeld_L_holds_wsX20 : GoodIn wsL_isHeld wsX20 := goodIn_r _ [495, 496, 497] (by rfl) (by decide +kernel)
set_option maxRecDepth 20000 in
theorem gqL_isHeld_L_holds_wsX00 : GoodIn wsL_isHeld wsX00 := goodIn_r _ [498] (by rfl) (by decide +kernel)
set_option maxRecDepth 20000 in
theorem gqL_isHeld_L_holds_wsX30 : GoodIn wsL_isHeld wsX30 := goodIn_r _ [499] (by rfl) (by decide +kernel)
set_option maxRecDepth 20000 in
theorem ggL_isHeld_L_holds : GoodIn wsL_isHeld wsL_holds := goodIn_ca (goodIn_ca (goodIn_ca (goodIn_ca (gqL_isHeld_L_holds gqL_isHeld_L_holds_0 (goodIn_app (goodIn_app (goodIn_app (goodIn_app (goodIn_app (goodIn_app gqL_isHeld_L_holds_r1 (goodIn_app gqL_isHeld_L_holds_r2 (goodIn_app gqL_isHeld_L_holds_r3 (goodIn_app gqL_isHeld_L_holds_r4 (goodIn_app gqL_isHeld_L_holds_r5 (goodIn_app gqL_isHeld_L_holds_r6 (goodIn_app gqL_isHeld_L_holds_r7 (goodIn_app gqL_isHeld_L_holds_r8 (goodIn_app gqL_isHeld_L_holds_r9 (goodIn_app gqL_isHeld_L_holds_r10 (goodIn_app gqL_isHeld_L_holds_r11 (goodIn_app gqL_isHeld_L_holds_r12 (goodIn_app gqL_isHeld_L_holds_r13 (goodIn_app gqL_isHeld_L_holds_r14 (goodIn_app gqL_isHeld_L_holds_r15 (goodIn_app gqL_isHeld_L_holds_r16 (goodIn_app gqL_isHeld_L_holds_r17 (goodIn_app gqL_isHeld_L_holds_r18 (goodIn_app gqL_isHeld_L_holds_r19 gqL_isHeld_L_holds_r20))))))))))))))))))) gqL_isHeld_L_holds_wsX40) gqL_isHeld_L_holds_wsX10) gqL_isHeld_L_holds_wsX20) gqL_isHeld_L_holds_wsX00) gqL_isHeld_L_holds_wsX30)) (goodIn_sub (fun _ h => List.mem_cons_of_mem _ (List.mem_append_left _ (List.mem_append_left _ (List.mem_append_left _ (List.mem_append_right _ h))))) (by decide +kernel))) (goodIn_sub (fun _ h => List.mem_cons_of_mem _ (List.mem_append_left _ (List.mem_append_left _ (List.mem_append_right _ h)))) (by decide +kernel))) (goodIn_sub (fun _ h => List.mem_cons_of_mem _ (List.mem_append_left _ (List.mem_append_right _ h))) (by decide +kernel))) (goodIn_sub (fun _ h => List.mem_cons_of_mem _ (List.mem_append_right _ h)) (by decide +kernel))
set_option maxRecDepth 20000 in
theorem gL_isHeld_L_holds : GoodIn wsL_isHeld (va_wsS RL 189 yL_holds wsL_holds) := goodIn_app (goodIn_of _ (by decide +kernel)) ggL_isHeld_L_holds
