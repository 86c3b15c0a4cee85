set_option maxRecDepth 20000 in
theorem fa_r1 : GoodIn lw_tbl wsL_law0_r1 := goodIn_p _ [62, 67, 70] (by rfl) (by decide +kernel)
set_option maxRecDepth 20000 in
theorem fa_r2 : GoodIn lw_tbl wsL_law0_r2 := goodIn_p _ [] (by rfl) (by decide +kernel)
set_option maxRecDepth 20000 in
theorem fa_r3 : GoodIn lw_tbl wsL_law0_r3 := goodIn_p _ [77, 89, 105, 115] (by rfl) (by decide +kernel)
set_option maxRecDepth 20000 in
theorem fa_r4 : GoodIn lw_tbl wsL_law0_r4 := goodIn_p _ [126, 185, 188, 191, 264, 268] (by rfl) (by decide +kernel)
set_option maxRecDepth 20000 in
theorem fa_r5 : GoodIn lw_tbl wsL_law0_r5 := goodIn_p _ [273, 277, 280, 284, 288, 291] (by rfl) (by decide +kernel)
set_option maxRecDepth 20000 in
theorem fa_r6 : GoodIn lw_tbl wsL_law0_r6 := goodIn_p _ [295, 299, 312, 303, 306, 316] (by rfl) (by decide +kernel)
set_option maxRecDepth 20000 in
theorem fa_r7 : GoodIn lw_tbl wsL_law0_r7 := goodIn_p _ [320, 323, 327, 331, 335, 338] (by rfl) (by decide +kernel)
set_option maxRecDepth 20000 in
theorem fa_r8 : GoodIn lw_tbl wsL_law0_r8 := goodIn_p _ [342, 346, 351, 354, 358, 362, 366] (by rfl) (by decide +kernel)
set_option maxRecDepth 20000 in
theorem fa_r9 : GoodIn lw_tbl wsL_law0_r9 := goodIn_p _ [373, 377, 382, 387, 391, 397] (by rfl) (by decide +kernel)
set_option maxRecDepth 20000 in
theorem fa_r10 : GoodIn lw_tbl wsL_law0_r10 := goodIn_p _ [401, 405, 411, 415, 419, 423] (by rfl) (by decide +kernel)
set_option maxRecDepth 20000 in
theorem fa_r11 : GoodIn lw_tbl wsL_law0_r11 := goodIn_p _ [430, 433, 452, 456, 460] (by rfl) (by decide +kernel)
set_option maxRecDepth 20000 in
theorem fa_r12 : GoodIn lw_tbl wsL_law0_r12 := goodIn_p _ [480, 484, 488, 491, 495, 499, 504] (by rfl) (by decide +kernel)
set_option maxRecDepth 20000 in
theorem fa_r13 : GoodIn lw_tbl wsL_law0_r13 := goodIn_p _ [509, 512, 518, 522, 526, 529] (by rfl) (by decide +kernel)
set_option maxRecDepth 20000 in
theorem fa_r14 : GoodIn lw_tbl wsL_law0_r14 := goodIn_p _ [532, 535, 538, 541, 544, 553] (by rfl) (by decide +kernel)
set_option maxRecDepth 20000 in
theorem fa_r15 : GoodIn lw_tbl wsL_law0_r15 := goodIn_p _ [557, 561, 571, 574, 565, 577] (by rfl) (by decide +kernel)
set_option maxRecDepth 20000 in
theorem fa_r16 : GoodIn lw_tbl wsL_law0_r16 := goodIn_p _ [581, 584, 587, 590, 593, 597, 601] (by rfl) (by decide +kernel)
set_option maxRecDepth 20000 in
theorem fa_r17 : GoodIn lw_tbl wsL_law0_r17 := goodIn_p _ [606, 609, 613, 617, 621, 625] (by rfl) (by decide +kernel)
set_option maxRecDepth 20000 in
theorem fa_r18 : GoodIn lw_tbl wsL_law0_r18 := goodIn_p _ [629, 633, 637, 641, 645, 649] (by rfl) (by decide +kernel)
set_option maxRecDepth 20000 in
theorem fa_r19 : GoodIn lw_tbl wsL_law0_r19 := goodIn_p _ [653, 656, 659, 662, 665, 669, 673] (by rfl) (by decide +kernel)
set_option maxRecDepth 20000 in
theorem fa_r20 : GoodIn lw_tbl wsL_law0_r20 := goodIn_p _ [677, 684, 689, 697] (by rfl) (by decide +kernel)
set_option maxRecDepth 20000 in
theorem fa_x0 : GoodIn lw_tbl wsX40 := goodIn_p _ [] (by rfl) (by decide +kernel)
set_option maxRecDepth 20000 in
theorem fa_x1 : GoodIn lw_tbl wsX10 := goodIn_p _ [] (by rfl) (by decide +kernel)
set_option maxRecDepth 20000 in
theorem fa_x2 : GoodIn lw_tbl wsX20 := goodIn_p _ [] (by rfl) (by decide +kernel)
set_option maxRecDepth 20000 in
theorem fa_x3 : GoodIn lw_tbl wsX00 := goodIn_p _ [] (by rfl) (by decide +kernel)
set_option maxRecDepth 20000 in
theorem fa_x4 : GoodIn lw_tbl wsX30 := goodIn_p _ [] (by rfl) (by decide +kernel)
set_option maxRecDepth 20000 in
theorem fa_x5 : GoodIn lw_tbl ([] : List Cond) := goodIn_p _ [] (by rfl) (by decide +kernel)
theorem wsL_law_in0 : ∀ w ∈ wsL_law0, w ∈ lw_tbl := fun w h => ((goodIn_app (goodIn_app (goodIn_app (goodIn_app (goodIn_app (goodIn_app (goodIn_app fa_r1 (goodIn_app fa_r2 (goodIn_app fa_r3 (goodIn_app fa_r4 (goodIn_app fa_r5 (goodIn_app fa_r6 (goodIn_app fa_r7 (goodIn_app fa_r8 (goodIn_app fa_r9 (goodIn_app fa_r10 (goodIn_app fa_r11 (goodIn_app fa_r12 (goodIn_app fa_r13 (goodIn_app fa_r14 (goodIn_app fa_r15 (goodIn_app fa_r16 (goodIn_app fa_r17 (goodIn_app fa_r18 (goodIn_app fa_r19 fa_r20))))))))))))))))))) fa_x0) fa_x1) fa_x2) fa_x3) fa_x4) fa_x5) w h).1
theorem wsL_law_x0 : ∀ w ∈ (vx_atS RX4 210 "java/lang/IllegalArgumentException" ["java/lang/RuntimeException", "java/lang/Exception"]).filter goodWord, w ∈ lw_tbl := by decide +kernel
theorem wsL_law_x1 : ∀ w ∈ (vx_atS RX4 98 "java/lang/IllegalStateException" ["java/lang/RuntimeException", "java/lang/Exception"]).filter goodWord, w ∈ lw_tbl := by decide +kernel
theorem wsL_law_x2 : ∀ w ∈ (vx_atS RX4 205 "java/lang/IndexOutOfBoundsException" ["java/lang/RuntimeException", "java/lang/Exception"]).filter goodWord, w ∈ lw_tbl := by decide +kernel
theorem wsL_law_x3 : ∀ w ∈ fx_at200.filter goodWord, w ∈ lw_tbl := by decide +kernel
theorem wsL_law_in : ∀ w ∈ wsL_law, w ∈ lw_tbl := fun w h => (List.mem_append.mp h).elim (fun h => (List.mem_append.mp h).elim (fun h => (List.mem_append.mp h).elim (fun h => (List.mem_append.mp h).elim (fun h => wsL_law_in0 w h) (fun h => wsL_law_x0 w h)) (fun h => wsL_law_x1 w h)) (fun h => wsL_law_x2 w h)) (fun h => wsL_law_x3 w h)
theorem inlX0 : ∀ w ∈ wsX00, w ∈ wsL_law := fun _ h => List.mem_append_left _ (List.mem_append_left _ (List.mem_append_left _ (List.mem_append_left _ (List.mem_append_left _ (List.mem_append_left _ (List.mem_append_right _ h))))))
theorem inX0 : ∀ w ∈ wsX00, w ∈ lw_tbl := fun w h => wsL_law_in w (inlX0 w h)
theorem inlX1 : ∀ w ∈ wsX10, w ∈ wsL_law := fun _ h => List.mem_append_left _ (List.mem_append_left _ (List.mem_append_left _ (List.mem_append_left _ (List.mem_append_left _ (List.mem_append_left _ (List.mem_append_left _ (List.mem_append_left _ (List.mem_append_right _ h))))))))
theorem inX1 : ∀ w ∈ wsX10, w ∈ lw_tbl := fun w h => wsL_law_in w (inlX1 w h)
theorem inlX2 : ∀ w ∈ wsX20, w ∈ wsL_law := fun _ h => List.mem_append_left _ (List.mem_append_left _ (List.mem_append_left _ (List.mem_append_left _ (List.mem_append_left _ (List.mem_append_left _ (List.mem_append_left _ (List.mem_append_right _ h)))))))
theorem inX2 : ∀ w ∈ wsX20, w ∈ lw_tbl := fun w h => wsL_law_in w (inlX2 w h)
theorem inlX3 : ∀ w ∈ wsX30, w ∈ wsL_law := fun _ h => List.mem_append_left _ (List.mem_append_left _ (List.mem_append_left _ (List.mem_append_left _ (List.mem_append_left _ (List.mem_append_right _ h)))))
theorem inX3 : ∀ w ∈ wsX30, w ∈ lw_tbl := fun w h => wsL_law_in w (inlX3 w h)
theorem inlX4 : ∀ w ∈ wsX40, w ∈ wsL_law := fun _ h => List.mem_append_left _ (List.mem_append_left _ (List.mem_append_left _ (List.mem_append_left _ (List.mem_append_left _ (List.mem_append_left _ (List.mem_append_left _ (List.mem_append_left _ (List.mem_append_left _ (List.mem_append_right _ h)))))))))
theorem inX4 : ∀ w ∈ wsX40, w ∈ lw_tbl := fun w h => wsL_law_in w (inlX4 w h)
theorem inX5 : ∀ w ∈ wsX50, w ∈ lw_tbl := by decide +kernel
theorem gqL_law_L_isHeld {big a : List Cond} {c : Cond} (hc : GoodIn big [c]) (ha : GoodIn big a) : GoodIn big (c :: a) := fun w h => (List.mem_cons.mp h).elim (fun e => hc w (by rw [e]; exact List.mem_singleton.mpr rfl)) (ha w)
set_option maxRecDepth 20000 in
theorem gqL_law_L_isHeld_0 : GoodIn wsL_law [.codeWith yL_isHeld cL_isHeld 2 (some .boolean) [(0, 4, 5, 193), (0, 4, 8, 195), (0, 4, 11, 197)]] := goodIn_r _ [3] (by rfl) (by decide +kernel)
set_option maxRecDepth 20000 in
theorem gqL_law_L_isHeld_r1 : GoodIn wsL_law wsL_isHeld_r1 := goodIn_r _ [4, 5, 6, 7, 8, 2, 9, 10, 11, 12, 13, 14, 15, 16, 17, 18, 19, 20, 21, 22, 23, 24, 25, 26] (by rfl) (by decide +kernel)
set_option maxRecDepth 20000 in
theorem gqL_law_L_isHeld_r2 : GoodIn wsL_law wsL_isHeld_r2 := goodIn_r _ [27, 28, 29, 30, 31, 32, 33, 34, 35, 36, 37, 38, 39, 40, 41, 42, 43, 44, 45, 46, 47, 48, 49, 50] (by rfl) (by decide +kernel)
set_option maxRecDepth 20000 in
theorem gqL_law_L_isHeld_r3 : GoodIn wsL_law wsL_isHeld_r3 := goodIn_r _ [51, 52, 53, 54, 55, 56, 57, 58, 59, 60, 61, 62, 63, 64, 65, 66, 67, 68, 69, 70, 71, 72, 73, 74] (by rfl) (by decide +kernel)
set_option maxRecDepth 20000 in
theorem gqL_law_L_isHeld_r4 : GoodIn wsL_law wsL_isHeld_r4 := goodIn_r _ [75, 76, 77, 78, 79, 80, 81, 82, 83, 84, 85, 86, 87, 88, 89, 90, 91, 92, 93, 94, 95, 96, 97, 98] (by rfl) (by decide +kernel)
set_option maxRecDepth 20000 in
theorem gqL_law_L_isHeld_r5 : GoodIn wsL_law wsL_isHeld_r5 := goodIn_r _ [99, 100, 101, 102, 103, 104, 105, 106, 107, 108, 109, 110, 111, 112, 113, 114, 115, 116, 117, 118, 119, 120, 121, 122] (by rfl) (by decide +kernel)
set_option maxRecDepth 20000 in
theorem gqL_law_L_isHeld_r6 : GoodIn wsL_law wsL_isHeld_r6 := goodIn_r _ [123, 124, 125, 126, 127, 128, 129, 130, 131, 132, 133, 134, 135, 136, 137, 138, 139, 140, 141, 142, 143, 144, 145, 146] (by rfl) (by decide +kernel)
set_option maxRecDepth 20000 in
theorem gqL_law_L_isHeld_r7 : GoodIn wsL_law wsL_isHeld_r7 := goodIn_r _ [147, 148, 149, 150, 151, 152, 153, 154, 155, 156, 157, 158, 159, 160, 161, 162, 163, 164, 165, 166, 167, 168, 169, 170] (by rfl) (by decide +kernel)
set_option maxRecDepth 20000 in
theorem gqL_law_L_isHeld_r8 : GoodIn wsL_law wsL_isHeld_r8 := goodIn_r _ [171, 172, 173, 174, 175, 176, 177, 178, 179, 180, 181, 182, 183, 184, 185, 186, 187, 188, 189, 190, 191, 192, 193, 194] (by rfl) (by decide +kernel)
set_option maxRecDepth 20000 in
theorem gqL_law_L_isHeld_r9 : GoodIn wsL_law wsL_isHeld_r9 := goodIn_r _ [195, 196, 197, 198, 199, 200, 201, 202, 203, 204, 205, 206, 207, 208, 209, 210, 211, 212, 213, 214, 215, 216, 217, 218] (by rfl) (by decide +kernel)
set_option maxRecDepth 20000 in
theorem gqL_law_L_isHeld_r10 : GoodIn wsL_law wsL_isHeld_r10 := goodIn_r _ [219, 220, 221, 222, 223, 224, 225, 226, 227, 228, 229, 230, 231, 232, 233, 234, 235, 236, 237, 238, 239, 240, 241, 242] (by rfl) (by decide +kernel)
set_option maxRecDepth 20000 in
theorem gqL_law_L_isHeld_r11 : GoodIn wsL_law wsL_isHeld_r11 := goodIn_r _ [243, 244, 245, 246, 247, 248, 249, 250, 251, 252, 253, 254, 255, 256, 257, 258, 259, 260, 261, 262, 263, 264, 265, 266] (by rfl) (by decide +kernel)
set_option maxRecDepth 20000 in
theorem gqL_law_L_isHeld_r12 : GoodIn wsL_law wsL_isHeld_r12 := goodIn_r _ [267, 268, 269, 270, 271, 272, 273, 274, 275, 276, 277, 278, 279, 280, 281, 282, 283, 284, 285, 286, 287, 288, 289, 290] (by rfl) (by decide +kernel)
set_option maxRecDepth 20000 in
theorem gqL_law_L_isHeld_r13 : GoodIn wsL_law wsL_isHeld_r13 := goodIn_r _ [291, 292, 293, 294, 295, 296, 297, 298, 299, 300, 301, 302, 303, 304, 305, 306, 307, 308, 309, 310, 311, 312, 313, 314] (by rfl) (by decide +kernel)
set_option maxRecDepth 20000 in
theorem gqL_law_L_isHeld_r14 : GoodIn wsL_law wsL_isHeld_r14 := goodIn_r _ [315, 316, 317, 318, 319, 320, 321, 322, 323, 324, 325, 326, 327, 328, 329, 330, 331, 332, 333, 334, 335, 336, 337, 338] (by rfl) (by decide +kernel)
set_option maxRecDepth 20000 in
theorem gqL_law_L_isHeld_r15 : GoodIn wsL_law wsL_isHeld_r15 := goodIn_r _ [339, 340, 341, 342, 343, 344, 345, 346, 347, 348, 349, 350, 351, 352, 353, 354, 355, 356, 357, 358, 359, 360, 361, 362] (by rfl) (by decide +kernel)
set_option maxRecDepth 20000 in
theorem gqL_law_L_isHeld_r16 : GoodIn wsL_law wsL_isHeld_r16 := goodIn_r _ [363, 364, 365, 366, 367, 368, 369, 370, 371, 372, 373, 374, 375, 376, 377, 378, 379, 380, 381, 382, 383, 384, 385, 386] (by rfl) (by decide +kernel)
set_option maxRecDepth 20000 in
theorem gqL_law_L_isHeld_r17 : GoodIn wsL_law wsL_isHeld_r17 := goodIn_r _ [387, 388, 389, 390, 391, 392, 393, 394, 395, 396, 397, 398, 399, 400, 401, 402, 403, 404, 405, 406, 407, 408, 409, 410] (by rfl) (by decide +kernel)
set_option maxRecDepth 20000 in
theorem gqL_law_L_isHeld_r18 : GoodIn wsL_law wsL_isHeld_r18 := goodIn_r _ [411, 412, 413, 414, 415, 416, 417, 418, 419, 420, 421, 422, 423, 424, 425, 426, 427, 428, 429, 430, 431, 432, 433, 434] (by rfl) (by decide +kernel)
set_option maxRecDepth 20000 in
theorem gqL_law_L_isHeld_r19 : GoodIn wsL_law wsL_isHeld_r19 := goodIn_r _ [435, 436, 437, 438, 439, 440, 441, 442, 443, 444, 445, 446, 447, 448, 449, 450, 451, 452, 453, 454, 455, 456, 457, 458] (by rfl) (by decide +kernel)
set_option maxRecDepth 20000 in
theorem gqL_law_L_isHeld_r20 : GoodIn wsL_law wsL_isHeld_r20 := goodIn_r _ [459, 460, 461, 462, 463, 464, 465, 466, 467, 468, 469, 470, 471, 472, 473, 474, 475, 476, 477] (by rfl) (by decide +kernel)
set_option maxRecDepth 20000 in
theorem gqL_law_L_isHeld_wsX40 : GoodIn wsL_law wsX40 := goodIn_r _ [478, 479, 480, 481, 482, 483, 484, 485, 486, 487, 488, 489, 490, 491, 492, 493, 494, 495] (by rfl) (by decide +kernel)
set_option maxRecDepth 20000 in
theorem gqL_law_L_isHeld_wsX10 : GoodIn wsL_law wsX10 := goodIn_r _ [496] (by rfl) (by decide +kernel)
set_option maxRecDepth 20000 in
theorem gqL_law_L_isHeld_wsX20 : GoodIn wsL_law wsX20 := goodIn_r _ [497, 498, 499] (by rfl) (by decide +kernel)
set_option maxRecDepth 20000 in
theorem gqL_law_L_isHeld_wsX00 : GoodIn wsL_law wsX00 := goodIn_r _ [500] (by rfl) (by decide +kernel)
set_option maxRecDepth 20000 in
theorem gqL_law_L_isHeld_wsX30 : GoodIn wsL_law wsX30 := goodIn_r _ [501] (by rfl) (by decide +kernel)
set_option maxRecDepth 20000 in
theorem ggL_law_L_isHeld : GoodIn wsL_law wsL_isHeld := goodIn_ca (goodIn_ca (goodIn_ca (goodIn_ca (gqL_law_L_isHeld gqL_law_L_isHeld_0 (goodIn_app (goodIn_app (goodIn_app (goodIn_app (goodIn_app (goodIn_app gqL_law_L_isHeld_r1 (goodIn_app gqL_law_L_isHeld_r2 (goodIn_app gqL_law_L_isHeld_r3 (goodIn_app gqL_law_L_isHeld_r4 (goodIn_app gqL_law_L_isHeld_r5 (goodIn_app gqL_law_L_isHeld_r6 (goodIn_app gqL_law_L_isHeld_r7 (goodIn_app gqL_law_L_isHeld_r8 (goodIn_app gqL_law_L_isHeld_r9 (goodIn_app gqL_law_L_isHeld_r10 (goodIn_app gqL_law_L_isHeld_r11 (goodIn_app gqL_law_L_isHeld_r12 (goodIn_app gqL_law_L_isHeld_r13 (goodIn_app gqL_law_L_isHeld_r14 (goodIn_app gqL_law_L_isHeld_r15 (goodIn_app gqL_law_L_isHeld_r16 (goodIn_app gqL_law_L_isHeld_r17 (goodIn_app gqL_law_L_isHeld_r18 (goodIn_app gqL_law_L_isHeld_r19 gqL_law_L_isHeld_r20))))))))))))))))))) gqL_law_L_isHeld_wsX40) gqL_law_L_isHeld_wsX10) gqL_law_L_isHeld_wsX20) gqL_law_L_isHeld_wsX00) gqL_law_L_isHeld_wsX30)) (goodIn_sub (fun _ h => List.mem_append_left _ (List.mem_append_left _ (List.mem_append_left _ (List.mem_append_right _ h)))) (by decide +kernel))) (goodIn_sub (fun _ h => List.mem_append_left _ (List.mem_append_left _ (List.mem_append_right _ h))) (by decide +kernel))) (goodIn_sub (fun _ h => List.mem_append_left _ (List.mem_append_right _ h)) (by decide +kernel))) (goodIn_sub (fun _ h => List.mem_append_right _ h) (by decide +kernel))
set_option maxRecDepth 20000 in
theorem gL_law_L_isHeld : GoodIn wsL_law (va_wsS RL 199 yL_isHeld wsL_isHeld) := goodIn_app (goodIn_of _ (by decide +kernel)) ggL_law_L_isHeld

