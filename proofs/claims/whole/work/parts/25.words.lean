-- the law's words stand in the table: list by list
set_option maxRecDepth 20000 in
theorem fa_r1 : GoodIn lw_tbl wsL_law0_r1 := goodIn_p _ [76, 79] (by rfl) (by decide +kernel)
set_option maxRecDepth 20000 in
theorem fa_r2 : GoodIn lw_tbl wsL_law0_r2 := goodIn_p _ [86] (by rfl) (by decide +kernel)
set_option maxRecDepth 20000 in
theorem fa_r3 : GoodIn lw_tbl wsL_law0_r3 := goodIn_p _ [98, 114, 124, 135, 725] (by rfl) (by decide +kernel)
set_option maxRecDepth 20000 in
theorem fa_r4 : GoodIn lw_tbl wsL_law0_r4 := goodIn_p _ [] (by rfl) (by decide +kernel)
set_option maxRecDepth 20000 in
theorem fa_r5 : GoodIn lw_tbl wsL_law0_r5 := goodIn_p _ [373, 376, 379, 786, 789, 792] (by rfl) (by decide +kernel)
set_option maxRecDepth 20000 in
theorem fa_r6 : GoodIn lw_tbl wsL_law0_r6 := goodIn_p _ [796, 782, 472, 476] (by rfl) (by decide +kernel)
set_option maxRecDepth 20000 in
theorem fa_r7 : GoodIn lw_tbl wsL_law0_r7 := goodIn_p _ [800, 804, 499, 808, 506] (by rfl) (by decide +kernel)
set_option maxRecDepth 20000 in
theorem fa_r8 : GoodIn lw_tbl wsL_law0_r8 := goodIn_p _ [812, 513, 816, 520] (by rfl) (by decide +kernel)
set_option maxRecDepth 20000 in
theorem fa_r9 : GoodIn lw_tbl wsL_law0_r9 := goodIn_p _ [524, 215, 218, 529, 276, 226, 229, 820] (by rfl) (by decide +kernel)
set_option maxRecDepth 20000 in
theorem fa_r10 : GoodIn lw_tbl wsL_law0_r10 := goodIn_p _ [194, 824, 537, 828] (by rfl) (by decide +kernel)
set_option maxRecDepth 20000 in
theorem fa_r11 : GoodIn lw_tbl wsL_law0_r11 := goodIn_p _ [544, 832, 551, 211, 222] (by rfl) (by decide +kernel)
set_option maxRecDepth 20000 in
theorem fa_r12 : GoodIn lw_tbl wsL_law0_r12 := goodIn_p _ [836, 840, 844, 198, 202, 206, 233] (by rfl) (by decide +kernel)
set_option maxRecDepth 20000 in
theorem fa_r13 : GoodIn lw_tbl wsL_law0_r13 := goodIn_p _ [237, 240, 848, 852] (by rfl) (by decide +kernel)
set_option maxRecDepth 20000 in
theorem fa_r14 : GoodIn lw_tbl wsL_law0_r14 := goodIn_p _ [558, 856, 247, 251, 256, 860] (by rfl) (by decide +kernel)
set_option maxRecDepth 20000 in
theorem fa_r15 : GoodIn lw_tbl wsL_law0_r15 := goodIn_p _ [864, 868, 566, 570, 872, 260] (by rfl) (by decide +kernel)
set_option maxRecDepth 20000 in
theorem fa_r16 : GoodIn lw_tbl wsL_law0_r16 := goodIn_p _ [264, 269, 272, 280, 284, 291] (by rfl) (by decide +kernel)
set_option maxRecDepth 20000 in
theorem fa_r17 : GoodIn lw_tbl wsL_law0_r17 := goodIn_p _ [876, 880, 577, 580, 885] (by rfl) (by decide +kernel)
set_option maxRecDepth 20000 in
theorem fa_r18 : GoodIn lw_tbl wsL_law0_r18 := goodIn_p _ [589, 891, 596, 599] (by rfl) (by decide +kernel)
set_option maxRecDepth 20000 in
theorem fa_r19 : GoodIn lw_tbl wsL_law0_r19 := goodIn_p _ [603, 607, 610, 614, 618, 621] (by rfl) (by decide +kernel)
set_option maxRecDepth 20000 in
theorem fa_r20 : GoodIn lw_tbl wsL_law0_r20 := goodIn_p _ [895, 899, 628, 903, 635] (by rfl) (by decide +kernel)
set_option maxRecDepth 20000 in
theorem fa_r21 : GoodIn lw_tbl wsL_law0_r21 := goodIn_p _ [907, 642, 911, 649] (by rfl) (by decide +kernel)
set_option maxRecDepth 20000 in
theorem fa_r22 : GoodIn lw_tbl wsL_law0_r22 := goodIn_p _ [653, 657, 660, 915, 919, 923] (by rfl) (by decide +kernel)
set_option maxRecDepth 20000 in
theorem fa_r23 : GoodIn lw_tbl wsL_law0_r23 := goodIn_p _ [667, 927, 295, 302, 299] (by rfl) (by decide +kernel)
set_option maxRecDepth 20000 in
theorem fa_r24 : GoodIn lw_tbl wsL_law0_r24 := goodIn_p _ [932, 936, 940, 675, 679, 683] (by rfl) (by decide +kernel)
set_option maxRecDepth 20000 in
theorem fa_r25 : GoodIn lw_tbl wsL_law0_r25 := goodIn_p _ [689, 692, 695, 944, 948, 951] (by rfl) (by decide +kernel)
set_option maxRecDepth 20000 in
theorem fa_r26 : GoodIn lw_tbl wsL_law0_r26 := goodIn_p _ [957, 306, 310, 316, 320] (by rfl) (by decide +kernel)
set_option maxRecDepth 20000 in
theorem fa_r27 : GoodIn lw_tbl wsL_law0_r27 := goodIn_p _ [324, 330, 334, 338, 961, 965] (by rfl) (by decide +kernel)
set_option maxRecDepth 20000 in
theorem fa_r28 : GoodIn lw_tbl wsL_law0_r28 := goodIn_p _ [969, 972, 343, 347, 354, 359] (by rfl) (by decide +kernel)
set_option maxRecDepth 20000 in
theorem fa_r29 : GoodIn lw_tbl wsL_law0_r29 := goodIn_p _ [976, 363, 980, 984, 704] (by rfl) (by decide +kernel)
set_option maxRecDepth 20000 in
theorem fa_r30 : GoodIn lw_tbl wsL_law0_r30 := goodIn_p _ [988] (by rfl) (by decide +kernel)
set_option maxRecDepth 20000 in
theorem fa_x4 : GoodIn lw_tbl wsX40 := goodIn_p _ [] (by rfl) (by decide +kernel)
set_option maxRecDepth 20000 in
theorem fa_x5 : GoodIn lw_tbl wsX50 := goodIn_p _ [] (by rfl) (by decide +kernel)
set_option maxRecDepth 20000 in
theorem fa_x1 : GoodIn lw_tbl wsX10 := goodIn_p _ [] (by rfl) (by decide +kernel)
set_option maxRecDepth 20000 in
theorem fa_x2 : GoodIn lw_tbl wsX20 := goodIn_p _ [] (by rfl) (by decide +kernel)
set_option maxRecDepth 20000 in
theorem fa_x0 : GoodIn lw_tbl wsX00 := goodIn_p _ [] (by rfl) (by decide +kernel)
set_option maxRecDepth 20000 in
theorem fa_x3 : GoodIn lw_tbl wsX30 := goodIn_p _ [] (by rfl) (by decide +kernel)
set_option maxRecDepth 20000 in
theorem fa_all : GoodIn lw_tbl wsL_law0 := goodIn_app (goodIn_app (goodIn_app (goodIn_app (goodIn_app (goodIn_app (goodIn_app (goodIn_app fa_r1 (goodIn_app fa_r2 (goodIn_app fa_r3 (goodIn_app fa_r4 (goodIn_app fa_r5 (goodIn_app fa_r6 (goodIn_app fa_r7 (goodIn_app fa_r8 (goodIn_app fa_r9 (goodIn_app fa_r10 (goodIn_app fa_r11 (goodIn_app fa_r12 (goodIn_app fa_r13 (goodIn_app fa_r14 (goodIn_app fa_r15 (goodIn_app fa_r16 (goodIn_app fa_r17 (goodIn_app fa_r18 (goodIn_app fa_r19 (goodIn_app fa_r20 (goodIn_app fa_r21 (goodIn_app fa_r22 (goodIn_app fa_r23 (goodIn_app fa_r24 (goodIn_app fa_r25 (goodIn_app fa_r26 (goodIn_app fa_r27 (goodIn_app fa_r28 (goodIn_app fa_r29 (fa_r30)))))))))))))))))))))))))))))) fa_x4) fa_x5) fa_x1) fa_x2) fa_x0) fa_x3) (fun _ h => absurd h List.not_mem_nil)
theorem wsL_law_in0 : ∀ w ∈ wsL_law0, w ∈ lw_tbl := fun w h => (fa_all w h).1
set_option maxRecDepth 20000 in
theorem wsL_law_x0 : ∀ w ∈ (vx_atS RX4 98 "java/lang/IllegalStateException" ["java/lang/RuntimeException", "java/lang/Exception"]).filter goodWord, w ∈ lw_tbl := by decide +kernel
set_option maxRecDepth 20000 in
theorem wsL_law_x1 : ∀ w ∈ (vx_atS RX4 210 "java/lang/IllegalArgumentException" ["java/lang/RuntimeException", "java/lang/Exception"]).filter goodWord, w ∈ lw_tbl := by decide +kernel
set_option maxRecDepth 20000 in
theorem wsL_law_x2 : ∀ w ∈ (vx_atS RX4 205 "java/lang/IndexOutOfBoundsException" ["java/lang/RuntimeException", "java/lang/Exception"]).filter goodWord, w ∈ lw_tbl := by decide +kernel
set_option maxRecDepth 20000 in
theorem wsL_law_x3 : ∀ w ∈ fx_at200.filter goodWord, w ∈ lw_tbl := by decide +kernel
theorem wsL_law_in : ∀ w ∈ wsL_law, w ∈ lw_tbl := fun w h => (List.mem_append.mp h).elim (fun h => (List.mem_append.mp h).elim (fun h => (List.mem_append.mp h).elim (fun h => (List.mem_append.mp h).elim (fun h => wsL_law_in0 w h) (fun h => wsL_law_x0 w h)) (fun h => wsL_law_x1 w h)) (fun h => wsL_law_x2 w h)) (fun h => wsL_law_x3 w h)
theorem inX0 : ∀ w ∈ wsX00, w ∈ lw_tbl := fun w h => wsL_law_in w (inlX0 w h)
theorem inX1 : ∀ w ∈ wsX10, w ∈ lw_tbl := fun w h => wsL_law_in w (inlX1 w h)
theorem inX2 : ∀ w ∈ wsX20, w ∈ lw_tbl := fun w h => wsL_law_in w (inlX2 w h)
theorem inX3 : ∀ w ∈ wsX30, w ∈ lw_tbl := fun w h => wsL_law_in w (inlX3 w h)
theorem inX4 : ∀ w ∈ wsX40, w ∈ lw_tbl := fun w h => wsL_law_in w (inlX4 w h)
theorem inX5 : ∀ w ∈ wsX50, w ∈ lw_tbl := fun w h => wsL_law_in w (inlX5 w h)
