theorem dX4_leader_71 : decode cX4_leader 71 = .ok (.iload_n 3, 1) := by decide +kernel
theorem dX4_leader_72 : decode cX4_leader 72 = .ok (.ireturn, 1) := by decide +kernel
set_option maxRecDepth 20000 in
theorem ggX4_trees_X4_drawNet : GoodIn wsX4_trees wsX4_drawNet := goodIn_r _ [7, 2, 8, 9, 10, 11, 12, 13, 14, 15, 16, 17, 18, 19, 20, 6, 21, 22, 23, 24, 25, 26, 27, 28, 29, 30, 31, 32, 33, 34, 35, 36, 37, 38, 39, 40, 41, 42, 80, 81, 82, 83, 84, 85, 86, 87, 88, 89, 90, 91, 92, 93, 94, 95, 96, 97, 98] (by decide +kernel) (by decide +kernel)
set_option maxRecDepth 20000 in
theorem gX4_trees_X4_drawNet : GoodIn wsX4_trees (wsV RX4 125 RX4 yX4_drawNet wsX4_drawNet) := goodIn_app (goodIn_of _ (by decide +kernel)) ggX4_trees_X4_drawNet
set_option maxRecDepth 20000 in
theorem ggX4_trees_X4_upSet : GoodIn wsX4_trees wsX4_upSet := goodIn_r _ [46, 8, 22, 41, 10, 42, 80, 81, 82, 83, 84, 85, 86, 87, 88, 89, 90, 91, 92, 93, 94, 95, 96, 97] (by decide +kernel) (by decide +kernel)
set_option maxRecDepth 20000 in
theorem gX4_trees_X4_upSet : GoodIn wsX4_trees (wsV RX4 148 RX4 yX4_upSet wsX4_upSet) := goodIn_app (goodIn_of _ (by decide +kernel)) ggX4_trees_X4_upSet
set_option maxRecDepth 20000 in
theorem ggX4_trees_X3_treesOf : GoodIn wsX4_trees wsX3_treesOf := goodIn_r _ [50, 51, 52, 53, 54, 55, 56, 10, 57, 58, 59, 60, 48, 61, 62, 29, 30, 63, 64, 65, 66, 25, 26, 27, 13, 28, 67, 68, 69, 70, 71, 72, 73, 74, 75, 76, 77, 78, 79, 99, 98] (by decide +kernel) (by decide +kernel)
set_option maxRecDepth 20000 in
theorem gX4_trees_X3_treesOf_n151 : GoodIn wsX4_trees (wsX3_treesOf) := ggX4_trees_X3_treesOf
theorem dX4_trees_0 : decode cX4_trees 0 = .ok (.aload_n 0, 1) := by decide +kernel
theorem dX4_trees_1 : decode cX4_trees 1 = .ok (.invokevirtual 125, 3) := by decide +kernel
theorem dX4_trees_4 : decode cX4_trees 4 = .ok (.aload_n 0, 1) := by decide +kernel
theorem dX4_trees_5 : decode cX4_trees 5 = .ok (.getfield 80, 3) := by decide +kernel
theorem dX4_trees_8 : decode cX4_trees 8 = .ok (.aload_n 0, 1) := by decide +kernel
theorem dX4_trees_9 : decode cX4_trees 9 = .ok (.getfield 54, 3) := by decide +kernel
theorem dX4_trees_12 : decode cX4_trees 12 = .ok (.aload_n 0, 1) := by decide +kernel
theorem dX4_trees_13 : decode cX4_trees 13 = .ok (.invokevirtual 148, 3) := by decide +kernel
theorem dX4_trees_16 : decode cX4_trees 16 = .ok (.invokevirtual 151, 3) := by decide +kernel
theorem dX4_trees_19 : decode cX4_trees 19 = .ok (.lreturn, 1) := by decide +kernel
set_option maxRecDepth 20000 in
theorem ggX4_setEstimate_X4_requireMember : GoodIn wsX4_setEstimate wsX4_requireMember := goodIn_ca (goodIn_r _ [6, 7, 8, 9, 20, 21, 22, 23, 24, 25, 26, 27, 28, 29, 30, 31, 32, 33, 34, 35, 36, 37] (by decide +kernel) (by decide +kernel)) (goodIn_sub (fun _ h => List.mem_cons_of_mem _ (List.mem_append_left _ (List.mem_append_right _ h))) (by decide +kernel))
set_option maxRecDepth 20000 in
theorem gX4_setEstimate_X4_requireMember : GoodIn wsX4_setEstimate (wsV RX4 101 RX4 yX4_requireMember wsX4_requireMember) := goodIn_app (goodIn_of _ (by decide +kernel)) ggX4_setEstimate_X4_requireMember
set_option maxRecDepth 20000 in
theorem ggX4_setEstimate_X4_requireValue : GoodIn wsX4_setEstimate wsX4_requireValue := goodIn_ca (goodIn_r _ [12, 13, 14, 15, 16, 5, 17, 18, 19] (by decide +kernel) (by decide +kernel)) (goodIn_sub (fun _ h => List.mem_cons_of_mem _ (List.mem_append_right _ h)) (by decide +kernel))
set_option maxRecDepth 20000 in
theorem gX4_setEstimate_X4_requireValue : GoodIn wsX4_setEstimate (va_wsS RX4 155 yX4_requireValue wsX4_requireValue) := goodIn_app (goodIn_of _ (by decide +kernel)) ggX4_setEstimate_X4_requireValue
theorem dX4_setEstimate_0 : decode cX4_setEstimate 0 = .ok (.aload_n 0, 1) := by decide +kernel
theorem dX4_setEstimate_1 : decode cX4_setEstimate 1 = .ok (.iload_n 1, 1) := by decide +kernel
theorem dX4_setEstimate_2 : decode cX4_setEstimate 2 = .ok (.invokevirtual 101, 3) := by decide +kernel
theorem dX4_setEstimate_5 : decode cX4_setEstimate 5 = .ok (.iload_n 2, 1) := by decide +kernel
theorem dX4_setEstimate_6 : decode cX4_setEstimate 6 = .ok (.invokestatic 155, 3) := by decide +kernel
theorem dX4_setEstimate_9 : decode cX4_setEstimate 9 = .ok (.aload_n 0, 1) := by decide +kernel
theorem dX4_setEstimate_10 : decode cX4_setEstimate 10 = .ok (.getfield 23, 3) := by decide +kernel
theorem dX4_setEstimate_13 : decode cX4_setEstimate 13 = .ok (.iload_n 1, 1) := by decide +kernel
theorem dX4_setEstimate_14 : decode cX4_setEstimate 14 = .ok (.iaload, 1) := by decide +kernel
theorem dX4_setEstimate_15 : decode cX4_setEstimate 15 = .ok (.istore_n 3, 1) := by decide +kernel
theorem dX4_setEstimate_16 : decode cX4_setEstimate 16 = .ok (.aload_n 0, 1) := by decide +kernel
theorem dX4_setEstimate_17 : decode cX4_setEstimate 17 = .ok (.getfield 23, 3) := by decide +kernel
theorem dX4_setEstimate_20 : decode cX4_setEstimate 20 = .ok (.iload_n 1, 1) := by decide +kernel
theorem dX4_setEstimate_21 : decode cX4_setEstimate 21 = .ok (.iload_n 2, 1) := by decide +kernel
theorem dX4_setEstimate_22 : decode cX4_setEstimate 22 = .ok (.iastore, 1) := by decide +kernel
theorem dX4_setEstimate_23 : decode cX4_setEstimate 23 = .ok (.iload_n 3, 1) := by decide +kernel
theorem dX4_setEstimate_24 : decode cX4_setEstimate 24 = .ok (.ireturn, 1) := by decide +kernel
set_option maxRecDepth 20000 in
theorem ggX4_estimate_X4_requireMember : GoodIn wsX4_estimate wsX4_requireMember := goodIn_ca (goodIn_r _ [6, 7, 8, 9, 10, 11, 12, 13, 14, 15, 16, 17, 18, 19, 20, 21, 22, 23, 24, 25, 26, 27] (by decide +kernel) (by decide +kernel)) (goodIn_sub (fun _ h => List.mem_cons_of_mem _ (List.mem_append_right _ h)) (by decide +kernel))
set_option maxRecDepth 20000 in
theorem gX4_estimate_X4_requireMember : GoodIn wsX4_estimate (wsV RX4 101 RX4 yX4_requireMember wsX4_requireMember) := goodIn_app (goodIn_of _ (by decide +kernel)) ggX4_estimate_X4_requireMember
theorem dX4_estimate_0 : decode cX4_estimate 0 = .ok (.aload_n 0, 1) := by decide +kernel
theorem dX4_estimate_1 : decode cX4_estimate 1 = .ok (.iload_n 1, 1) := by decide +kernel
theorem dX4_estimate_2 : decode cX4_estimate 2 = .ok (.invokevirtual 101, 3) := by decide +kernel
theorem dX4_estimate_5 : decode cX4_estimate 5 = .ok (.aload_n 0, 1) := by decide +kernel
theorem dX4_estimate_6 : decode cX4_estimate 6 = .ok (.getfield 23, 3) := by decide +kernel
theorem dX4_estimate_9 : decode cX4_estimate 9 = .ok (.iload_n 1, 1) := by decide +kernel
theorem dX4_estimate_10 : decode cX4_estimate 10 = .ok (.iaload, 1) := by decide +kernel
theorem dX4_estimate_11 : decode cX4_estimate 11 = .ok (.ireturn, 1) := by decide +kernel
set_option maxRecDepth 20000 in
theorem ggX4_agree_X4_requireRounds : GoodIn wsX4_agree wsX4_requireRounds := goodIn_ca (goodIn_r _ [4, 5, 6, 3, 7, 8, 9] (by decide +kernel) (by decide +kernel)) (goodIn_sub (fun _ h => List.mem_cons_of_mem _ (List.mem_append_right _ h)) (by decide +kernel))
set_option maxRecDepth 20000 in
theorem gX4_agree_X4_requireRounds : GoodIn wsX4_agree (va_wsS RX4 158 yX4_requireRounds wsX4_requireRounds) := goodIn_app (goodIn_of _ (by decide +kernel)) ggX4_agree_X4_requireRounds
set_option maxRecDepth 20000 in
theorem ggX4_agree_X4_drawNet : GoodIn wsX4_agree wsX4_drawNet := goodIn_r _ [13, 14, 15, 16, 17, 18, 19, 20, 21, 22, 23, 24, 25, 26, 27, 3, 28, 29, 30, 31, 32, 33, 34, 35, 36, 37, 38, 39, 40, 41, 42, 43, 44, 45, 46, 47, 48, 49, 86, 87, 88, 89, 90, 91, 92, 93, 94, 95, 96, 97, 98, 99, 100, 101, 102, 103, 104] (by decide +kernel) (by decide +kernel)
set_option maxRecDepth 20000 in
theorem gX4_agree_X4_drawNet : GoodIn wsX4_agree (wsV RX4 125 RX4 yX4_drawNet wsX4_drawNet) := goodIn_app (goodIn_of _ (by decide +kernel)) ggX4_agree_X4_drawNet
set_option maxRecDepth 20000 in
theorem ggX4_agree_X4_exchangeEstimates : GoodIn wsX4_agree wsX4_exchangeEstimates := goodIn_r _ [53, 54, 15, 14, 55, 56, 22, 23, 24, 32, 17, 33, 34, 20, 35, 36, 37, 57, 58, 59, 3, 60, 61, 62, 63, 64, 65, 66, 67, 68, 69, 70, 71, 72, 73, 74, 75, 76, 77, 78, 86, 87, 88, 89, 90, 91, 92, 93, 94, 95, 96, 97, 98, 99, 100, 101, 102, 103, 104] (by decide +kernel) (by decide +kernel)
set_option maxRecDepth 20000 in
theorem gX4_agree_X4_exchangeEstimates : GoodIn wsX4_agree (wsV RX4 161 RX4 yX4_exchangeEstimates wsX4_exchangeEstimates) := goodIn_app (goodIn_of _ (by decide +kernel)) ggX4_agree_X4_exchangeEstimates
set_option maxRecDepth 20000 in
theorem ggX4_agree_X4_spanOfEstimates : GoodIn wsX4_agree wsX4_spanOfEstimates := goodIn_r _ [82, 15, 55, 83, 84, 63, 85, 61, 62, 64, 86, 87, 88, 89, 90, 91, 92, 93, 94, 95, 96, 97, 98, 99, 100, 101, 102, 103] (by decide +kernel) (by decide +kernel)
set_option maxRecDepth 20000 in
theorem gX4_agree_X4_spanOfEstimates : GoodIn wsX4_agree (wsV RX4 164 RX4 yX4_spanOfEstimates wsX4_spanOfEstimates) := goodIn_app (goodIn_of _ (by decide +kernel)) ggX4_agree_X4_spanOfEstimates
theorem dX4_agree_0 : decode cX4_agree 0 = .ok (.iload_n 1, 1) := by decide +kernel
theorem dX4_agree_1 : decode cX4_agree 1 = .ok (.invokestatic 158, 3) := by decide +kernel
theorem dX4_agree_4 : decode cX4_agree 4 = .ok (.aload_n 0, 1) := by decide +kernel
theorem dX4_agree_5 : decode cX4_agree 5 = .ok (.invokevirtual 125, 3) := by decide +kernel
theorem dX4_agree_8 : decode cX4_agree 8 = .ok (.iconst 0, 1) := by decide +kernel
theorem dX4_agree_9 : decode cX4_agree 9 = .ok (.istore_n 2, 1) := by decide +kernel
theorem dX4_agree_10 : decode cX4_agree 10 = .ok (.iload_n 2, 1) := by decide +kernel
theorem dX4_agree_11 : decode cX4_agree 11 = .ok (.iload_n 1, 1) := by decide +kernel
theorem dX4_agree_12 : decode cX4_agree 12 = .ok (.if_icmp .ge 13, 3) := by decide +kernel
theorem dX4_agree_15 : decode cX4_agree 15 = .ok (.aload_n 0, 1) := by decide +kernel
theorem dX4_agree_16 : decode cX4_agree 16 = .ok (.invokevirtual 161, 3) := by decide +kernel
theorem dX4_agree_19 : decode cX4_agree 19 = .ok (.iinc 2 1, 3) := by decide +kernel
theorem dX4_agree_22 : decode cX4_agree 22 = .ok (.goto (-12), 3) := by decide +kernel
theorem dX4_agree_25 : decode cX4_agree 25 = .ok (.aload_n 0, 1) := by decide +kernel
theorem dX4_agree_26 : decode cX4_agree 26 = .ok (.invokevirtual 164, 3) := by decide +kernel
theorem dX4_agree_29 : decode cX4_agree 29 = .ok (.ireturn, 1) := by decide +kernel
set_option maxRecDepth 20000 in
theorem ggX4_setSum_X4_requireMember : GoodIn wsX4_setSum wsX4_requireMember := goodIn_ca (goodIn_r _ [6, 7, 8, 9, 20, 21, 22, 23, 24, 25, 26, 27, 28, 29, 30, 31, 32, 33, 34, 35, 36, 37] (by decide +kernel) (by decide +kernel)) (goodIn_sub (fun _ h => List.mem_cons_of_mem _ (List.mem_append_left _ (List.mem_append_right _ h))) (by decide +kernel))
set_option maxRecDepth 20000 in
theorem gX4_setSum_X4_requireMember : GoodIn wsX4_setSum (wsV RX4 101 RX4 yX4_requireMember wsX4_requireMember) := goodIn_app (goodIn_of _ (by decide +kernel)) ggX4_setSum_X4_requireMember
set_option maxRecDepth 20000 in
theorem ggX4_setSum_X4_requireValue : GoodIn wsX4_setSum wsX4_requireValue := goodIn_ca (goodIn_r _ [12, 13, 14, 15, 16, 5, 17, 18, 19] (by decide +kernel) (by decide +kernel)) (goodIn_sub (fun _ h => List.mem_cons_of_mem _ (List.mem_append_right _ h)) (by decide +kernel))
set_option maxRecDepth 20000 in
theorem gX4_setSum_X4_requireValue : GoodIn wsX4_setSum (va_wsS RX4 155 yX4_requireValue wsX4_requireValue) := goodIn_app (goodIn_of _ (by decide +kernel)) ggX4_setSum_X4_requireValue
theorem dX4_setSum_0 : decode cX4_setSum 0 = .ok (.aload_n 0, 1) := by decide +kernel
theorem dX4_setSum_1 : decode cX4_setSum 1 = .ok (.iload_n 1, 1) := by decide +kernel
theorem dX4_setSum_2 : decode cX4_setSum 2 = .ok (.invokevirtual 101, 3) := by decide +kernel
theorem dX4_setSum_5 : decode cX4_setSum 5 = .ok (.iload_n 2, 1) := by decide +kernel
theorem dX4_setSum_6 : decode cX4_setSum 6 = .ok (.invokestatic 155, 3) := by decide +kernel
theorem dX4_setSum_9 : decode cX4_setSum 9 = .ok (.aload_n 0, 1) := by decide +kernel
theorem dX4_setSum_10 : decode cX4_setSum 10 = .ok (.getfield 26, 3) := by decide +kernel
theorem dX4_setSum_13 : decode cX4_setSum 13 = .ok (.iload_n 1, 1) := by decide +kernel
theorem dX4_setSum_14 : decode cX4_setSum 14 = .ok (.iaload, 1) := by decide +kernel
theorem dX4_setSum_15 : decode cX4_setSum 15 = .ok (.istore_n 3, 1) := by decide +kernel
theorem dX4_setSum_16 : decode cX4_setSum 16 = .ok (.aload_n 0, 1) := by decide +kernel
theorem dX4_setSum_17 : decode cX4_setSum 17 = .ok (.getfield 26, 3) := by decide +kernel
theorem dX4_setSum_20 : decode cX4_setSum 20 = .ok (.iload_n 1, 1) := by decide +kernel
theorem dX4_setSum_21 : decode cX4_setSum 21 = .ok (.iload_n 2, 1) := by decide +kernel
theorem dX4_setSum_22 : decode cX4_setSum 22 = .ok (.iastore, 1) := by decide +kernel
theorem dX4_setSum_23 : decode cX4_setSum 23 = .ok (.iload_n 3, 1) := by decide +kernel
theorem dX4_setSum_24 : decode cX4_setSum 24 = .ok (.ireturn, 1) := by decide +kernel
set_option maxRecDepth 20000 in
theorem ggX4_sum_X4_requireMember : GoodIn wsX4_sum wsX4_requireMember := goodIn_ca (goodIn_r _ [6, 7, 8, 9, 10, 11, 12, 13, 14, 15, 16, 17, 18, 19, 20, 21, 22, 23, 24, 25, 26, 27] (by decide +kernel) (by decide +kernel)) (goodIn_sub (fun _ h => List.mem_cons_of_mem _ (List.mem_append_right _ h)) (by decide +kernel))
set_option maxRecDepth 20000 in
theorem gX4_sum_X4_requireMember : GoodIn wsX4_sum (wsV RX4 101 RX4 yX4_requireMember wsX4_requireMember) := goodIn_app (goodIn_of _ (by decide +kernel)) ggX4_sum_X4_requireMember
theorem dX4_sum_0 : decode cX4_sum 0 = .ok (.aload_n 0, 1) := by decide +kernel
theorem dX4_sum_1 : decode cX4_sum 1 = .ok (.iload_n 1, 1) := by decide +kernel
theorem dX4_sum_2 : decode cX4_sum 2 = .ok (.invokevirtual 101, 3) := by decide +kernel
theorem dX4_sum_5 : decode cX4_sum 5 = .ok (.aload_n 0, 1) := by decide +kernel
theorem dX4_sum_6 : decode cX4_sum 6 = .ok (.getfield 26, 3) := by decide +kernel
theorem dX4_sum_9 : decode cX4_sum 9 = .ok (.iload_n 1, 1) := by decide +kernel
theorem dX4_sum_10 : decode cX4_sum 10 = .ok (.iaload, 1) := by decide +kernel
theorem dX4_sum_11 : decode cX4_sum 11 = .ok (.ireturn, 1) := by decide +kernel
set_option maxRecDepth 20000 in
theorem ggX4_weight_X4_requireMember : GoodIn wsX4_weight wsX4_requireMember := goodIn_ca (goodIn_r _ [6, 7, 8, 9, 10, 11, 12, 13, 14, 15, 16, 17, 18, 19, 20, 21, 22, 23, 24, 25, 26, 27] (by decide +kernel) (by decide +kernel)) (goodIn_sub (fun _ h => List.mem_cons_of_mem _ (List.mem_append_right _ h)) (by decide +kernel))
set_option maxRecDepth 20000 in
theorem gX4_weight_X4_requireMember : GoodIn wsX4_weight (wsV RX4 101 RX4 yX4_requireMember wsX4_requireMember) := goodIn_app (goodIn_of _ (by decide +kernel)) ggX4_weight_X4_requireMember
theorem dX4_weight_0 : decode cX4_weight 0 = .ok (.aload_n 0, 1) := by decide +kernel
theorem dX4_weight_1 : decode cX4_weight 1 = .ok (.iload_n 1, 1) := by decide +kernel
theorem dX4_weight_2 : decode cX4_weight 2 = .ok (.invokevirtual 101, 3) := by decide +kernel
theorem dX4_weight_5 : decode cX4_weight 5 = .ok (.aload_n 0, 1) := by decide +kernel
theorem dX4_weight_6 : decode cX4_weight 6 = .ok (.getfield 29, 3) := by decide +kernel
theorem dX4_weight_9 : decode cX4_weight 9 = .ok (.iload_n 1, 1) := by decide +kernel
theorem dX4_weight_10 : decode cX4_weight 10 = .ok (.iaload, 1) := by decide +kernel
theorem dX4_weight_11 : decode cX4_weight 11 = .ok (.ireturn, 1) := by decide +kernel
set_option maxRecDepth 20000 in
theorem ggX4_spread_X4_requireRounds : GoodIn wsX4_spread wsX4_requireRounds := goodIn_ca (goodIn_r _ [4, 5, 6, 3, 7, 8, 9] (by decide +kernel) (by decide +kernel)) (goodIn_sub (fun _ h => List.mem_cons_of_mem _ (List.mem_append_right _ h)) (by decide +kernel))
set_option maxRecDepth 20000 in
theorem gX4_spread_X4_requireRounds : GoodIn wsX4_spread (va_wsS RX4 158 yX4_requireRounds wsX4_requireRounds) := goodIn_app (goodIn_of _ (by decide +kernel)) ggX4_spread_X4_requireRounds
set_option maxRecDepth 20000 in
theorem ggX4_spread_X4_drawNet : GoodIn wsX4_spread wsX4_drawNet := goodIn_r _ [13, 14, 15, 16, 17, 18, 19, 20, 21, 22, 23, 24, 25, 26, 27, 3, 28, 29, 30, 31, 32, 33, 34, 35, 36, 37, 38, 39, 40, 41, 42, 43, 44, 45, 46, 47, 48, 49, 71, 72, 73, 74, 75, 76, 77, 78, 79, 80, 81, 82, 83, 84, 85, 86, 87, 88, 89] (by decide +kernel) (by decide +kernel)
set_option maxRecDepth 20000 in
theorem gX4_spread_X4_drawNet : GoodIn wsX4_spread (wsV RX4 125 RX4 yX4_drawNet wsX4_drawNet) := goodIn_app (goodIn_of _ (by decide +kernel)) ggX4_spread_X4_drawNet
set_option maxRecDepth 20000 in
theorem ggX4_spread_X4_handHalves : GoodIn wsX4_spread wsX4_handHalves := goodIn_r _ [53, 54, 55, 15, 56, 57, 58, 59, 22, 23, 24, 60, 61, 62, 3, 63, 14, 32, 17, 33, 34, 20, 35, 36, 37, 64, 65, 66, 67, 68, 69, 70, 71, 72, 73, 74, 75, 76, 77, 78, 79, 80, 81, 82, 83, 84, 85, 86, 87, 88, 89] (by decide +kernel) (by decide +kernel)
set_option maxRecDepth 20000 in
theorem gX4_spread_X4_handHalves : GoodIn wsX4_spread (wsV RX4 167 RX4 yX4_handHalves wsX4_handHalves) := goodIn_app (goodIn_of _ (by decide +kernel)) ggX4_spread_X4_handHalves
theorem dX4_spread_0 : decode cX4_spread 0 = .ok (.iload_n 1, 1) := by decide +kernel
theorem dX4_spread_1 : decode cX4_spread 1 = .ok (.invokestatic 158, 3) := by decide +kernel
theorem dX4_spread_4 : decode cX4_spread 4 = .ok (.aload_n 0, 1) := by decide +kernel
theorem dX4_spread_5 : decode cX4_spread 5 = .ok (.invokevirtual 125, 3) := by decide +kernel
theorem dX4_spread_8 : decode cX4_spread 8 = .ok (.iconst 0, 1) := by decide +kernel
theorem dX4_spread_9 : decode cX4_spread 9 = .ok (.istore_n 2, 1) := by decide +kernel
theorem dX4_spread_10 : decode cX4_spread 10 = .ok (.iconst 0, 1) := by decide +kernel
theorem dX4_spread_11 : decode cX4_spread 11 = .ok (.istore_n 3, 1) := by decide +kernel
theorem dX4_spread_12 : decode cX4_spread 12 = .ok (.iload_n 3, 1) := by decide +kernel
theorem dX4_spread_13 : decode cX4_spread 13 = .ok (.iload_n 1, 1) := by decide +kernel
theorem dX4_spread_14 : decode cX4_spread 14 = .ok (.if_icmp .ge 16, 3) := by decide +kernel
theorem dX4_spread_17 : decode cX4_spread 17 = .ok (.iload_n 2, 1) := by decide +kernel
theorem dX4_spread_18 : decode cX4_spread 18 = .ok (.aload_n 0, 1) := by decide +kernel
theorem dX4_spread_19 : decode cX4_spread 19 = .ok (.invokevirtual 167, 3) := by decide +kernel
theorem dX4_spread_22 : decode cX4_spread 22 = .ok (.iadd, 1) := by decide +kernel
theorem dX4_spread_23 : decode cX4_spread 23 = .ok (.istore_n 2, 1) := by decide +kernel
theorem dX4_spread_24 : decode cX4_spread 24 = .ok (.iinc 3 1, 3) := by decide +kernel
theorem dX4_spread_27 : decode cX4_spread 27 = .ok (.goto (-15), 3) := by decide +kernel
theorem dX4_spread_30 : decode cX4_spread 30 = .ok (.iload_n 2, 1) := by decide +kernel
theorem dX4_spread_31 : decode cX4_spread 31 = .ok (.ireturn, 1) := by decide +kernel
set_option maxRecDepth 20000 in
theorem ggX4_want_X4_requireUnlike : GoodIn wsX4_want wsX4_requireUnlike := goodIn_ca (goodIn_ca (goodIn_r _ [7, 8, 9, 10, 11, 12, 6, 13, 14, 15, 16, 20, 21, 22, 23, 24, 25, 26, 27, 28, 29, 30, 31, 32, 33, 34, 35, 36, 37] (by decide +kernel) (by decide +kernel)) (goodIn_sub (fun _ h => List.mem_cons_of_mem _ (List.mem_append_left _ (List.mem_append_right _ h))) (by decide +kernel))) (goodIn_sub (fun _ h => List.mem_cons_of_mem _ (List.mem_append_right _ h)) (by decide +kernel))
set_option maxRecDepth 20000 in
theorem gX4_want_X4_requireUnlike : GoodIn wsX4_want (wsV RX4 109 RX4 yX4_requireUnlike wsX4_requireUnlike) := goodIn_app (goodIn_of _ (by decide +kernel)) ggX4_want_X4_requireUnlike
set_option maxRecDepth 20000 in
theorem ggX4_want_X4_requireWithin : GoodIn wsX4_want wsX4_requireWithin := goodIn_ca (goodIn_r _ [19, 8, 9] (by decide +kernel) (by decide +kernel)) (goodIn_sub (fun _ h => List.mem_cons_of_mem _ (List.mem_append_left _ (List.mem_append_right _ h))) (by decide +kernel))
set_option maxRecDepth 20000 in
theorem gX4_want_X4_requireWithin : GoodIn wsX4_want (va_wsS RX4 105 yX4_requireWithin wsX4_requireWithin) := goodIn_app (goodIn_of _ (by decide +kernel)) ggX4_want_X4_requireWithin
theorem dX4_want_0 : decode cX4_want 0 = .ok (.aload_n 0, 1) := by decide +kernel
theorem dX4_want_1 : decode cX4_want 1 = .ok (.iload_n 1, 1) := by decide +kernel
theorem dX4_want_2 : decode cX4_want 2 = .ok (.iload_n 2, 1) := by decide +kernel
theorem dX4_want_3 : decode cX4_want 3 = .ok (.invokevirtual 109, 3) := by decide +kernel
theorem dX4_want_6 : decode cX4_want 6 = .ok (.iload_n 3, 1) := by decide +kernel
theorem dX4_want_7 : decode cX4_want 7 = .ok (.iconst (-1), 1) := by decide +kernel
theorem dX4_want_8 : decode cX4_want 8 = .ok (.if_icmp .eq 10, 3) := by decide +kernel
theorem dX4_want_11 : decode cX4_want 11 = .ok (.iload_n 3, 1) := by decide +kernel
theorem dX4_want_12 : decode cX4_want 12 = .ok (.iconst 1, 1) := by decide +kernel
theorem dX4_want_13 : decode cX4_want 13 = .ok (.ldc 170, 2) := by decide +kernel
theorem dX4_want_15 : decode cX4_want 15 = .ok (.invokestatic 105, 3) := by decide +kernel
theorem dX4_want_18 : decode cX4_want 18 = .ok (.aload_n 0, 1) := by decide +kernel
theorem dX4_want_19 : decode cX4_want 19 = .ok (.getfield 37, 3) := by decide +kernel
theorem dX4_want_22 : decode cX4_want 22 = .ok (.iload_n 1, 1) := by decide +kernel
theorem dX4_want_23 : decode cX4_want 23 = .ok (.aaload, 1) := by decide +kernel
theorem dX4_want_24 : decode cX4_want 24 = .ok (.iload_n 2, 1) := by decide +kernel
theorem dX4_want_25 : decode cX4_want 25 = .ok (.iaload, 1) := by decide +kernel
theorem dX4_want_26 : decode cX4_want 26 = .ok (.istore 4, 2) := by decide +kernel
theorem dX4_want_28 : decode cX4_want 28 = .ok (.aload_n 0, 1) := by decide +kernel
theorem dX4_want_29 : decode cX4_want 29 = .ok (.getfield 37, 3) := by decide +kernel
theorem dX4_want_32 : decode cX4_want 32 = .ok (.iload_n 1, 1) := by decide +kernel
theorem dX4_want_33 : decode cX4_want 33 = .ok (.aaload, 1) := by decide +kernel
theorem dX4_want_34 : decode cX4_want 34 = .ok (.iload_n 2, 1) := by decide +kernel
theorem dX4_want_35 : decode cX4_want 35 = .ok (.iload_n 3, 1) := by decide +kernel
theorem dX4_want_36 : decode cX4_want 36 = .ok (.iastore, 1) := by decide +kernel
theorem dX4_want_37 : decode cX4_want 37 = .ok (.aload_n 0, 1) := by decide +kernel
theorem dX4_want_38 : decode cX4_want 38 = .ok (.getfield 37, 3) := by decide +kernel
theorem dX4_want_41 : decode cX4_want 41 = .ok (.iload_n 2, 1) := by decide +kernel
theorem dX4_want_42 : decode cX4_want 42 = .ok (.aaload, 1) := by decide +kernel
theorem dX4_want_43 : decode cX4_want 43 = .ok (.iload_n 1, 1) := by decide +kernel
theorem dX4_want_44 : decode cX4_want 44 = .ok (.iload_n 3, 1) := by decide +kernel
theorem dX4_want_45 : decode cX4_want 45 = .ok (.iastore, 1) := by decide +kernel
theorem dX4_want_46 : decode cX4_want 46 = .ok (.iload 4, 2) := by decide +kernel
theorem dX4_want_48 : decode cX4_want 48 = .ok (.ireturn, 1) := by decide +kernel
set_option maxRecDepth 20000 in
theorem ggX4_error_X4_drawNet : GoodIn wsX4_error wsX4_drawNet := goodIn_r _ [10, 11, 1, 12, 13, 14, 15, 16, 17, 18, 19, 20, 21, 22, 23, 9, 24, 25, 26, 27, 28, 29, 30, 31, 32, 33, 34, 35, 36, 37, 38, 39, 40, 41, 42, 43, 44, 45, 51, 52, 53, 54, 55, 56, 57, 58, 59, 60, 61, 62, 63, 64, 65, 66, 67, 68, 69] (by decide +kernel) (by decide +kernel)
set_option maxRecDepth 20000 in
theorem gX4_error_X4_drawNet : GoodIn wsX4_error (wsV RX4 125 RX4 yX4_drawNet wsX4_drawNet) := goodIn_app (goodIn_of _ (by decide +kernel)) ggX4_error_X4_drawNet
set_option maxRecDepth 20000 in
theorem ggX4_error_X4_excessOf : GoodIn wsX4_error wsX4_excessOf := goodIn_r _ [49, 11, 50, 28, 13, 29, 30, 16, 31, 32, 33, 34, 35, 36, 9, 37, 38, 39, 51, 52, 53, 54, 55, 56, 57, 58, 59, 60, 61, 62, 63, 64, 65, 66, 67, 68, 69] (by decide +kernel) (by decide +kernel)
set_option maxRecDepth 20000 in
theorem gX4_error_X4_excessOf : GoodIn wsX4_error (wsV RX4 171 RX4 yX4_excessOf wsX4_excessOf) := goodIn_app (goodIn_of _ (by decide +kernel)) ggX4_error_X4_excessOf
theorem dX4_error_0 : decode cX4_error 0 = .ok (.aload_n 0, 1) := by decide +kernel
theorem dX4_error_1 : decode cX4_error 1 = .ok (.invokevirtual 125, 3) := by decide +kernel
theorem dX4_error_4 : decode cX4_error 4 = .ok (.iconst 0, 1) := by decide +kernel
theorem dX4_error_5 : decode cX4_error 5 = .ok (.istore_n 1, 1) := by decide +kernel
theorem dX4_error_6 : decode cX4_error 6 = .ok (.iconst 0, 1) := by decide +kernel
theorem dX4_error_7 : decode cX4_error 7 = .ok (.istore_n 2, 1) := by decide +kernel
theorem dX4_error_8 : decode cX4_error 8 = .ok (.iload_n 2, 1) := by decide +kernel
theorem dX4_error_9 : decode cX4_error 9 = .ok (.aload_n 0, 1) := by decide +kernel
theorem dX4_error_10 : decode cX4_error 10 = .ok (.getfield 47, 3) := by decide +kernel
theorem dX4_error_13 : decode cX4_error 13 = .ok (.if_icmp .ge 34, 3) := by decide +kernel
theorem dX4_error_16 : decode cX4_error 16 = .ok (.iconst 0, 1) := by decide +kernel
theorem dX4_error_17 : decode cX4_error 17 = .ok (.istore_n 3, 1) := by decide +kernel
theorem dX4_error_18 : decode cX4_error 18 = .ok (.iload_n 3, 1) := by decide +kernel
theorem dX4_error_19 : decode cX4_error 19 = .ok (.iload_n 2, 1) := by decide +kernel
theorem dX4_error_20 : decode cX4_error 20 = .ok (.if_icmp .ge 21, 3) := by decide +kernel
theorem dX4_error_23 : decode cX4_error 23 = .ok (.iload_n 1, 1) := by decide +kernel
theorem dX4_error_24 : decode cX4_error 24 = .ok (.aload_n 0, 1) := by decide +kernel
theorem dX4_error_25 : decode cX4_error 25 = .ok (.iload_n 2, 1) := by decide +kernel
theorem dX4_error_26 : decode cX4_error 26 = .ok (.iload_n 3, 1) := by decide +kernel
theorem dX4_error_27 : decode cX4_error 27 = .ok (.invokevirtual 171, 3) := by decide +kernel
theorem dX4_error_30 : decode cX4_error 30 = .ok (.invokestatic 175, 3) := by decide +kernel
theorem dX4_error_33 : decode cX4_error 33 = .ok (.iadd, 1) := by decide +kernel
theorem dX4_error_34 : decode cX4_error 34 = .ok (.istore_n 1, 1) := by decide +kernel
theorem dX4_error_35 : decode cX4_error 35 = .ok (.iinc 3 1, 3) := by decide +kernel
theorem dX4_error_38 : decode cX4_error 38 = .ok (.goto (-20), 3) := by decide +kernel
theorem dX4_error_41 : decode cX4_error 41 = .ok (.iinc 2 1, 3) := by decide +kernel
theorem dX4_error_44 : decode cX4_error 44 = .ok (.goto (-36), 3) := by decide +kernel
theorem dX4_error_47 : decode cX4_error 47 = .ok (.iload_n 1, 1) := by decide +kernel
theorem dX4_error_48 : decode cX4_error 48 = .ok (.ireturn, 1) := by decide +kernel
set_option maxRecDepth 20000 in
theorem ggX4_settle_X4_requireRounds : GoodIn wsX4_settle wsX4_requireRounds := goodIn_ca (goodIn_r _ [4, 5, 6, 3, 7, 8, 9] (by decide +kernel) (by decide +kernel)) (goodIn_sub (fun _ h => List.mem_cons_of_mem _ (List.mem_append_right _ h)) (by decide +kernel))
set_option maxRecDepth 20000 in
theorem gX4_settle_X4_requireRounds : GoodIn wsX4_settle (va_wsS RX4 158 yX4_requireRounds wsX4_requireRounds) := goodIn_app (goodIn_of _ (by decide +kernel)) ggX4_settle_X4_requireRounds
set_option maxRecDepth 20000 in
theorem ggX4_settle_X4_stepTogether : GoodIn wsX4_settle wsX4_stepTogether := goodIn_r _ [13, 14, 15, 16, 17, 18, 19, 20, 21, 3, 22, 23, 24, 25, 26, 27, 28, 29, 30, 31, 32, 33, 34, 35, 36, 37, 38, 39, 40, 41, 42, 43, 44, 45, 46, 47, 48, 49, 50, 51, 52, 53, 54, 55, 56, 57, 58, 59, 60, 61, 62, 63, 64, 65, 66, 67, 68, 69, 70, 71, 72, 73, 74, 75, 76, 77, 78, 79, 80, 81, 82, 83, 91, 92, 93, 94, 95, 96, 97, 98, 99, 100, 101, 102, 103, 104, 105, 106, 107, 108, 109] (by decide +kernel) (by decide +kernel)
set_option maxRecDepth 20000 in
theorem gX4_settle_X4_stepTogether : GoodIn wsX4_settle (wsV RX4 180 RX4 yX4_stepTogether wsX4_stepTogether) := goodIn_app (goodIn_of _ (by decide +kernel)) ggX4_settle_X4_stepTogether
set_option maxRecDepth 20000 in
theorem ggX4_settle_X4_error : GoodIn wsX4_settle wsX4_error := goodIn_r _ [87, 14, 88, 89, 65, 90, 19, 20, 21, 3, 22, 23, 24, 25, 26, 27, 28, 29, 30, 31, 32, 33, 34, 35, 36, 37, 38, 39, 40, 41, 42, 43, 44, 45, 46, 47, 48, 49, 16, 18, 50, 51, 52, 53, 54, 55, 70, 71, 72, 73, 74, 91, 92, 93, 94, 95, 96, 97, 98, 99, 100, 101, 102, 103, 104, 105, 106, 107, 108, 109] (by decide +kernel) (by decide +kernel)
set_option maxRecDepth 20000 in
theorem gX4_settle_X4_error : GoodIn wsX4_settle (wsV RX4 183 RX4 yX4_error wsX4_error) := goodIn_app (goodIn_of _ (by decide +kernel)) ggX4_settle_X4_error
theorem dX4_settle_0 : decode cX4_settle 0 = .ok (.iload_n 1, 1) := by decide +kernel
theorem dX4_settle_1 : decode cX4_settle 1 = .ok (.invokestatic 158, 3) := by decide +kernel
theorem dX4_settle_4 : decode cX4_settle 4 = .ok (.iconst 0, 1) := by decide +kernel
theorem dX4_settle_5 : decode cX4_settle 5 = .ok (.istore_n 2, 1) := by decide +kernel
theorem dX4_settle_6 : decode cX4_settle 6 = .ok (.iload_n 2, 1) := by decide +kernel
theorem dX4_settle_7 : decode cX4_settle 7 = .ok (.iload_n 1, 1) := by decide +kernel
theorem dX4_settle_8 : decode cX4_settle 8 = .ok (.if_icmp .ge 13, 3) := by decide +kernel
theorem dX4_settle_11 : decode cX4_settle 11 = .ok (.aload_n 0, 1) := by decide +kernel
theorem dX4_settle_12 : decode cX4_settle 12 = .ok (.invokevirtual 180, 3) := by decide +kernel
theorem dX4_settle_15 : decode cX4_settle 15 = .ok (.iinc 2 1, 3) := by decide +kernel
theorem dX4_settle_18 : decode cX4_settle 18 = .ok (.goto (-12), 3) := by decide +kernel
theorem dX4_settle_21 : decode cX4_settle 21 = .ok (.aload_n 0, 1) := by decide +kernel
theorem dX4_settle_22 : decode cX4_settle 22 = .ok (.invokevirtual 183, 3) := by decide +kernel
theorem dX4_settle_25 : decode cX4_settle 25 = .ok (.ireturn, 1) := by decide +kernel
set_option maxRecDepth 20000 in
theorem ggX4_rank_X4_drawNet : GoodIn wsX4_rank wsX4_drawNet := goodIn_r _ [7, 2, 8, 9, 10, 11, 12, 13, 14, 15, 16, 17, 18, 19, 20, 6, 21, 22, 23, 24, 25, 26, 27, 28, 29, 30, 31, 32, 33, 34, 35, 36, 37, 38, 39, 40, 41, 42, 77, 78, 79, 80, 81, 82, 83, 84, 85, 86, 87, 88, 89, 90, 91, 92, 93, 94, 95] (by decide +kernel) (by decide +kernel)
set_option maxRecDepth 20000 in
theorem gX4_rank_X4_drawNet : GoodIn wsX4_rank (wsV RX4 125 RX4 yX4_drawNet wsX4_drawNet) := goodIn_app (goodIn_of _ (by decide +kernel)) ggX4_rank_X4_drawNet
set_option maxRecDepth 20000 in
theorem ggX4_rank_X2_rankOf : GoodIn wsX4_rank wsX2_rankOf := goodIn_r _ [46, 47, 48, 49, 15, 16, 17, 25, 10, 26, 27, 13, 28, 29, 30, 50, 51, 52, 44, 53, 54, 55, 56, 57, 58, 59, 60, 61, 62, 41, 42, 63, 64, 65, 66, 67, 68, 69, 70, 71, 72, 73, 74, 75, 76, 96, 97, 98, 95] (by decide +kernel) (by decide +kernel)
set_option maxRecDepth 20000 in
theorem gX4_rank_X2_rankOf_n186 : GoodIn wsX4_rank (wsX2_rankOf) := ggX4_rank_X2_rankOf
theorem dX4_rank_0 : decode cX4_rank 0 = .ok (.aload_n 0, 1) := by decide +kernel
theorem dX4_rank_1 : decode cX4_rank 1 = .ok (.invokevirtual 125, 3) := by decide +kernel
theorem dX4_rank_4 : decode cX4_rank 4 = .ok (.aload_n 0, 1) := by decide +kernel
theorem dX4_rank_5 : decode cX4_rank 5 = .ok (.getfield 66, 3) := by decide +kernel
theorem dX4_rank_8 : decode cX4_rank 8 = .ok (.aload_n 0, 1) := by decide +kernel
theorem dX4_rank_9 : decode cX4_rank 9 = .ok (.getfield 54, 3) := by decide +kernel
theorem dX4_rank_12 : decode cX4_rank 12 = .ok (.invokevirtual 186, 3) := by decide +kernel
theorem dX4_rank_15 : decode cX4_rank 15 = .ok (.ireturn, 1) := by decide +kernel
set_option maxRecDepth 20000 in
theorem ggX4_rankByCounting_X4_drawNet : GoodIn wsX4_rankByCounting wsX4_drawNet := goodIn_r _ [7, 2, 8, 9, 10, 11, 12, 13, 14, 15, 16, 17, 18, 19, 20, 6, 21, 22, 23, 24, 25, 26, 27, 28, 29, 30, 31, 32, 33, 34, 35, 36, 37, 38, 39, 40, 41, 42, 64, 65, 66, 67, 68, 69, 70, 71, 72, 73, 74, 75, 76, 77, 78, 79, 80, 81, 82] (by decide +kernel) (by decide +kernel)
set_option maxRecDepth 20000 in
theorem gX4_rankByCounting_X4_drawNet : GoodIn wsX4_rankByCounting (wsV RX4 125 RX4 yX4_drawNet wsX4_drawNet) := goodIn_app (goodIn_of _ (by decide +kernel)) ggX4_rankByCounting_X4_drawNet
set_option maxRecDepth 20000 in
theorem ggX4_rankByCounting_X0_rankOf : GoodIn wsX4_rankByCounting wsX0_rankOf := goodIn_r _ [46, 47, 48, 15, 16, 17, 41, 10, 42, 25, 26, 27, 13, 28, 29, 30, 49, 50, 51, 44, 52, 53, 54, 55, 56, 57, 58, 59, 60, 61, 62, 63, 83, 82] (by decide +kernel) (by decide +kernel)
set_option maxRecDepth 20000 in
theorem gX4_rankByCounting_X0_rankOf_n190 : GoodIn wsX4_rankByCounting (wsX0_rankOf) := ggX4_rankByCounting_X0_rankOf
theorem dX4_rankByCounting_0 : decode cX4_rankByCounting 0 = .ok (.aload_n 0, 1) := by decide +kernel
theorem dX4_rankByCounting_1 : decode cX4_rankByCounting 1 = .ok (.invokevirtual 125, 3) := by decide +kernel
theorem dX4_rankByCounting_4 : decode cX4_rankByCounting 4 = .ok (.aload_n 0, 1) := by decide +kernel
theorem dX4_rankByCounting_5 : decode cX4_rankByCounting 5 = .ok (.getfield 73, 3) := by decide +kernel
theorem dX4_rankByCounting_8 : decode cX4_rankByCounting 8 = .ok (.aload_n 0, 1) := by decide +kernel
theorem dX4_rankByCounting_9 : decode cX4_rankByCounting 9 = .ok (.getfield 54, 3) := by decide +kernel
theorem dX4_rankByCounting_12 : decode cX4_rankByCounting 12 = .ok (.invokevirtual 190, 3) := by decide +kernel
theorem dX4_rankByCounting_15 : decode cX4_rankByCounting 15 = .ok (.ireturn, 1) := by decide +kernel
set_option maxRecDepth 20000 in
theorem ggX4_isRigid_X4_drawNet : GoodIn wsX4_isRigid wsX4_drawNet := goodIn_r _ [7, 2, 8, 9, 10, 11, 12, 13, 14, 15, 16, 17, 18, 19, 20, 6, 21, 22, 23, 24, 25, 26, 27, 28, 29, 30, 31, 32, 33, 34, 35, 36, 37, 38, 39, 40, 41, 42, 95, 96, 97, 98, 99, 100, 101, 102, 103, 104, 105, 106, 107, 108, 109, 110, 111, 112, 113] (by decide +kernel) (by decide +kernel)
set_option maxRecDepth 20000 in
theorem gX4_isRigid_X4_drawNet : GoodIn wsX4_isRigid (wsV RX4 125 RX4 yX4_drawNet wsX4_drawNet) := goodIn_app (goodIn_of _ (by decide +kernel)) ggX4_isRigid_X4_drawNet
set_option maxRecDepth 20000 in
theorem ggX4_isRigid_X4_upSet : GoodIn wsX4_isRigid wsX4_upSet := goodIn_r _ [46, 8, 22, 41, 10, 42, 95, 96, 97, 98, 99, 100, 101, 102, 103, 104, 105, 106, 107, 108, 109, 110, 111, 112] (by decide +kernel) (by decide +kernel)
set_option maxRecDepth 20000 in
theorem gX4_isRigid_X4_upSet : GoodIn wsX4_isRigid (wsV RX4 148 RX4 yX4_upSet wsX4_upSet) := goodIn_app (goodIn_of _ (by decide +kernel)) ggX4_isRigid_X4_upSet
set_option maxRecDepth 20000 in
theorem ggX4_isRigid_J6_bitCount_0f7a4 : GoodIn wsX4_isRigid wsJ6_bitCount_0f7a4 := goodIn_r _ [50, 51, 52, 53] (by decide +kernel) (by decide +kernel)
set_option maxRecDepth 20000 in
theorem gX4_isRigid_J6_bitCount_0f7a4 : GoodIn wsX4_isRigid (va_wsS RX4 191 yJ6_bitCount_0f7a4 wsJ6_bitCount_0f7a4) := goodIn_app (goodIn_of _ (by decide +kernel)) ggX4_isRigid_J6_bitCount_0f7a4
set_option maxRecDepth 20000 in
theorem ggX4_isRigid_X4_countGroups : GoodIn wsX4_isRigid wsX4_countGroups := goodIn_r _ [57, 8, 22, 2, 29, 10, 30, 58, 59, 60, 13, 40, 41, 42, 28, 95, 96, 97, 98, 99, 100, 101, 102, 103, 104, 105, 106, 107, 108, 109, 110, 111, 112, 113] (by decide +kernel) (by decide +kernel)
set_option maxRecDepth 20000 in
theorem gX4_isRigid_X4_countGroups : GoodIn wsX4_isRigid (wsV RX4 136 RX4 yX4_countGroups wsX4_countGroups) := goodIn_app (goodIn_of _ (by decide +kernel)) ggX4_isRigid_X4_countGroups
set_option maxRecDepth 20000 in
theorem ggX4_isRigid_X2_rankOf : GoodIn wsX4_isRigid wsX2_rankOf := goodIn_r _ [64, 65, 66, 67, 15, 16, 17, 25, 10, 26, 27, 13, 28, 29, 30, 68, 69, 70, 62, 71, 72, 73, 74, 75, 76, 77, 78, 79, 80, 41, 42, 81, 82, 83, 84, 85, 86, 87, 88, 89, 90, 91, 92, 93, 94, 114, 115, 116, 113] (by decide +kernel) (by decide +kernel)
set_option maxRecDepth 20000 in
theorem gX4_isRigid_X2_rankOf_n186 : GoodIn wsX4_isRigid (wsX2_rankOf) := ggX4_isRigid_X2_rankOf
theorem dX4_isRigid_0 : decode cX4_isRigid 0 = .ok (.aload_n 0, 1) := by decide +kernel
theorem dX4_isRigid_1 : decode cX4_isRigid 1 = .ok (.invokevirtual 125, 3) := by decide +kernel
theorem dX4_isRigid_4 : decode cX4_isRigid 4 = .ok (.aload_n 0, 1) := by decide +kernel
theorem dX4_isRigid_5 : decode cX4_isRigid 5 = .ok (.invokevirtual 148, 3) := by decide +kernel
theorem dX4_isRigid_8 : decode cX4_isRigid 8 = .ok (.invokestatic 191, 3) := by decide +kernel
theorem dX4_isRigid_11 : decode cX4_isRigid 11 = .ok (.istore_n 1, 1) := by decide +kernel
theorem dX4_isRigid_12 : decode cX4_isRigid 12 = .ok (.iload_n 1, 1) := by decide +kernel
theorem dX4_isRigid_13 : decode cX4_isRigid 13 = .ok (.iconst 2, 1) := by decide +kernel
theorem dX4_isRigid_14 : decode cX4_isRigid 14 = .ok (.if_icmp .lt 34, 3) := by decide +kernel
theorem dX4_isRigid_17 : decode cX4_isRigid 17 = .ok (.aload_n 0, 1) := by decide +kernel
theorem dX4_isRigid_18 : decode cX4_isRigid 18 = .ok (.invokevirtual 136, 3) := by decide +kernel
theorem dX4_isRigid_21 : decode cX4_isRigid 21 = .ok (.iconst 1, 1) := by decide +kernel
theorem dX4_isRigid_22 : decode cX4_isRigid 22 = .ok (.if_icmp .ne 26, 3) := by decide +kernel
theorem dX4_isRigid_25 : decode cX4_isRigid 25 = .ok (.aload_n 0, 1) := by decide +kernel
theorem dX4_isRigid_26 : decode cX4_isRigid 26 = .ok (.getfield 66, 3) := by decide +kernel
theorem dX4_isRigid_29 : decode cX4_isRigid 29 = .ok (.aload_n 0, 1) := by decide +kernel
theorem dX4_isRigid_30 : decode cX4_isRigid 30 = .ok (.getfield 54, 3) := by decide +kernel
theorem dX4_isRigid_33 : decode cX4_isRigid 33 = .ok (.invokevirtual 186, 3) := by decide +kernel
theorem dX4_isRigid_36 : decode cX4_isRigid 36 = .ok (.iconst 2, 1) := by decide +kernel
theorem dX4_isRigid_37 : decode cX4_isRigid 37 = .ok (.iload_n 1, 1) := by decide +kernel
theorem dX4_isRigid_38 : decode cX4_isRigid 38 = .ok (.imul, 1) := by decide +kernel
theorem dX4_isRigid_39 : decode cX4_isRigid 39 = .ok (.iconst 3, 1) := by decide +kernel
theorem dX4_isRigid_40 : decode cX4_isRigid 40 = .ok (.isub, 1) := by decide +kernel
theorem dX4_isRigid_41 : decode cX4_isRigid 41 = .ok (.if_icmp .ne 7, 3) := by decide +kernel
theorem dX4_isRigid_44 : decode cX4_isRigid 44 = .ok (.iconst 1, 1) := by decide +kernel
theorem dX4_isRigid_45 : decode cX4_isRigid 45 = .ok (.goto 4, 3) := by decide +kernel
theorem dX4_isRigid_48 : decode cX4_isRigid 48 = .ok (.iconst 0, 1) := by decide +kernel
theorem dX4_isRigid_49 : decode cX4_isRigid 49 = .ok (.ireturn, 1) := by decide +kernel
set_option maxRecDepth 20000 in
theorem ggX4_isSpare_X4_requireMember : GoodIn wsX4_isSpare wsX4_requireMember := goodIn_ca (goodIn_r _ [9, 10, 11, 12, 89, 90, 91, 92, 93, 94, 95, 96, 97, 98, 99, 100, 101, 102, 103, 104, 105, 106] (by decide +kernel) (by decide +kernel)) (goodIn_sub (fun _ h => List.mem_cons_of_mem _ (List.mem_append_right _ h)) (by decide +kernel))
set_option maxRecDepth 20000 in
theorem gX4_isSpare_X4_requireMember : GoodIn wsX4_isSpare (wsV RX4 101 RX4 yX4_requireMember wsX4_requireMember) := goodIn_app (goodIn_of _ (by decide +kernel)) ggX4_isSpare_X4_requireMember
set_option maxRecDepth 20000 in
theorem ggX4_isSpare_X4_hears : GoodIn wsX4_isSpare wsX4_hears := goodIn_r _ [16, 17, 18, 19, 20, 21, 22, 23, 24, 25, 26, 27, 28, 29, 30, 8, 31, 32, 33, 89, 90, 91, 92, 93, 94, 95, 96, 97, 98, 99, 100, 101, 102, 103, 104, 105, 106, 107] (by decide +kernel) (by decide +kernel)
set_option maxRecDepth 20000 in
theorem gX4_isSpare_X4_hears : GoodIn wsX4_isSpare (wsV RX4 122 RX4 yX4_hears wsX4_hears) := goodIn_app (goodIn_of _ (by decide +kernel)) ggX4_isSpare_X4_hears
set_option maxRecDepth 20000 in
theorem ggX4_isSpare_X4_drawNet : GoodIn wsX4_isSpare wsX4_drawNet := goodIn_r _ [37, 4, 12, 38, 21, 39, 40, 24, 41, 42, 43, 44, 13, 14, 15, 8, 16, 17, 18, 19, 20, 22, 23, 25, 26, 27, 28, 29, 30, 31, 32, 33, 45, 46, 47, 48, 49, 50, 89, 90, 91, 92, 93, 94, 95, 96, 97, 98, 99, 100, 101, 102, 103, 104, 105, 106, 107] (by decide +kernel) (by decide +kernel)
set_option maxRecDepth 20000 in
theorem gX4_isSpare_X4_drawNet : GoodIn wsX4_isSpare (wsV RX4 125 RX4 yX4_drawNet wsX4_drawNet) := goodIn_app (goodIn_of _ (by decide +kernel)) ggX4_isSpare_X4_drawNet
set_option maxRecDepth 20000 in
theorem ggX4_isSpare_X2_rankOf : GoodIn wsX4_isSpare wsX2_rankOf := goodIn_r _ [54, 55, 56, 57, 42, 43, 44, 20, 21, 22, 23, 24, 25, 26, 27, 58, 59, 60, 52, 61, 62, 63, 64, 65, 66, 67, 68, 69, 70, 49, 50, 71, 72, 73, 74, 75, 76, 77, 78, 79, 80, 81, 82, 83, 84, 108, 109, 110, 107] (by decide +kernel) (by decide +kernel)
set_option maxRecDepth 20000 in
theorem gX4_isSpare_X2_rankOf_n186 : GoodIn wsX4_isSpare (wsX2_rankOf) := ggX4_isSpare_X2_rankOf
set_option maxRecDepth 20000 in
theorem ggX4_isSpare_X1_cut : GoodIn wsX4_isSpare wsX1_cut := goodIn_r _ [87, 24, 88, 83, 21, 84, 107] (by decide +kernel) (by decide +kernel)
set_option maxRecDepth 20000 in
theorem gX4_isSpare_X1_cut_n116 : GoodIn wsX4_isSpare (wsX1_cut) := ggX4_isSpare_X1_cut
theorem dX4_isSpare_0 : decode cX4_isSpare 0 = .ok (.aload_n 0, 1) := by decide +kernel
theorem dX4_isSpare_1 : decode cX4_isSpare 1 = .ok (.iload_n 1, 1) := by decide +kernel
theorem dX4_isSpare_2 : decode cX4_isSpare 2 = .ok (.invokevirtual 101, 3) := by decide +kernel
theorem dX4_isSpare_5 : decode cX4_isSpare 5 = .ok (.aload_n 0, 1) := by decide +kernel
theorem dX4_isSpare_6 : decode cX4_isSpare 6 = .ok (.iload_n 2, 1) := by decide +kernel
theorem dX4_isSpare_7 : decode cX4_isSpare 7 = .ok (.invokevirtual 101, 3) := by decide +kernel
theorem dX4_isSpare_10 : decode cX4_isSpare 10 = .ok (.aload_n 0, 1) := by decide +kernel
theorem dX4_isSpare_11 : decode cX4_isSpare 11 = .ok (.iload_n 1, 1) := by decide +kernel
theorem dX4_isSpare_12 : decode cX4_isSpare 12 = .ok (.iload_n 2, 1) := by decide +kernel
theorem dX4_isSpare_13 : decode cX4_isSpare 13 = .ok (.invokevirtual 122, 3) := by decide +kernel
theorem dX4_isSpare_16 : decode cX4_isSpare 16 = .ok (.ifCond .ne 13, 3) := by decide +kernel
theorem dX4_isSpare_19 : decode cX4_isSpare 19 = .ok (.new 196, 3) := by decide +kernel
theorem dX4_isSpare_22 : decode cX4_isSpare 22 = .ok (.dup, 1) := by decide +kernel
theorem dX4_isSpare_23 : decode cX4_isSpare 23 = .ok (.ldc 198, 2) := by decide +kernel
theorem dX4_isSpare_25 : decode cX4_isSpare 25 = .ok (.invokespecial 200, 3) := by decide +kernel
theorem dX4_isSpare_28 : decode cX4_isSpare 28 = .ok (.athrow, 1) := by decide +kernel
theorem dX4_isSpare_29 : decode cX4_isSpare 29 = .ok (.aload_n 0, 1) := by decide +kernel
theorem dX4_isSpare_30 : decode cX4_isSpare 30 = .ok (.invokevirtual 125, 3) := by decide +kernel
theorem dX4_isSpare_33 : decode cX4_isSpare 33 = .ok (.aload_n 0, 1) := by decide +kernel
theorem dX4_isSpare_34 : decode cX4_isSpare 34 = .ok (.getfield 66, 3) := by decide +kernel
theorem dX4_isSpare_37 : decode cX4_isSpare 37 = .ok (.aload_n 0, 1) := by decide +kernel
theorem dX4_isSpare_38 : decode cX4_isSpare 38 = .ok (.getfield 54, 3) := by decide +kernel
theorem dX4_isSpare_41 : decode cX4_isSpare 41 = .ok (.invokevirtual 186, 3) := by decide +kernel
theorem dX4_isSpare_44 : decode cX4_isSpare 44 = .ok (.istore_n 3, 1) := by decide +kernel
theorem dX4_isSpare_45 : decode cX4_isSpare 45 = .ok (.aload_n 0, 1) := by decide +kernel
theorem dX4_isSpare_46 : decode cX4_isSpare 46 = .ok (.getfield 54, 3) := by decide +kernel
theorem dX4_isSpare_49 : decode cX4_isSpare 49 = .ok (.iload_n 1, 1) := by decide +kernel
theorem dX4_isSpare_50 : decode cX4_isSpare 50 = .ok (.iload_n 2, 1) := by decide +kernel
theorem dX4_isSpare_51 : decode cX4_isSpare 51 = .ok (.invokevirtual 116, 3) := by decide +kernel
theorem dX4_isSpare_54 : decode cX4_isSpare 54 = .ok (.aload_n 0, 1) := by decide +kernel
theorem dX4_isSpare_55 : decode cX4_isSpare 55 = .ok (.getfield 66, 3) := by decide +kernel
theorem dX4_isSpare_58 : decode cX4_isSpare 58 = .ok (.aload_n 0, 1) := by decide +kernel
theorem dX4_isSpare_59 : decode cX4_isSpare 59 = .ok (.getfield 54, 3) := by decide +kernel
theorem dX4_isSpare_62 : decode cX4_isSpare 62 = .ok (.invokevirtual 186, 3) := by decide +kernel
theorem dX4_isSpare_65 : decode cX4_isSpare 65 = .ok (.iload_n 3, 1) := by decide +kernel
theorem dX4_isSpare_66 : decode cX4_isSpare 66 = .ok (.if_icmp .ne 7, 3) := by decide +kernel
theorem dX4_isSpare_69 : decode cX4_isSpare 69 = .ok (.iconst 1, 1) := by decide +kernel
theorem dX4_isSpare_70 : decode cX4_isSpare 70 = .ok (.goto 4, 3) := by decide +kernel
theorem dX4_isSpare_73 : decode cX4_isSpare 73 = .ok (.iconst 0, 1) := by decide +kernel
theorem dX4_isSpare_74 : decode cX4_isSpare 74 = .ok (.ireturn, 1) := by decide +kernel
theorem dX4_requireMember_0 : decode cX4_requireMember 0 = .ok (.iload_n 1, 1) := by decide +kernel
theorem dX4_requireMember_1 : decode cX4_requireMember 1 = .ok (.ifCond .lt 11, 3) := by decide +kernel
theorem dX4_requireMember_4 : decode cX4_requireMember 4 = .ok (.iload_n 1, 1) := by decide +kernel
theorem dX4_requireMember_5 : decode cX4_requireMember 5 = .ok (.aload_n 0, 1) := by decide +kernel
theorem dX4_requireMember_6 : decode cX4_requireMember 6 = .ok (.getfield 47, 3) := by decide +kernel
theorem dX4_requireMember_9 : decode cX4_requireMember 9 = .ok (.if_icmp .lt 13, 3) := by decide +kernel
theorem dX4_requireMember_12 : decode cX4_requireMember 12 = .ok (.new 201, 3) := by decide +kernel
theorem dX4_requireMember_15 : decode cX4_requireMember 15 = .ok (.dup, 1) := by decide +kernel
theorem dX4_requireMember_16 : decode cX4_requireMember 16 = .ok (.ldc 203, 2) := by decide +kernel
theorem dX4_requireMember_18 : decode cX4_requireMember 18 = .ok (.invokespecial 205, 3) := by decide +kernel
theorem dX4_requireMember_21 : decode cX4_requireMember 21 = .ok (.athrow, 1) := by decide +kernel
theorem dX4_requireMember_22 : decode cX4_requireMember 22 = .ok (.return_, 1) := by decide +kernel
set_option maxRecDepth 20000 in
theorem ggX4_requireUnlike_X4_requireMember : GoodIn wsX4_requireUnlike wsX4_requireMember := goodIn_ca (goodIn_r _ [7, 8, 9, 10, 11, 12, 13, 14, 15, 16, 17, 18, 19, 20, 21, 22, 23, 24, 25, 26, 27, 28] (by decide +kernel) (by decide +kernel)) (goodIn_sub (fun _ h => List.mem_cons_of_mem _ (List.mem_append_right _ h)) (by decide +kernel))
set_option maxRecDepth 20000 in
theorem gX4_requireUnlike_X4_requireMember : GoodIn wsX4_requireUnlike (wsV RX4 101 RX4 yX4_requireMember wsX4_requireMember) := goodIn_app (goodIn_of _ (by decide +kernel)) ggX4_requireUnlike_X4_requireMember
theorem dX4_requireUnlike_0 : decode cX4_requireUnlike 0 = .ok (.aload_n 0, 1) := by decide +kernel
theorem dX4_requireUnlike_1 : decode cX4_requireUnlike 1 = .ok (.iload_n 1, 1) := by decide +kernel
theorem dX4_requireUnlike_2 : decode cX4_requireUnlike 2 = .ok (.invokevirtual 101, 3) := by decide +kernel
theorem dX4_requireUnlike_5 : decode cX4_requireUnlike 5 = .ok (.aload_n 0, 1) := by decide +kernel
theorem dX4_requireUnlike_6 : decode cX4_requireUnlike 6 = .ok (.iload_n 2, 1) := by decide +kernel
theorem dX4_requireUnlike_7 : decode cX4_requireUnlike 7 = .ok (.invokevirtual 101, 3) := by decide +kernel
theorem dX4_requireUnlike_10 : decode cX4_requireUnlike 10 = .ok (.iload_n 1, 1) := by decide +kernel
theorem dX4_requireUnlike_11 : decode cX4_requireUnlike 11 = .ok (.iload_n 2, 1) := by decide +kernel
theorem dX4_requireUnlike_12 : decode cX4_requireUnlike 12 = .ok (.if_icmp .ne 13, 3) := by decide +kernel
theorem dX4_requireUnlike_15 : decode cX4_requireUnlike 15 = .ok (.new 206, 3) := by decide +kernel
theorem dX4_requireUnlike_18 : decode cX4_requireUnlike 18 = .ok (.dup, 1) := by decide +kernel
theorem dX4_requireUnlike_19 : decode cX4_requireUnlike 19 = .ok (.ldc 208, 2) := by decide +kernel
theorem dX4_requireUnlike_21 : decode cX4_requireUnlike 21 = .ok (.invokespecial 210, 3) := by decide +kernel
theorem dX4_requireUnlike_24 : decode cX4_requireUnlike 24 = .ok (.athrow, 1) := by decide +kernel
theorem dX4_requireUnlike_25 : decode cX4_requireUnlike 25 = .ok (.return_, 1) := by decide +kernel
theorem dX4_requireWithin_0 : decode cX4_requireWithin 0 = .ok (.iload_n 0, 1) := by decide +kernel
theorem dX4_requireWithin_1 : decode cX4_requireWithin 1 = .ok (.iload_n 1, 1) := by decide +kernel
theorem dX4_requireWithin_2 : decode cX4_requireWithin 2 = .ok (.if_icmp .lt 8, 3) := by decide +kernel
theorem dX4_requireWithin_5 : decode cX4_requireWithin 5 = .ok (.iload_n 0, 1) := by decide +kernel
theorem dX4_requireWithin_6 : decode cX4_requireWithin 6 = .ok (.iload_n 2, 1) := by decide +kernel
theorem dX4_requireWithin_7 : decode cX4_requireWithin 7 = .ok (.if_icmp .le 13, 3) := by decide +kernel
theorem dX4_requireWithin_10 : decode cX4_requireWithin 10 = .ok (.new 206, 3) := by decide +kernel
theorem dX4_requireWithin_13 : decode cX4_requireWithin 13 = .ok (.dup, 1) := by decide +kernel
theorem dX4_requireWithin_14 : decode cX4_requireWithin 14 = .ok (.ldc 211, 2) := by decide +kernel
theorem dX4_requireWithin_16 : decode cX4_requireWithin 16 = .ok (.invokespecial 210, 3) := by decide +kernel
theorem dX4_requireWithin_19 : decode cX4_requireWithin 19 = .ok (.athrow, 1) := by decide +kernel
theorem dX4_requireWithin_20 : decode cX4_requireWithin 20 = .ok (.return_, 1) := by decide +kernel
set_option maxRecDepth 20000 in
theorem ggX4_requirePlace_X4_requireWithin : GoodIn wsX4_requirePlace wsX4_requireWithin := goodIn_ca (goodIn_r _ [4, 5, 6] (by decide +kernel) (by decide +kernel)) (goodIn_sub (fun _ h => List.mem_cons_of_mem _ (List.mem_append_right _ h)) (by decide +kernel))
set_option maxRecDepth 20000 in
theorem gX4_requirePlace_X4_requireWithin : GoodIn wsX4_requirePlace (va_wsS RX4 105 yX4_requireWithin wsX4_requireWithin) := goodIn_app (goodIn_of _ (by decide +kernel)) ggX4_requirePlace_X4_requireWithin
theorem dX4_requirePlace_0 : decode cX4_requirePlace 0 = .ok (.iload_n 0, 1) := by decide +kernel
theorem dX4_requirePlace_1 : decode cX4_requirePlace 1 = .ok (.sipush (-1000), 3) := by decide +kernel
theorem dX4_requirePlace_4 : decode cX4_requirePlace 4 = .ok (.sipush 1000, 3) := by decide +kernel
theorem dX4_requirePlace_7 : decode cX4_requirePlace 7 = .ok (.invokestatic 105, 3) := by decide +kernel
theorem dX4_requirePlace_10 : decode cX4_requirePlace 10 = .ok (.iload_n 1, 1) := by decide +kernel
theorem dX4_requirePlace_11 : decode cX4_requirePlace 11 = .ok (.sipush (-1000), 3) := by decide +kernel
theorem dX4_requirePlace_14 : decode cX4_requirePlace 14 = .ok (.sipush 1000, 3) := by decide +kernel
theorem dX4_requirePlace_17 : decode cX4_requirePlace 17 = .ok (.invokestatic 105, 3) := by decide +kernel
theorem dX4_requirePlace_20 : decode cX4_requirePlace 20 = .ok (.return_, 1) := by decide +kernel
set_option maxRecDepth 20000 in
theorem ggX4_requireValue_X4_requireWithin : GoodIn wsX4_requireValue wsX4_requireWithin := goodIn_ca (goodIn_r _ [6, 7, 8] (by decide +kernel) (by decide +kernel)) (goodIn_sub (fun _ h => List.mem_cons_of_mem _ (List.mem_append_right _ h)) (by decide +kernel))
set_option maxRecDepth 20000 in
theorem gX4_requireValue_X4_requireWithin : GoodIn wsX4_requireValue (va_wsS RX4 105 yX4_requireWithin wsX4_requireWithin) := goodIn_app (goodIn_of _ (by decide +kernel)) ggX4_requireValue_X4_requireWithin
theorem dX4_requireValue_0 : decode cX4_requireValue 0 = .ok (.iload_n 0, 1) := by decide +kernel
theorem dX4_requireValue_1 : decode cX4_requireValue 1 = .ok (.ldc 213, 2) := by decide +kernel
theorem dX4_requireValue_3 : decode cX4_requireValue 3 = .ok (.ldc 214, 2) := by decide +kernel
theorem dX4_requireValue_5 : decode cX4_requireValue 5 = .ok (.invokestatic 105, 3) := by decide +kernel
theorem dX4_requireValue_8 : decode cX4_requireValue 8 = .ok (.return_, 1) := by decide +kernel
set_option maxRecDepth 20000 in
theorem ggX4_requireRounds_X4_requireWithin : GoodIn wsX4_requireRounds wsX4_requireWithin := goodIn_ca (goodIn_r _ [4, 5, 6] (by decide +kernel) (by decide +kernel)) (goodIn_sub (fun _ h => List.mem_cons_of_mem _ (List.mem_append_right _ h)) (by decide +kernel))
set_option maxRecDepth 20000 in
theorem gX4_requireRounds_X4_requireWithin : GoodIn wsX4_requireRounds (va_wsS RX4 105 yX4_requireWithin wsX4_requireWithin) := goodIn_app (goodIn_of _ (by decide +kernel)) ggX4_requireRounds_X4_requireWithin
theorem dX4_requireRounds_0 : decode cX4_requireRounds 0 = .ok (.iload_n 0, 1) := by decide +kernel
theorem dX4_requireRounds_1 : decode cX4_requireRounds 1 = .ok (.iconst 1, 1) := by decide +kernel
theorem dX4_requireRounds_2 : decode cX4_requireRounds 2 = .ok (.bipush 50, 2) := by decide +kernel
theorem dX4_requireRounds_4 : decode cX4_requireRounds 4 = .ok (.invokestatic 105, 3) := by decide +kernel
theorem dX4_requireRounds_7 : decode cX4_requireRounds 7 = .ok (.return_, 1) := by decide +kernel
theorem dX4_squareBetween_0 : decode cX4_squareBetween 0 = .ok (.aload_n 0, 1) := by decide +kernel
theorem dX4_squareBetween_1 : decode cX4_squareBetween 1 = .ok (.getfield 9, 3) := by decide +kernel
theorem dX4_squareBetween_4 : decode cX4_squareBetween 4 = .ok (.iload_n 1, 1) := by decide +kernel
theorem dX4_squareBetween_5 : decode cX4_squareBetween 5 = .ok (.iaload, 1) := by decide +kernel
theorem dX4_squareBetween_6 : decode cX4_squareBetween 6 = .ok (.aload_n 0, 1) := by decide +kernel
theorem dX4_squareBetween_7 : decode cX4_squareBetween 7 = .ok (.getfield 9, 3) := by decide +kernel
theorem dX4_squareBetween_10 : decode cX4_squareBetween 10 = .ok (.iload_n 2, 1) := by decide +kernel
theorem dX4_squareBetween_11 : decode cX4_squareBetween 11 = .ok (.iaload, 1) := by decide +kernel
theorem dX4_squareBetween_12 : decode cX4_squareBetween 12 = .ok (.isub, 1) := by decide +kernel
theorem dX4_squareBetween_13 : decode cX4_squareBetween 13 = .ok (.istore_n 3, 1) := by decide +kernel
theorem dX4_squareBetween_14 : decode cX4_squareBetween 14 = .ok (.aload_n 0, 1) := by decide +kernel
theorem dX4_squareBetween_15 : decode cX4_squareBetween 15 = .ok (.getfield 13, 3) := by decide +kernel
theorem dX4_squareBetween_18 : decode cX4_squareBetween 18 = .ok (.iload_n 1, 1) := by decide +kernel
theorem dX4_squareBetween_19 : decode cX4_squareBetween 19 = .ok (.iaload, 1) := by decide +kernel
theorem dX4_squareBetween_20 : decode cX4_squareBetween 20 = .ok (.aload_n 0, 1) := by decide +kernel
theorem dX4_squareBetween_21 : decode cX4_squareBetween 21 = .ok (.getfield 13, 3) := by decide +kernel
theorem dX4_squareBetween_24 : decode cX4_squareBetween 24 = .ok (.iload_n 2, 1) := by decide +kernel
theorem dX4_squareBetween_25 : decode cX4_squareBetween 25 = .ok (.iaload, 1) := by decide +kernel
theorem dX4_squareBetween_26 : decode cX4_squareBetween 26 = .ok (.isub, 1) := by decide +kernel
theorem dX4_squareBetween_27 : decode cX4_squareBetween 27 = .ok (.istore 4, 2) := by decide +kernel
theorem dX4_squareBetween_29 : decode cX4_squareBetween 29 = .ok (.iload_n 3, 1) := by decide +kernel
theorem dX4_squareBetween_30 : decode cX4_squareBetween 30 = .ok (.iload_n 3, 1) := by decide +kernel
theorem dX4_squareBetween_31 : decode cX4_squareBetween 31 = .ok (.imul, 1) := by decide +kernel
theorem dX4_squareBetween_32 : decode cX4_squareBetween 32 = .ok (.iload 4, 2) := by decide +kernel
theorem dX4_squareBetween_34 : decode cX4_squareBetween 34 = .ok (.iload 4, 2) := by decide +kernel
theorem dX4_squareBetween_36 : decode cX4_squareBetween 36 = .ok (.imul, 1) := by decide +kernel
theorem dX4_squareBetween_37 : decode cX4_squareBetween 37 = .ok (.iadd, 1) := by decide +kernel
theorem dX4_squareBetween_38 : decode cX4_squareBetween 38 = .ok (.ireturn, 1) := by decide +kernel
set_option maxRecDepth 20000 in
theorem ggX4_hears_X1_joins : GoodIn wsX4_hears wsX1_joins := goodIn_r _ [7, 8, 9, 10, 5, 11, 37] (by decide +kernel) (by decide +kernel)
set_option maxRecDepth 20000 in
theorem gX4_hears_X1_joins_n112 : GoodIn wsX4_hears (wsX1_joins) := ggX4_hears_X1_joins
set_option maxRecDepth 20000 in
theorem ggX4_hears_X4_squareBetween : GoodIn wsX4_hears wsX4_squareBetween := goodIn_r _ [16, 17, 18, 19, 20, 21, 22, 23, 24, 25, 26, 27, 28, 29, 30, 31, 32, 33, 34, 35, 36] (by decide +kernel) (by decide +kernel)
set_option maxRecDepth 20000 in
theorem gX4_hears_X4_squareBetween : GoodIn wsX4_hears (wsV RX4 215 RX4 yX4_squareBetween wsX4_squareBetween) := goodIn_app (goodIn_of _ (by decide +kernel)) ggX4_hears_X4_squareBetween
theorem dX4_hears_0 : decode cX4_hears 0 = .ok (.iload_n 1, 1) := by decide +kernel
theorem dX4_hears_1 : decode cX4_hears 1 = .ok (.iload_n 2, 1) := by decide +kernel
theorem dX4_hears_2 : decode cX4_hears 2 = .ok (.if_icmp .eq 55, 3) := by decide +kernel
theorem dX4_hears_5 : decode cX4_hears 5 = .ok (.aload_n 0, 1) := by decide +kernel
theorem dX4_hears_6 : decode cX4_hears 6 = .ok (.getfield 16, 3) := by decide +kernel
theorem dX4_hears_9 : decode cX4_hears 9 = .ok (.iload_n 1, 1) := by decide +kernel
theorem dX4_hears_10 : decode cX4_hears 10 = .ok (.baload, 1) := by decide +kernel
theorem dX4_hears_11 : decode cX4_hears 11 = .ok (.ifCond .eq 46, 3) := by decide +kernel
theorem dX4_hears_14 : decode cX4_hears 14 = .ok (.aload_n 0, 1) := by decide +kernel
theorem dX4_hears_15 : decode cX4_hears 15 = .ok (.getfield 16, 3) := by decide +kernel
theorem dX4_hears_18 : decode cX4_hears 18 = .ok (.iload_n 2, 1) := by decide +kernel
theorem dX4_hears_19 : decode cX4_hears 19 = .ok (.baload, 1) := by decide +kernel
theorem dX4_hears_20 : decode cX4_hears 20 = .ok (.ifCond .eq 37, 3) := by decide +kernel
theorem dX4_hears_23 : decode cX4_hears 23 = .ok (.aload_n 0, 1) := by decide +kernel
theorem dX4_hears_24 : decode cX4_hears 24 = .ok (.getfield 43, 3) := by decide +kernel
theorem dX4_hears_27 : decode cX4_hears 27 = .ok (.iload_n 1, 1) := by decide +kernel
theorem dX4_hears_28 : decode cX4_hears 28 = .ok (.iload_n 2, 1) := by decide +kernel
theorem dX4_hears_29 : decode cX4_hears 29 = .ok (.invokevirtual 112, 3) := by decide +kernel
theorem dX4_hears_32 : decode cX4_hears 32 = .ok (.ifCond .ne 25, 3) := by decide +kernel
theorem dX4_hears_35 : decode cX4_hears 35 = .ok (.aload_n 0, 1) := by decide +kernel
theorem dX4_hears_36 : decode cX4_hears 36 = .ok (.iload_n 1, 1) := by decide +kernel
theorem dX4_hears_37 : decode cX4_hears 37 = .ok (.iload_n 2, 1) := by decide +kernel
theorem dX4_hears_38 : decode cX4_hears 38 = .ok (.invokevirtual 215, 3) := by decide +kernel
theorem dX4_hears_41 : decode cX4_hears 41 = .ok (.aload_n 0, 1) := by decide +kernel
theorem dX4_hears_42 : decode cX4_hears 42 = .ok (.getfield 51, 3) := by decide +kernel
theorem dX4_hears_45 : decode cX4_hears 45 = .ok (.aload_n 0, 1) := by decide +kernel
theorem dX4_hears_46 : decode cX4_hears 46 = .ok (.getfield 51, 3) := by decide +kernel
theorem dX4_hears_49 : decode cX4_hears 49 = .ok (.imul, 1) := by decide +kernel
theorem dX4_hears_50 : decode cX4_hears 50 = .ok (.if_icmp .gt 7, 3) := by decide +kernel
theorem dX4_hears_53 : decode cX4_hears 53 = .ok (.iconst 1, 1) := by decide +kernel
theorem dX4_hears_54 : decode cX4_hears 54 = .ok (.goto 4, 3) := by decide +kernel
theorem dX4_hears_57 : decode cX4_hears 57 = .ok (.iconst 0, 1) := by decide +kernel
theorem dX4_hears_58 : decode cX4_hears 58 = .ok (.ireturn, 1) := by decide +kernel
set_option maxRecDepth 20000 in
theorem ggX4_drawNet_X1_clear : GoodIn wsX4_drawNet wsX1_clear := goodIn_r _ [6, 7, 8, 9, 10, 11, 56] (by decide +kernel) (by decide +kernel)
set_option maxRecDepth 20000 in
theorem gX4_drawNet_X1_clear_n218 : GoodIn wsX4_drawNet (wsX1_clear) := ggX4_drawNet_X1_clear
set_option maxRecDepth 20000 in
theorem ggX4_drawNet_X4_hears : GoodIn wsX4_drawNet wsX4_hears := goodIn_r _ [16, 17, 18, 19, 20, 4, 21, 22, 7, 23, 24, 25, 26, 27, 28, 15, 29, 30, 31, 38, 39, 40, 41, 42, 43, 44, 45, 46, 47, 48, 49, 50, 51, 52, 53, 54, 55, 56] (by decide +kernel) (by decide +kernel)
set_option maxRecDepth 20000 in
theorem gX4_drawNet_X4_hears : GoodIn wsX4_drawNet (wsV RX4 122 RX4 yX4_hears wsX4_hears) := goodIn_app (goodIn_of _ (by decide +kernel)) ggX4_drawNet_X4_hears
set_option maxRecDepth 20000 in
theorem ggX4_drawNet_X1_join : GoodIn wsX4_drawNet wsX1_join := goodIn_r _ [34, 7, 35, 36, 4, 37, 56] (by decide +kernel) (by decide +kernel)
set_option maxRecDepth 20000 in
theorem gX4_drawNet_X1_join_n119 : GoodIn wsX4_drawNet (wsX1_join) := ggX4_drawNet_X1_join
theorem dX4_drawNet_0 : decode cX4_drawNet 0 = .ok (.aload_n 0, 1) := by decide +kernel
theorem dX4_drawNet_1 : decode cX4_drawNet 1 = .ok (.getfield 54, 3) := by decide +kernel
theorem dX4_drawNet_4 : decode cX4_drawNet 4 = .ok (.invokevirtual 218, 3) := by decide +kernel
theorem dX4_drawNet_7 : decode cX4_drawNet 7 = .ok (.iconst 0, 1) := by decide +kernel
theorem dX4_drawNet_8 : decode cX4_drawNet 8 = .ok (.istore_n 1, 1) := by decide +kernel
theorem dX4_drawNet_9 : decode cX4_drawNet 9 = .ok (.iload_n 1, 1) := by decide +kernel
theorem dX4_drawNet_10 : decode cX4_drawNet 10 = .ok (.aload_n 0, 1) := by decide +kernel
theorem dX4_drawNet_11 : decode cX4_drawNet 11 = .ok (.getfield 47, 3) := by decide +kernel
theorem dX4_drawNet_14 : decode cX4_drawNet 14 = .ok (.if_icmp .ge 40, 3) := by decide +kernel
theorem dX4_drawNet_17 : decode cX4_drawNet 17 = .ok (.iconst 0, 1) := by decide +kernel
theorem dX4_drawNet_18 : decode cX4_drawNet 18 = .ok (.istore_n 2, 1) := by decide +kernel
theorem dX4_drawNet_19 : decode cX4_drawNet 19 = .ok (.iload_n 2, 1) := by decide +kernel
theorem dX4_drawNet_20 : decode cX4_drawNet 20 = .ok (.iload_n 1, 1) := by decide +kernel
theorem dX4_drawNet_21 : decode cX4_drawNet 21 = .ok (.if_icmp .ge 27, 3) := by decide +kernel
theorem dX4_drawNet_24 : decode cX4_drawNet 24 = .ok (.aload_n 0, 1) := by decide +kernel
theorem dX4_drawNet_25 : decode cX4_drawNet 25 = .ok (.iload_n 1, 1) := by decide +kernel
theorem dX4_drawNet_26 : decode cX4_drawNet 26 = .ok (.iload_n 2, 1) := by decide +kernel
theorem dX4_drawNet_27 : decode cX4_drawNet 27 = .ok (.invokevirtual 122, 3) := by decide +kernel
theorem dX4_drawNet_30 : decode cX4_drawNet 30 = .ok (.ifCond .eq 12, 3) := by decide +kernel
theorem dX4_drawNet_33 : decode cX4_drawNet 33 = .ok (.aload_n 0, 1) := by decide +kernel
theorem dX4_drawNet_34 : decode cX4_drawNet 34 = .ok (.getfield 54, 3) := by decide +kernel
theorem dX4_drawNet_37 : decode cX4_drawNet 37 = .ok (.iload_n 1, 1) := by decide +kernel
theorem dX4_drawNet_38 : decode cX4_drawNet 38 = .ok (.iload_n 2, 1) := by decide +kernel
theorem dX4_drawNet_39 : decode cX4_drawNet 39 = .ok (.invokevirtual 119, 3) := by decide +kernel
theorem dX4_drawNet_42 : decode cX4_drawNet 42 = .ok (.iinc 2 1, 3) := by decide +kernel
theorem dX4_drawNet_45 : decode cX4_drawNet 45 = .ok (.goto (-26), 3) := by decide +kernel
theorem dX4_drawNet_48 : decode cX4_drawNet 48 = .ok (.iinc 1 1, 3) := by decide +kernel
theorem dX4_drawNet_51 : decode cX4_drawNet 51 = .ok (.goto (-42), 3) := by decide +kernel
theorem dX4_drawNet_54 : decode cX4_drawNet 54 = .ok (.return_, 1) := by decide +kernel
set_option maxRecDepth 20000 in
theorem ggX4_countGroups_X1_holds : GoodIn wsX4_countGroups wsX1_holds := goodIn_r _ [6] (by decide +kernel) (by decide +kernel)
set_option maxRecDepth 20000 in
theorem gX4_countGroups_X1_holds_n142 : GoodIn wsX4_countGroups (wsX1_holds) := ggX4_countGroups_X1_holds
set_option maxRecDepth 20000 in
theorem ggX4_countGroups_X1_groupOf : GoodIn wsX4_countGroups wsX1_groupOf := goodIn_r _ [9, 10, 11, 12, 5, 13, 14, 4, 6, 33] (by decide +kernel) (by decide +kernel)
set_option maxRecDepth 20000 in
theorem gX4_countGroups_X1_groupOf_n139 : GoodIn wsX4_countGroups (wsX1_groupOf) := ggX4_countGroups_X1_groupOf
theorem dX4_countGroups_0 : decode cX4_countGroups 0 = .ok (.iconst 0, 1) := by decide +kernel
theorem dX4_countGroups_1 : decode cX4_countGroups 1 = .ok (.istore_n 1, 1) := by decide +kernel
theorem dX4_countGroups_2 : decode cX4_countGroups 2 = .ok (.iconst 0, 1) := by decide +kernel
theorem dX4_countGroups_3 : decode cX4_countGroups 3 = .ok (.istore_n 2, 1) := by decide +kernel
theorem dX4_countGroups_4 : decode cX4_countGroups 4 = .ok (.iconst 0, 1) := by decide +kernel
theorem dX4_countGroups_5 : decode cX4_countGroups 5 = .ok (.istore_n 3, 1) := by decide +kernel
theorem dX4_countGroups_6 : decode cX4_countGroups 6 = .ok (.iload_n 3, 1) := by decide +kernel
theorem dX4_countGroups_7 : decode cX4_countGroups 7 = .ok (.aload_n 0, 1) := by decide +kernel
theorem dX4_countGroups_8 : decode cX4_countGroups 8 = .ok (.getfield 47, 3) := by decide +kernel
theorem dX4_countGroups_11 : decode cX4_countGroups 11 = .ok (.if_icmp .ge 40, 3) := by decide +kernel
theorem dX4_countGroups_14 : decode cX4_countGroups 14 = .ok (.aload_n 0, 1) := by decide +kernel
theorem dX4_countGroups_15 : decode cX4_countGroups 15 = .ok (.getfield 16, 3) := by decide +kernel
theorem dX4_countGroups_18 : decode cX4_countGroups 18 = .ok (.iload_n 3, 1) := by decide +kernel
theorem dX4_countGroups_19 : decode cX4_countGroups 19 = .ok (.baload, 1) := by decide +kernel
theorem dX4_countGroups_20 : decode cX4_countGroups 20 = .ok (.ifCond .eq 25, 3) := by decide +kernel
theorem dX4_countGroups_23 : decode cX4_countGroups 23 = .ok (.iload_n 2, 1) := by decide +kernel
theorem dX4_countGroups_24 : decode cX4_countGroups 24 = .ok (.iload_n 3, 1) := by decide +kernel
theorem dX4_countGroups_25 : decode cX4_countGroups 25 = .ok (.invokestatic 142, 3) := by decide +kernel
theorem dX4_countGroups_28 : decode cX4_countGroups 28 = .ok (.ifCond .ne 17, 3) := by decide +kernel
theorem dX4_countGroups_31 : decode cX4_countGroups 31 = .ok (.iload_n 2, 1) := by decide +kernel
theorem dX4_countGroups_32 : decode cX4_countGroups 32 = .ok (.aload_n 0, 1) := by decide +kernel
theorem dX4_countGroups_33 : decode cX4_countGroups 33 = .ok (.getfield 54, 3) := by decide +kernel
theorem dX4_countGroups_36 : decode cX4_countGroups 36 = .ok (.iload_n 3, 1) := by decide +kernel
theorem dX4_countGroups_37 : decode cX4_countGroups 37 = .ok (.invokevirtual 139, 3) := by decide +kernel
theorem dX4_countGroups_40 : decode cX4_countGroups 40 = .ok (.ior, 1) := by decide +kernel
theorem dX4_countGroups_41 : decode cX4_countGroups 41 = .ok (.istore_n 2, 1) := by decide +kernel
theorem dX4_countGroups_42 : decode cX4_countGroups 42 = .ok (.iinc 1 1, 3) := by decide +kernel
theorem dX4_countGroups_45 : decode cX4_countGroups 45 = .ok (.iinc 3 1, 3) := by decide +kernel
theorem dX4_countGroups_48 : decode cX4_countGroups 48 = .ok (.goto (-42), 3) := by decide +kernel
theorem dX4_countGroups_51 : decode cX4_countGroups 51 = .ok (.iload_n 1, 1) := by decide +kernel
theorem dX4_countGroups_52 : decode cX4_countGroups 52 = .ok (.ireturn, 1) := by decide +kernel
set_option maxRecDepth 20000 in
theorem ggX4_upSet_X1_with : GoodIn wsX4_upSet wsX1_with := goodIn_r _ [5] (by decide +kernel) (by decide +kernel)
set_option maxRecDepth 20000 in
theorem gX4_upSet_X1_with_n221 : GoodIn wsX4_upSet (wsX1_with) := ggX4_upSet_X1_with
theorem dX4_upSet_0 : decode cX4_upSet 0 = .ok (.iconst 0, 1) := by decide +kernel
theorem dX4_upSet_1 : decode cX4_upSet 1 = .ok (.istore_n 1, 1) := by decide +kernel
theorem dX4_upSet_2 : decode cX4_upSet 2 = .ok (.iconst 0, 1) := by decide +kernel
theorem dX4_upSet_3 : decode cX4_upSet 3 = .ok (.istore_n 2, 1) := by decide +kernel
theorem dX4_upSet_4 : decode cX4_upSet 4 = .ok (.iload_n 2, 1) := by decide +kernel
theorem dX4_upSet_5 : decode cX4_upSet 5 = .ok (.aload_n 0, 1) := by decide +kernel
theorem dX4_upSet_6 : decode cX4_upSet 6 = .ok (.getfield 47, 3) := by decide +kernel
theorem dX4_upSet_9 : decode cX4_upSet 9 = .ok (.if_icmp .ge 24, 3) := by decide +kernel
theorem dX4_upSet_12 : decode cX4_upSet 12 = .ok (.aload_n 0, 1) := by decide +kernel
theorem dX4_upSet_13 : decode cX4_upSet 13 = .ok (.getfield 16, 3) := by decide +kernel
theorem dX4_upSet_16 : decode cX4_upSet 16 = .ok (.iload_n 2, 1) := by decide +kernel
theorem dX4_upSet_17 : decode cX4_upSet 17 = .ok (.baload, 1) := by decide +kernel
theorem dX4_upSet_18 : decode cX4_upSet 18 = .ok (.ifCond .eq 9, 3) := by decide +kernel
theorem dX4_upSet_21 : decode cX4_upSet 21 = .ok (.iload_n 1, 1) := by decide +kernel
theorem dX4_upSet_22 : decode cX4_upSet 22 = .ok (.iload_n 2, 1) := by decide +kernel
theorem dX4_upSet_23 : decode cX4_upSet 23 = .ok (.invokestatic 221, 3) := by decide +kernel
theorem dX4_upSet_26 : decode cX4_upSet 26 = .ok (.istore_n 1, 1) := by decide +kernel
theorem dX4_upSet_27 : decode cX4_upSet 27 = .ok (.iinc 2 1, 3) := by decide +kernel
theorem dX4_upSet_30 : decode cX4_upSet 30 = .ok (.goto (-26), 3) := by decide +kernel
theorem dX4_upSet_33 : decode cX4_upSet 33 = .ok (.iload_n 1, 1) := by decide +kernel
theorem dX4_upSet_34 : decode cX4_upSet 34 = .ok (.ireturn, 1) := by decide +kernel
theorem dX4_outranks_0 : decode cX4_outranks 0 = .ok (.aload_n 0, 1) := by decide +kernel
theorem dX4_outranks_1 : decode cX4_outranks 1 = .ok (.getfield 20, 3) := by decide +kernel
theorem dX4_outranks_4 : decode cX4_outranks 4 = .ok (.iload_n 1, 1) := by decide +kernel
theorem dX4_outranks_5 : decode cX4_outranks 5 = .ok (.iaload, 1) := by decide +kernel
theorem dX4_outranks_6 : decode cX4_outranks 6 = .ok (.aload_n 0, 1) := by decide +kernel
theorem dX4_outranks_7 : decode cX4_outranks 7 = .ok (.getfield 20, 3) := by decide +kernel
theorem dX4_outranks_10 : decode cX4_outranks 10 = .ok (.iload_n 2, 1) := by decide +kernel
theorem dX4_outranks_11 : decode cX4_outranks 11 = .ok (.iaload, 1) := by decide +kernel
theorem dX4_outranks_12 : decode cX4_outranks 12 = .ok (.if_icmp .eq 24, 3) := by decide +kernel
theorem dX4_outranks_15 : decode cX4_outranks 15 = .ok (.aload_n 0, 1) := by decide +kernel
theorem dX4_outranks_16 : decode cX4_outranks 16 = .ok (.getfield 20, 3) := by decide +kernel
theorem dX4_outranks_19 : decode cX4_outranks 19 = .ok (.iload_n 1, 1) := by decide +kernel
theorem dX4_outranks_20 : decode cX4_outranks 20 = .ok (.iaload, 1) := by decide +kernel
theorem dX4_outranks_21 : decode cX4_outranks 21 = .ok (.aload_n 0, 1) := by decide +kernel
theorem dX4_outranks_22 : decode cX4_outranks 22 = .ok (.getfield 20, 3) := by decide +kernel
theorem dX4_outranks_25 : decode cX4_outranks 25 = .ok (.iload_n 2, 1) := by decide +kernel
theorem dX4_outranks_26 : decode cX4_outranks 26 = .ok (.iaload, 1) := by decide +kernel
theorem dX4_outranks_27 : decode cX4_outranks 27 = .ok (.if_icmp .le 7, 3) := by decide +kernel
theorem dX4_outranks_30 : decode cX4_outranks 30 = .ok (.iconst 1, 1) := by decide +kernel
theorem dX4_outranks_31 : decode cX4_outranks 31 = .ok (.goto 4, 3) := by decide +kernel
theorem dX4_outranks_34 : decode cX4_outranks 34 = .ok (.iconst 0, 1) := by decide +kernel
theorem dX4_outranks_35 : decode cX4_outranks 35 = .ok (.ireturn, 1) := by decide +kernel
theorem dX4_outranks_36 : decode cX4_outranks 36 = .ok (.iload_n 1, 1) := by decide +kernel
theorem dX4_outranks_37 : decode cX4_outranks 37 = .ok (.iload_n 2, 1) := by decide +kernel
theorem dX4_outranks_38 : decode cX4_outranks 38 = .ok (.if_icmp .ge 7, 3) := by decide +kernel
theorem dX4_outranks_41 : decode cX4_outranks 41 = .ok (.iconst 1, 1) := by decide +kernel
theorem dX4_outranks_42 : decode cX4_outranks 42 = .ok (.goto 4, 3) := by decide +kernel
theorem dX4_outranks_45 : decode cX4_outranks 45 = .ok (.iconst 0, 1) := by decide +kernel
theorem dX4_outranks_46 : decode cX4_outranks 46 = .ok (.ireturn, 1) := by decide +kernel
set_option maxRecDepth 20000 in
theorem ggX4_exchangeEstimates_J7_fill_53178 : GoodIn wsX4_exchangeEstimates wsJ7_fill_53178 := goodIn_r _ [8] (by decide +kernel) (by decide +kernel)
set_option maxRecDepth 20000 in
theorem gX4_exchangeEstimates_J7_fill_53178 : GoodIn wsX4_exchangeEstimates (va_wsS RX4 84 yJ7_fill_53178 wsJ7_fill_53178) := goodIn_app (goodIn_of _ (by decide +kernel)) ggX4_exchangeEstimates_J7_fill_53178
set_option maxRecDepth 20000 in
theorem ggX4_exchangeEstimates_X1_joins : GoodIn wsX4_exchangeEstimates wsX1_joins := goodIn_r _ [12, 13, 14, 15, 10, 16, 58] (by decide +kernel) (by decide +kernel)
set_option maxRecDepth 20000 in
theorem gX4_exchangeEstimates_X1_joins_n112 : GoodIn wsX4_exchangeEstimates (wsX1_joins) := ggX4_exchangeEstimates_X1_joins
set_option maxRecDepth 20000 in
theorem ggX4_exchangeEstimates_X4_flowBetween : GoodIn wsX4_exchangeEstimates wsX4_flowBetween := goodIn_r _ [21, 3, 22, 23, 24, 25, 4, 26, 10, 27, 28, 13, 29, 30, 31, 32, 33, 34, 35, 40, 41, 42, 43, 44, 45, 46, 47, 48, 49, 50, 51, 52, 53, 54, 55, 56, 57, 58] (by decide +kernel) (by decide +kernel)
set_option maxRecDepth 20000 in
theorem gX4_exchangeEstimates_X4_flowBetween : GoodIn wsX4_exchangeEstimates (wsV RX4 224 RX4 yX4_flowBetween wsX4_flowBetween) := goodIn_app (goodIn_of _ (by decide +kernel)) ggX4_exchangeEstimates_X4_flowBetween
set_option maxRecDepth 20000 in
theorem ggX4_exchangeEstimates_X4_addChanges : GoodIn wsX4_exchangeEstimates wsX4_addChanges := goodIn_r _ [39, 2, 40, 41, 42, 43, 44, 45, 46, 47, 48, 49, 50, 51, 52, 53, 54, 55, 56, 57] (by decide +kernel) (by decide +kernel)
set_option maxRecDepth 20000 in
theorem gX4_exchangeEstimates_X4_addChanges : GoodIn wsX4_exchangeEstimates (wsV RX4 227 RX4 yX4_addChanges wsX4_addChanges) := goodIn_app (goodIn_of _ (by decide +kernel)) ggX4_exchangeEstimates_X4_addChanges
theorem dX4_exchangeEstimates_0 : decode cX4_exchangeEstimates 0 = .ok (.aload_n 0, 1) := by decide +kernel
theorem dX4_exchangeEstimates_1 : decode cX4_exchangeEstimates 1 = .ok (.getfield 57, 3) := by decide +kernel
theorem dX4_exchangeEstimates_4 : decode cX4_exchangeEstimates 4 = .ok (.iconst 0, 1) := by decide +kernel
theorem dX4_exchangeEstimates_5 : decode cX4_exchangeEstimates 5 = .ok (.invokestatic 84, 3) := by decide +kernel
theorem dX4_exchangeEstimates_8 : decode cX4_exchangeEstimates 8 = .ok (.iconst 0, 1) := by decide +kernel
theorem dX4_exchangeEstimates_9 : decode cX4_exchangeEstimates 9 = .ok (.istore_n 1, 1) := by decide +kernel
theorem dX4_exchangeEstimates_10 : decode cX4_exchangeEstimates 10 = .ok (.iload_n 1, 1) := by decide +kernel
theorem dX4_exchangeEstimates_11 : decode cX4_exchangeEstimates 11 = .ok (.aload_n 0, 1) := by decide +kernel
theorem dX4_exchangeEstimates_12 : decode cX4_exchangeEstimates 12 = .ok (.getfield 47, 3) := by decide +kernel
theorem dX4_exchangeEstimates_15 : decode cX4_exchangeEstimates 15 = .ok (.if_icmp .ge 66, 3) := by decide +kernel
theorem dX4_exchangeEstimates_18 : decode cX4_exchangeEstimates 18 = .ok (.iload_n 1, 1) := by decide +kernel
theorem dX4_exchangeEstimates_19 : decode cX4_exchangeEstimates 19 = .ok (.iconst 1, 1) := by decide +kernel
theorem dX4_exchangeEstimates_20 : decode cX4_exchangeEstimates 20 = .ok (.iadd, 1) := by decide +kernel
theorem dX4_exchangeEstimates_21 : decode cX4_exchangeEstimates 21 = .ok (.istore_n 2, 1) := by decide +kernel
theorem dX4_exchangeEstimates_22 : decode cX4_exchangeEstimates 22 = .ok (.iload_n 2, 1) := by decide +kernel
theorem dX4_exchangeEstimates_23 : decode cX4_exchangeEstimates 23 = .ok (.aload_n 0, 1) := by decide +kernel
theorem dX4_exchangeEstimates_24 : decode cX4_exchangeEstimates 24 = .ok (.getfield 47, 3) := by decide +kernel
theorem dX4_exchangeEstimates_27 : decode cX4_exchangeEstimates 27 = .ok (.if_icmp .ge 48, 3) := by decide +kernel
theorem dX4_exchangeEstimates_30 : decode cX4_exchangeEstimates 30 = .ok (.aload_n 0, 1) := by decide +kernel
theorem dX4_exchangeEstimates_31 : decode cX4_exchangeEstimates 31 = .ok (.getfield 54, 3) := by decide +kernel
theorem dX4_exchangeEstimates_34 : decode cX4_exchangeEstimates 34 = .ok (.iload_n 1, 1) := by decide +kernel
theorem dX4_exchangeEstimates_35 : decode cX4_exchangeEstimates 35 = .ok (.iload_n 2, 1) := by decide +kernel
theorem dX4_exchangeEstimates_36 : decode cX4_exchangeEstimates 36 = .ok (.invokevirtual 112, 3) := by decide +kernel
theorem dX4_exchangeEstimates_39 : decode cX4_exchangeEstimates 39 = .ok (.ifCond .eq 30, 3) := by decide +kernel
theorem dX4_exchangeEstimates_42 : decode cX4_exchangeEstimates 42 = .ok (.aload_n 0, 1) := by decide +kernel
theorem dX4_exchangeEstimates_43 : decode cX4_exchangeEstimates 43 = .ok (.iload_n 1, 1) := by decide +kernel
theorem dX4_exchangeEstimates_44 : decode cX4_exchangeEstimates 44 = .ok (.iload_n 2, 1) := by decide +kernel
theorem dX4_exchangeEstimates_45 : decode cX4_exchangeEstimates 45 = .ok (.invokevirtual 224, 3) := by decide +kernel
theorem dX4_exchangeEstimates_48 : decode cX4_exchangeEstimates 48 = .ok (.istore_n 3, 1) := by decide +kernel
theorem dX4_exchangeEstimates_49 : decode cX4_exchangeEstimates 49 = .ok (.aload_n 0, 1) := by decide +kernel
theorem dX4_exchangeEstimates_50 : decode cX4_exchangeEstimates 50 = .ok (.getfield 57, 3) := by decide +kernel
theorem dX4_exchangeEstimates_53 : decode cX4_exchangeEstimates 53 = .ok (.iload_n 1, 1) := by decide +kernel
theorem dX4_exchangeEstimates_54 : decode cX4_exchangeEstimates 54 = .ok (.dup2, 1) := by decide +kernel
theorem dX4_exchangeEstimates_55 : decode cX4_exchangeEstimates 55 = .ok (.iaload, 1) := by decide +kernel
theorem dX4_exchangeEstimates_56 : decode cX4_exchangeEstimates 56 = .ok (.iload_n 3, 1) := by decide +kernel
theorem dX4_exchangeEstimates_57 : decode cX4_exchangeEstimates 57 = .ok (.isub, 1) := by decide +kernel
theorem dX4_exchangeEstimates_58 : decode cX4_exchangeEstimates 58 = .ok (.iastore, 1) := by decide +kernel
theorem dX4_exchangeEstimates_59 : decode cX4_exchangeEstimates 59 = .ok (.aload_n 0, 1) := by decide +kernel
theorem dX4_exchangeEstimates_60 : decode cX4_exchangeEstimates 60 = .ok (.getfield 57, 3) := by decide +kernel
theorem dX4_exchangeEstimates_63 : decode cX4_exchangeEstimates 63 = .ok (.iload_n 2, 1) := by decide +kernel
theorem dX4_exchangeEstimates_64 : decode cX4_exchangeEstimates 64 = .ok (.dup2, 1) := by decide +kernel
theorem dX4_exchangeEstimates_65 : decode cX4_exchangeEstimates 65 = .ok (.iaload, 1) := by decide +kernel
theorem dX4_exchangeEstimates_66 : decode cX4_exchangeEstimates 66 = .ok (.iload_n 3, 1) := by decide +kernel
theorem dX4_exchangeEstimates_67 : decode cX4_exchangeEstimates 67 = .ok (.iadd, 1) := by decide +kernel
theorem dX4_exchangeEstimates_68 : decode cX4_exchangeEstimates 68 = .ok (.iastore, 1) := by decide +kernel
theorem dX4_exchangeEstimates_69 : decode cX4_exchangeEstimates 69 = .ok (.iinc 2 1, 3) := by decide +kernel
theorem dX4_exchangeEstimates_72 : decode cX4_exchangeEstimates 72 = .ok (.goto (-50), 3) := by decide +kernel
theorem dX4_exchangeEstimates_75 : decode cX4_exchangeEstimates 75 = .ok (.iinc 1 1, 3) := by decide +kernel
theorem dX4_exchangeEstimates_78 : decode cX4_exchangeEstimates 78 = .ok (.goto (-68), 3) := by decide +kernel
theorem dX4_exchangeEstimates_81 : decode cX4_exchangeEstimates 81 = .ok (.aload_n 0, 1) := by decide +kernel
theorem dX4_exchangeEstimates_82 : decode cX4_exchangeEstimates 82 = .ok (.aload_n 0, 1) := by decide +kernel
theorem dX4_exchangeEstimates_83 : decode cX4_exchangeEstimates 83 = .ok (.getfield 23, 3) := by decide +kernel
theorem dX4_exchangeEstimates_86 : decode cX4_exchangeEstimates 86 = .ok (.aload_n 0, 1) := by decide +kernel
theorem dX4_exchangeEstimates_87 : decode cX4_exchangeEstimates 87 = .ok (.getfield 57, 3) := by decide +kernel
theorem dX4_exchangeEstimates_90 : decode cX4_exchangeEstimates 90 = .ok (.invokevirtual 227, 3) := by decide +kernel
theorem dX4_exchangeEstimates_93 : decode cX4_exchangeEstimates 93 = .ok (.return_, 1) := by decide +kernel
set_option maxRecDepth 20000 in
theorem ggX4_flowBetween_X1_degreeOf : GoodIn wsX4_flowBetween wsX1_degreeOf := goodIn_r _ [10, 11, 12, 13, 14, 15, 16, 17, 18, 37] (by decide +kernel) (by decide +kernel)
set_option maxRecDepth 20000 in
theorem gX4_flowBetween_X1_degreeOf_n132 : GoodIn wsX4_flowBetween (wsX1_degreeOf) := ggX4_flowBetween_X1_degreeOf
theorem dX4_flowBetween_0 : decode cX4_flowBetween 0 = .ok (.aload_n 0, 1) := by decide +kernel
theorem dX4_flowBetween_1 : decode cX4_flowBetween 1 = .ok (.getfield 54, 3) := by decide +kernel
theorem dX4_flowBetween_4 : decode cX4_flowBetween 4 = .ok (.iload_n 1, 1) := by decide +kernel
theorem dX4_flowBetween_5 : decode cX4_flowBetween 5 = .ok (.invokevirtual 132, 3) := by decide +kernel
theorem dX4_flowBetween_8 : decode cX4_flowBetween 8 = .ok (.aload_n 0, 1) := by decide +kernel
theorem dX4_flowBetween_9 : decode cX4_flowBetween 9 = .ok (.getfield 54, 3) := by decide +kernel
theorem dX4_flowBetween_12 : decode cX4_flowBetween 12 = .ok (.iload_n 2, 1) := by decide +kernel
theorem dX4_flowBetween_13 : decode cX4_flowBetween 13 = .ok (.invokevirtual 132, 3) := by decide +kernel
theorem dX4_flowBetween_16 : decode cX4_flowBetween 16 = .ok (.invokestatic 231, 3) := by decide +kernel
theorem dX4_flowBetween_19 : decode cX4_flowBetween 19 = .ok (.iconst 1, 1) := by decide +kernel
theorem dX4_flowBetween_20 : decode cX4_flowBetween 20 = .ok (.iadd, 1) := by decide +kernel
theorem dX4_flowBetween_21 : decode cX4_flowBetween 21 = .ok (.istore_n 3, 1) := by decide +kernel
theorem dX4_flowBetween_22 : decode cX4_flowBetween 22 = .ok (.aload_n 0, 1) := by decide +kernel
theorem dX4_flowBetween_23 : decode cX4_flowBetween 23 = .ok (.getfield 23, 3) := by decide +kernel
theorem dX4_flowBetween_26 : decode cX4_flowBetween 26 = .ok (.iload_n 1, 1) := by decide +kernel
theorem dX4_flowBetween_27 : decode cX4_flowBetween 27 = .ok (.iaload, 1) := by decide +kernel
theorem dX4_flowBetween_28 : decode cX4_flowBetween 28 = .ok (.aload_n 0, 1) := by decide +kernel
theorem dX4_flowBetween_29 : decode cX4_flowBetween 29 = .ok (.getfield 23, 3) := by decide +kernel
theorem dX4_flowBetween_32 : decode cX4_flowBetween 32 = .ok (.iload_n 2, 1) := by decide +kernel
theorem dX4_flowBetween_33 : decode cX4_flowBetween 33 = .ok (.iaload, 1) := by decide +kernel
theorem dX4_flowBetween_34 : decode cX4_flowBetween 34 = .ok (.isub, 1) := by decide +kernel
theorem dX4_flowBetween_35 : decode cX4_flowBetween 35 = .ok (.iload_n 3, 1) := by decide +kernel
theorem dX4_flowBetween_36 : decode cX4_flowBetween 36 = .ok (.idiv, 1) := by decide +kernel
theorem dX4_flowBetween_37 : decode cX4_flowBetween 37 = .ok (.ireturn, 1) := by decide +kernel
theorem dX4_spanOfEstimates_0 : decode cX4_spanOfEstimates 0 = .ok (.aload_n 0, 1) := by decide +kernel
theorem dX4_spanOfEstimates_1 : decode cX4_spanOfEstimates 1 = .ok (.getfield 47, 3) := by decide +kernel
theorem dX4_spanOfEstimates_4 : decode cX4_spanOfEstimates 4 = .ok (.ifCond .ne 5, 3) := by decide +kernel
theorem dX4_spanOfEstimates_7 : decode cX4_spanOfEstimates 7 = .ok (.iconst 0, 1) := by decide +kernel
theorem dX4_spanOfEstimates_8 : decode cX4_spanOfEstimates 8 = .ok (.ireturn, 1) := by decide +kernel
theorem dX4_spanOfEstimates_9 : decode cX4_spanOfEstimates 9 = .ok (.aload_n 0, 1) := by decide +kernel
theorem dX4_spanOfEstimates_10 : decode cX4_spanOfEstimates 10 = .ok (.getfield 23, 3) := by decide +kernel
theorem dX4_spanOfEstimates_13 : decode cX4_spanOfEstimates 13 = .ok (.iconst 0, 1) := by decide +kernel
theorem dX4_spanOfEstimates_14 : decode cX4_spanOfEstimates 14 = .ok (.iaload, 1) := by decide +kernel
theorem dX4_spanOfEstimates_15 : decode cX4_spanOfEstimates 15 = .ok (.istore_n 1, 1) := by decide +kernel
theorem dX4_spanOfEstimates_16 : decode cX4_spanOfEstimates 16 = .ok (.aload_n 0, 1) := by decide +kernel
theorem dX4_spanOfEstimates_17 : decode cX4_spanOfEstimates 17 = .ok (.getfield 23, 3) := by decide +kernel
theorem dX4_spanOfEstimates_20 : decode cX4_spanOfEstimates 20 = .ok (.iconst 0, 1) := by decide +kernel
theorem dX4_spanOfEstimates_21 : decode cX4_spanOfEstimates 21 = .ok (.iaload, 1) := by decide +kernel
theorem dX4_spanOfEstimates_22 : decode cX4_spanOfEstimates 22 = .ok (.istore_n 2, 1) := by decide +kernel
theorem dX4_spanOfEstimates_23 : decode cX4_spanOfEstimates 23 = .ok (.iconst 1, 1) := by decide +kernel
theorem dX4_spanOfEstimates_24 : decode cX4_spanOfEstimates 24 = .ok (.istore_n 3, 1) := by decide +kernel
theorem dX4_spanOfEstimates_25 : decode cX4_spanOfEstimates 25 = .ok (.iload_n 3, 1) := by decide +kernel
theorem dX4_spanOfEstimates_26 : decode cX4_spanOfEstimates 26 = .ok (.aload_n 0, 1) := by decide +kernel
theorem dX4_spanOfEstimates_27 : decode cX4_spanOfEstimates 27 = .ok (.getfield 47, 3) := by decide +kernel
theorem dX4_spanOfEstimates_30 : decode cX4_spanOfEstimates 30 = .ok (.if_icmp .ge 31, 3) := by decide +kernel
theorem dX4_spanOfEstimates_33 : decode cX4_spanOfEstimates 33 = .ok (.iload_n 1, 1) := by decide +kernel
theorem dX4_spanOfEstimates_34 : decode cX4_spanOfEstimates 34 = .ok (.aload_n 0, 1) := by decide +kernel
theorem dX4_spanOfEstimates_35 : decode cX4_spanOfEstimates 35 = .ok (.getfield 23, 3) := by decide +kernel
theorem dX4_spanOfEstimates_38 : decode cX4_spanOfEstimates 38 = .ok (.iload_n 3, 1) := by decide +kernel
theorem dX4_spanOfEstimates_39 : decode cX4_spanOfEstimates 39 = .ok (.iaload, 1) := by decide +kernel
theorem dX4_spanOfEstimates_40 : decode cX4_spanOfEstimates 40 = .ok (.invokestatic 234, 3) := by decide +kernel
theorem dX4_spanOfEstimates_43 : decode cX4_spanOfEstimates 43 = .ok (.istore_n 1, 1) := by decide +kernel
theorem dX4_spanOfEstimates_44 : decode cX4_spanOfEstimates 44 = .ok (.iload_n 2, 1) := by decide +kernel
theorem dX4_spanOfEstimates_45 : decode cX4_spanOfEstimates 45 = .ok (.aload_n 0, 1) := by decide +kernel
theorem dX4_spanOfEstimates_46 : decode cX4_spanOfEstimates 46 = .ok (.getfield 23, 3) := by decide +kernel
theorem dX4_spanOfEstimates_49 : decode cX4_spanOfEstimates 49 = .ok (.iload_n 3, 1) := by decide +kernel
theorem dX4_spanOfEstimates_50 : decode cX4_spanOfEstimates 50 = .ok (.iaload, 1) := by decide +kernel
theorem dX4_spanOfEstimates_51 : decode cX4_spanOfEstimates 51 = .ok (.invokestatic 231, 3) := by decide +kernel
theorem dX4_spanOfEstimates_54 : decode cX4_spanOfEstimates 54 = .ok (.istore_n 2, 1) := by decide +kernel
theorem dX4_spanOfEstimates_55 : decode cX4_spanOfEstimates 55 = .ok (.iinc 3 1, 3) := by decide +kernel
theorem dX4_spanOfEstimates_58 : decode cX4_spanOfEstimates 58 = .ok (.goto (-33), 3) := by decide +kernel
theorem dX4_spanOfEstimates_61 : decode cX4_spanOfEstimates 61 = .ok (.iload_n 2, 1) := by decide +kernel
theorem dX4_spanOfEstimates_62 : decode cX4_spanOfEstimates 62 = .ok (.iload_n 1, 1) := by decide +kernel
theorem dX4_spanOfEstimates_63 : decode cX4_spanOfEstimates 63 = .ok (.isub, 1) := by decide +kernel
theorem dX4_spanOfEstimates_64 : decode cX4_spanOfEstimates 64 = .ok (.ireturn, 1) := by decide +kernel
set_option maxRecDepth 20000 in
theorem ggX4_handHalves_J7_fill_53178 : GoodIn wsX4_handHalves wsJ7_fill_53178 := goodIn_r _ [10] (by decide +kernel) (by decide +kernel)
set_option maxRecDepth 20000 in
theorem gX4_handHalves_J7_fill_53178 : GoodIn wsX4_handHalves (va_wsS RX4 84 yJ7_fill_53178 wsJ7_fill_53178) := goodIn_app (goodIn_of _ (by decide +kernel)) ggX4_handHalves_J7_fill_53178
set_option maxRecDepth 20000 in
theorem ggX4_handHalves_X4_nextReceiver : GoodIn wsX4_handHalves wsX4_nextReceiver := goodIn_r _ [15, 3, 16, 6, 17, 18, 19, 20, 21, 22, 23, 24, 32, 33, 34, 35, 36, 37, 38, 39, 40, 41, 42, 43, 44, 45, 46, 47, 48, 49, 50] (by decide +kernel) (by decide +kernel)
set_option maxRecDepth 20000 in
theorem gX4_handHalves_X4_nextReceiver : GoodIn wsX4_handHalves (wsV RX4 237 RX4 yX4_nextReceiver wsX4_nextReceiver) := goodIn_app (goodIn_of _ (by decide +kernel)) ggX4_handHalves_X4_nextReceiver
set_option maxRecDepth 20000 in
theorem ggX4_handHalves_X4_handOver : GoodIn wsX4_handHalves wsX4_handOver := goodIn_r _ [27] (by decide +kernel) (by decide +kernel)
set_option maxRecDepth 20000 in
theorem gX4_handHalves_X4_handOver : GoodIn wsX4_handHalves (va_wsS RX4 240 yX4_handOver wsX4_handOver) := goodIn_app (goodIn_of _ (by decide +kernel)) ggX4_handHalves_X4_handOver
set_option maxRecDepth 20000 in
theorem ggX4_handHalves_X4_addChanges : GoodIn wsX4_handHalves wsX4_addChanges := goodIn_r _ [31, 3, 32, 33, 34, 35, 36, 37, 38, 39, 40, 41, 42, 43, 44, 45, 46, 47, 48, 49] (by decide +kernel) (by decide +kernel)
set_option maxRecDepth 20000 in
theorem gX4_handHalves_X4_addChanges : GoodIn wsX4_handHalves (wsV RX4 227 RX4 yX4_addChanges wsX4_addChanges) := goodIn_app (goodIn_of _ (by decide +kernel)) ggX4_handHalves_X4_addChanges
theorem dX4_handHalves_0 : decode cX4_handHalves 0 = .ok (.aload_n 0, 1) := by decide +kernel
theorem dX4_handHalves_1 : decode cX4_handHalves 1 = .ok (.getfield 57, 3) := by decide +kernel
theorem dX4_handHalves_4 : decode cX4_handHalves 4 = .ok (.iconst 0, 1) := by decide +kernel
theorem dX4_handHalves_5 : decode cX4_handHalves 5 = .ok (.invokestatic 84, 3) := by decide +kernel
theorem dX4_handHalves_8 : decode cX4_handHalves 8 = .ok (.aload_n 0, 1) := by decide +kernel
theorem dX4_handHalves_9 : decode cX4_handHalves 9 = .ok (.getfield 60, 3) := by decide +kernel
theorem dX4_handHalves_12 : decode cX4_handHalves 12 = .ok (.iconst 0, 1) := by decide +kernel
theorem dX4_handHalves_13 : decode cX4_handHalves 13 = .ok (.invokestatic 84, 3) := by decide +kernel
theorem dX4_handHalves_16 : decode cX4_handHalves 16 = .ok (.iconst 0, 1) := by decide +kernel
theorem dX4_handHalves_17 : decode cX4_handHalves 17 = .ok (.istore_n 1, 1) := by decide +kernel
theorem dX4_handHalves_18 : decode cX4_handHalves 18 = .ok (.iconst 0, 1) := by decide +kernel
theorem dX4_handHalves_19 : decode cX4_handHalves 19 = .ok (.istore_n 2, 1) := by decide +kernel
theorem dX4_handHalves_20 : decode cX4_handHalves 20 = .ok (.iload_n 2, 1) := by decide +kernel
theorem dX4_handHalves_21 : decode cX4_handHalves 21 = .ok (.aload_n 0, 1) := by decide +kernel
theorem dX4_handHalves_22 : decode cX4_handHalves 22 = .ok (.getfield 47, 3) := by decide +kernel
theorem dX4_handHalves_25 : decode cX4_handHalves 25 = .ok (.if_icmp .ge 63, 3) := by decide +kernel
theorem dX4_handHalves_28 : decode cX4_handHalves 28 = .ok (.aload_n 0, 1) := by decide +kernel
theorem dX4_handHalves_29 : decode cX4_handHalves 29 = .ok (.iload_n 2, 1) := by decide +kernel
theorem dX4_handHalves_30 : decode cX4_handHalves 30 = .ok (.invokevirtual 237, 3) := by decide +kernel
theorem dX4_handHalves_33 : decode cX4_handHalves 33 = .ok (.istore_n 3, 1) := by decide +kernel
theorem dX4_handHalves_34 : decode cX4_handHalves 34 = .ok (.iload_n 3, 1) := by decide +kernel
theorem dX4_handHalves_35 : decode cX4_handHalves 35 = .ok (.ifCond .lt 47, 3) := by decide +kernel
theorem dX4_handHalves_38 : decode cX4_handHalves 38 = .ok (.aload_n 0, 1) := by decide +kernel
theorem dX4_handHalves_39 : decode cX4_handHalves 39 = .ok (.getfield 26, 3) := by decide +kernel
theorem dX4_handHalves_42 : decode cX4_handHalves 42 = .ok (.iload_n 2, 1) := by decide +kernel
theorem dX4_handHalves_43 : decode cX4_handHalves 43 = .ok (.iaload, 1) := by decide +kernel
theorem dX4_handHalves_44 : decode cX4_handHalves 44 = .ok (.iconst 2, 1) := by decide +kernel
theorem dX4_handHalves_45 : decode cX4_handHalves 45 = .ok (.idiv, 1) := by decide +kernel
theorem dX4_handHalves_46 : decode cX4_handHalves 46 = .ok (.iload_n 2, 1) := by decide +kernel
theorem dX4_handHalves_47 : decode cX4_handHalves 47 = .ok (.iload_n 3, 1) := by decide +kernel
theorem dX4_handHalves_48 : decode cX4_handHalves 48 = .ok (.aload_n 0, 1) := by decide +kernel
theorem dX4_handHalves_49 : decode cX4_handHalves 49 = .ok (.getfield 57, 3) := by decide +kernel
theorem dX4_handHalves_52 : decode cX4_handHalves 52 = .ok (.invokestatic 240, 3) := by decide +kernel
theorem dX4_handHalves_55 : decode cX4_handHalves 55 = .ok (.aload_n 0, 1) := by decide +kernel
theorem dX4_handHalves_56 : decode cX4_handHalves 56 = .ok (.getfield 29, 3) := by decide +kernel
theorem dX4_handHalves_59 : decode cX4_handHalves 59 = .ok (.iload_n 2, 1) := by decide +kernel
theorem dX4_handHalves_60 : decode cX4_handHalves 60 = .ok (.iaload, 1) := by decide +kernel
theorem dX4_handHalves_61 : decode cX4_handHalves 61 = .ok (.iconst 2, 1) := by decide +kernel
theorem dX4_handHalves_62 : decode cX4_handHalves 62 = .ok (.idiv, 1) := by decide +kernel
theorem dX4_handHalves_63 : decode cX4_handHalves 63 = .ok (.iload_n 2, 1) := by decide +kernel
theorem dX4_handHalves_64 : decode cX4_handHalves 64 = .ok (.iload_n 3, 1) := by decide +kernel
theorem dX4_handHalves_65 : decode cX4_handHalves 65 = .ok (.aload_n 0, 1) := by decide +kernel
theorem dX4_handHalves_66 : decode cX4_handHalves 66 = .ok (.getfield 60, 3) := by decide +kernel
theorem dX4_handHalves_69 : decode cX4_handHalves 69 = .ok (.invokestatic 240, 3) := by decide +kernel
theorem dX4_handHalves_72 : decode cX4_handHalves 72 = .ok (.aload_n 0, 1) := by decide +kernel
theorem dX4_handHalves_73 : decode cX4_handHalves 73 = .ok (.getfield 32, 3) := by decide +kernel
theorem dX4_handHalves_76 : decode cX4_handHalves 76 = .ok (.iload_n 2, 1) := by decide +kernel
theorem dX4_handHalves_77 : decode cX4_handHalves 77 = .ok (.iload_n 3, 1) := by decide +kernel
theorem dX4_handHalves_78 : decode cX4_handHalves 78 = .ok (.iastore, 1) := by decide +kernel
theorem dX4_handHalves_79 : decode cX4_handHalves 79 = .ok (.iinc 1 1, 3) := by decide +kernel
theorem dX4_handHalves_82 : decode cX4_handHalves 82 = .ok (.iinc 2 1, 3) := by decide +kernel
theorem dX4_handHalves_85 : decode cX4_handHalves 85 = .ok (.goto (-65), 3) := by decide +kernel
theorem dX4_handHalves_88 : decode cX4_handHalves 88 = .ok (.aload_n 0, 1) := by decide +kernel
theorem dX4_handHalves_89 : decode cX4_handHalves 89 = .ok (.aload_n 0, 1) := by decide +kernel
theorem dX4_handHalves_90 : decode cX4_handHalves 90 = .ok (.getfield 26, 3) := by decide +kernel
theorem dX4_handHalves_93 : decode cX4_handHalves 93 = .ok (.aload_n 0, 1) := by decide +kernel
theorem dX4_handHalves_94 : decode cX4_handHalves 94 = .ok (.getfield 57, 3) := by decide +kernel
theorem dX4_handHalves_97 : decode cX4_handHalves 97 = .ok (.invokevirtual 227, 3) := by decide +kernel
theorem dX4_handHalves_100 : decode cX4_handHalves 100 = .ok (.aload_n 0, 1) := by decide +kernel
theorem dX4_handHalves_101 : decode cX4_handHalves 101 = .ok (.aload_n 0, 1) := by decide +kernel
theorem dX4_handHalves_102 : decode cX4_handHalves 102 = .ok (.getfield 29, 3) := by decide +kernel
theorem dX4_handHalves_105 : decode cX4_handHalves 105 = .ok (.aload_n 0, 1) := by decide +kernel
theorem dX4_handHalves_106 : decode cX4_handHalves 106 = .ok (.getfield 60, 3) := by decide +kernel
theorem dX4_handHalves_109 : decode cX4_handHalves 109 = .ok (.invokevirtual 227, 3) := by decide +kernel
theorem dX4_handHalves_112 : decode cX4_handHalves 112 = .ok (.iload_n 1, 1) := by decide +kernel
theorem dX4_handHalves_113 : decode cX4_handHalves 113 = .ok (.ireturn, 1) := by decide +kernel
set_option maxRecDepth 20000 in
theorem ggX4_nextReceiver_X1_joins : GoodIn wsX4_nextReceiver wsX1_joins := goodIn_r _ [7, 8, 9, 10, 5, 11, 30] (by decide +kernel) (by decide +kernel)
set_option maxRecDepth 20000 in
theorem gX4_nextReceiver_X1_joins_n112 : GoodIn wsX4_nextReceiver (wsX1_joins) := ggX4_nextReceiver_X1_joins
theorem dX4_nextReceiver_0 : decode cX4_nextReceiver 0 = .ok (.iconst (-1), 1) := by decide +kernel
theorem dX4_nextReceiver_1 : decode cX4_nextReceiver 1 = .ok (.istore_n 2, 1) := by decide +kernel
theorem dX4_nextReceiver_2 : decode cX4_nextReceiver 2 = .ok (.iconst 0, 1) := by decide +kernel
theorem dX4_nextReceiver_3 : decode cX4_nextReceiver 3 = .ok (.istore_n 3, 1) := by decide +kernel
theorem dX4_nextReceiver_4 : decode cX4_nextReceiver 4 = .ok (.iload_n 3, 1) := by decide +kernel
theorem dX4_nextReceiver_5 : decode cX4_nextReceiver 5 = .ok (.aload_n 0, 1) := by decide +kernel
theorem dX4_nextReceiver_6 : decode cX4_nextReceiver 6 = .ok (.getfield 47, 3) := by decide +kernel
theorem dX4_nextReceiver_9 : decode cX4_nextReceiver 9 = .ok (.if_icmp .ge 40, 3) := by decide +kernel
theorem dX4_nextReceiver_12 : decode cX4_nextReceiver 12 = .ok (.aload_n 0, 1) := by decide +kernel
theorem dX4_nextReceiver_13 : decode cX4_nextReceiver 13 = .ok (.getfield 54, 3) := by decide +kernel
theorem dX4_nextReceiver_16 : decode cX4_nextReceiver 16 = .ok (.iload_n 1, 1) := by decide +kernel
theorem dX4_nextReceiver_17 : decode cX4_nextReceiver 17 = .ok (.iload_n 3, 1) := by decide +kernel
theorem dX4_nextReceiver_18 : decode cX4_nextReceiver 18 = .ok (.invokevirtual 112, 3) := by decide +kernel
theorem dX4_nextReceiver_21 : decode cX4_nextReceiver 21 = .ok (.ifCond .eq 22, 3) := by decide +kernel
theorem dX4_nextReceiver_24 : decode cX4_nextReceiver 24 = .ok (.iload_n 3, 1) := by decide +kernel
theorem dX4_nextReceiver_25 : decode cX4_nextReceiver 25 = .ok (.aload_n 0, 1) := by decide +kernel
theorem dX4_nextReceiver_26 : decode cX4_nextReceiver 26 = .ok (.getfield 32, 3) := by decide +kernel
theorem dX4_nextReceiver_29 : decode cX4_nextReceiver 29 = .ok (.iload_n 1, 1) := by decide +kernel
theorem dX4_nextReceiver_30 : decode cX4_nextReceiver 30 = .ok (.iaload, 1) := by decide +kernel
theorem dX4_nextReceiver_31 : decode cX4_nextReceiver 31 = .ok (.if_icmp .le 5, 3) := by decide +kernel
theorem dX4_nextReceiver_34 : decode cX4_nextReceiver 34 = .ok (.iload_n 3, 1) := by decide +kernel
theorem dX4_nextReceiver_35 : decode cX4_nextReceiver 35 = .ok (.ireturn, 1) := by decide +kernel
theorem dX4_nextReceiver_36 : decode cX4_nextReceiver 36 = .ok (.iload_n 2, 1) := by decide +kernel
theorem dX4_nextReceiver_37 : decode cX4_nextReceiver 37 = .ok (.iconst (-1), 1) := by decide +kernel
theorem dX4_nextReceiver_38 : decode cX4_nextReceiver 38 = .ok (.if_icmp .ne 5, 3) := by decide +kernel
theorem dX4_nextReceiver_41 : decode cX4_nextReceiver 41 = .ok (.iload_n 3, 1) := by decide +kernel
theorem dX4_nextReceiver_42 : decode cX4_nextReceiver 42 = .ok (.istore_n 2, 1) := by decide +kernel
theorem dX4_nextReceiver_43 : decode cX4_nextReceiver 43 = .ok (.iinc 3 1, 3) := by decide +kernel
theorem dX4_nextReceiver_46 : decode cX4_nextReceiver 46 = .ok (.goto (-42), 3) := by decide +kernel
theorem dX4_nextReceiver_49 : decode cX4_nextReceiver 49 = .ok (.iload_n 2, 1) := by decide +kernel
theorem dX4_nextReceiver_50 : decode cX4_nextReceiver 50 = .ok (.ireturn, 1) := by decide +kernel
theorem dX4_handOver_0 : decode cX4_handOver 0 = .ok (.aload_n 3, 1) := by decide +kernel
theorem dX4_handOver_1 : decode cX4_handOver 1 = .ok (.iload_n 1, 1) := by decide +kernel
theorem dX4_handOver_2 : decode cX4_handOver 2 = .ok (.dup2, 1) := by decide +kernel
theorem dX4_handOver_3 : decode cX4_handOver 3 = .ok (.iaload, 1) := by decide +kernel
theorem dX4_handOver_4 : decode cX4_handOver 4 = .ok (.iload_n 0, 1) := by decide +kernel
theorem dX4_handOver_5 : decode cX4_handOver 5 = .ok (.isub, 1) := by decide +kernel
theorem dX4_handOver_6 : decode cX4_handOver 6 = .ok (.iastore, 1) := by decide +kernel
theorem dX4_handOver_7 : decode cX4_handOver 7 = .ok (.aload_n 3, 1) := by decide +kernel
theorem dX4_handOver_8 : decode cX4_handOver 8 = .ok (.iload_n 2, 1) := by decide +kernel
theorem dX4_handOver_9 : decode cX4_handOver 9 = .ok (.dup2, 1) := by decide +kernel
theorem dX4_handOver_10 : decode cX4_handOver 10 = .ok (.iaload, 1) := by decide +kernel
theorem dX4_handOver_11 : decode cX4_handOver 11 = .ok (.iload_n 0, 1) := by decide +kernel
theorem dX4_handOver_12 : decode cX4_handOver 12 = .ok (.iadd, 1) := by decide +kernel
theorem dX4_handOver_13 : decode cX4_handOver 13 = .ok (.iastore, 1) := by decide +kernel
theorem dX4_handOver_14 : decode cX4_handOver 14 = .ok (.return_, 1) := by decide +kernel
theorem dX4_addChanges_0 : decode cX4_addChanges 0 = .ok (.iconst 0, 1) := by decide +kernel
theorem dX4_addChanges_1 : decode cX4_addChanges 1 = .ok (.istore_n 3, 1) := by decide +kernel
theorem dX4_addChanges_2 : decode cX4_addChanges 2 = .ok (.iload_n 3, 1) := by decide +kernel
theorem dX4_addChanges_3 : decode cX4_addChanges 3 = .ok (.aload_n 0, 1) := by decide +kernel
theorem dX4_addChanges_4 : decode cX4_addChanges 4 = .ok (.getfield 47, 3) := by decide +kernel
theorem dX4_addChanges_7 : decode cX4_addChanges 7 = .ok (.if_icmp .ge 18, 3) := by decide +kernel
theorem dX4_addChanges_10 : decode cX4_addChanges 10 = .ok (.aload_n 1, 1) := by decide +kernel
theorem dX4_addChanges_11 : decode cX4_addChanges 11 = .ok (.iload_n 3, 1) := by decide +kernel
theorem dX4_addChanges_12 : decode cX4_addChanges 12 = .ok (.dup2, 1) := by decide +kernel
theorem dX4_addChanges_13 : decode cX4_addChanges 13 = .ok (.iaload, 1) := by decide +kernel
theorem dX4_addChanges_14 : decode cX4_addChanges 14 = .ok (.aload_n 2, 1) := by decide +kernel
theorem dX4_addChanges_15 : decode cX4_addChanges 15 = .ok (.iload_n 3, 1) := by decide +kernel
theorem dX4_addChanges_16 : decode cX4_addChanges 16 = .ok (.iaload, 1) := by decide +kernel
theorem dX4_addChanges_17 : decode cX4_addChanges 17 = .ok (.iadd, 1) := by decide +kernel
theorem dX4_addChanges_18 : decode cX4_addChanges 18 = .ok (.iastore, 1) := by decide +kernel
theorem dX4_addChanges_19 : decode cX4_addChanges 19 = .ok (.iinc 3 1, 3) := by decide +kernel
theorem dX4_addChanges_22 : decode cX4_addChanges 22 = .ok (.goto (-20), 3) := by decide +kernel
theorem dX4_addChanges_25 : decode cX4_addChanges 25 = .ok (.return_, 1) := by decide +kernel
set_option maxRecDepth 20000 in
theorem ggX4_stepTogether_X4_drawNet : GoodIn wsX4_stepTogether wsX4_drawNet := goodIn_r _ [10, 11, 1, 12, 13, 14, 15, 16, 17, 18, 19, 20, 21, 22, 23, 9, 24, 25, 26, 27, 28, 29, 30, 31, 32, 33, 34, 35, 36, 37, 3, 5, 38, 39, 40, 41, 42, 43, 72, 73, 74, 75, 76, 77, 78, 79, 80, 81, 82, 83, 84, 85, 86, 87, 88, 89, 90] (by decide +kernel) (by decide +kernel)
set_option maxRecDepth 20000 in
theorem gX4_stepTogether_X4_drawNet : GoodIn wsX4_stepTogether (wsV RX4 125 RX4 yX4_drawNet wsX4_drawNet) := goodIn_app (goodIn_of _ (by decide +kernel)) ggX4_stepTogether_X4_drawNet
set_option maxRecDepth 20000 in
theorem ggX4_stepTogether_X4_stepOf : GoodIn wsX4_stepTogether wsX4_stepOf := goodIn_r _ [47, 1, 48, 49, 50, 51, 52, 53, 54, 55, 56, 57, 58, 59, 60, 9, 61, 11, 62, 28, 13, 29, 30, 16, 31, 32, 33, 34, 35, 36, 37, 3, 5, 72, 73, 74, 75, 76, 77, 78, 79, 80, 81, 82, 83, 84, 85, 86, 87, 88, 89, 90] (by decide +kernel) (by decide +kernel)
set_option maxRecDepth 20000 in
theorem gX4_stepTogether_X4_stepOf : GoodIn wsX4_stepTogether (wsV RX4 244 RX4 yX4_stepOf wsX4_stepOf) := goodIn_app (goodIn_of _ (by decide +kernel)) ggX4_stepTogether_X4_stepOf
set_option maxRecDepth 20000 in
theorem ggX4_stepTogether_X4_keptOnPlane : GoodIn wsX4_stepTogether wsX4_keptOnPlane := goodIn_r _ [65, 66, 67, 53, 68, 69, 70, 71] (by decide +kernel) (by decide +kernel)
set_option maxRecDepth 20000 in
theorem gX4_stepTogether_X4_keptOnPlane : GoodIn wsX4_stepTogether (va_wsS RX4 248 yX4_keptOnPlane wsX4_keptOnPlane) := goodIn_app (goodIn_of _ (by decide +kernel)) ggX4_stepTogether_X4_keptOnPlane
theorem dX4_stepTogether_0 : decode cX4_stepTogether 0 = .ok (.aload_n 0, 1) := by decide +kernel
theorem dX4_stepTogether_1 : decode cX4_stepTogether 1 = .ok (.invokevirtual 125, 3) := by decide +kernel
theorem dX4_stepTogether_4 : decode cX4_stepTogether 4 = .ok (.iconst 0, 1) := by decide +kernel
theorem dX4_stepTogether_5 : decode cX4_stepTogether 5 = .ok (.istore_n 1, 1) := by decide +kernel
theorem dX4_stepTogether_6 : decode cX4_stepTogether 6 = .ok (.iload_n 1, 1) := by decide +kernel
theorem dX4_stepTogether_7 : decode cX4_stepTogether 7 = .ok (.aload_n 0, 1) := by decide +kernel
theorem dX4_stepTogether_8 : decode cX4_stepTogether 8 = .ok (.getfield 47, 3) := by decide +kernel
theorem dX4_stepTogether_11 : decode cX4_stepTogether 11 = .ok (.if_icmp .ge 39, 3) := by decide +kernel
theorem dX4_stepTogether_14 : decode cX4_stepTogether 14 = .ok (.aload_n 0, 1) := by decide +kernel
theorem dX4_stepTogether_15 : decode cX4_stepTogether 15 = .ok (.getfield 57, 3) := by decide +kernel
theorem dX4_stepTogether_18 : decode cX4_stepTogether 18 = .ok (.iload_n 1, 1) := by decide +kernel
theorem dX4_stepTogether_19 : decode cX4_stepTogether 19 = .ok (.aload_n 0, 1) := by decide +kernel
theorem dX4_stepTogether_20 : decode cX4_stepTogether 20 = .ok (.iload_n 1, 1) := by decide +kernel
theorem dX4_stepTogether_21 : decode cX4_stepTogether 21 = .ok (.aload_n 0, 1) := by decide +kernel
theorem dX4_stepTogether_22 : decode cX4_stepTogether 22 = .ok (.getfield 9, 3) := by decide +kernel
theorem dX4_stepTogether_25 : decode cX4_stepTogether 25 = .ok (.invokevirtual 244, 3) := by decide +kernel
theorem dX4_stepTogether_28 : decode cX4_stepTogether 28 = .ok (.iastore, 1) := by decide +kernel
theorem dX4_stepTogether_29 : decode cX4_stepTogether 29 = .ok (.aload_n 0, 1) := by decide +kernel
theorem dX4_stepTogether_30 : decode cX4_stepTogether 30 = .ok (.getfield 60, 3) := by decide +kernel
theorem dX4_stepTogether_33 : decode cX4_stepTogether 33 = .ok (.iload_n 1, 1) := by decide +kernel
theorem dX4_stepTogether_34 : decode cX4_stepTogether 34 = .ok (.aload_n 0, 1) := by decide +kernel
theorem dX4_stepTogether_35 : decode cX4_stepTogether 35 = .ok (.iload_n 1, 1) := by decide +kernel
theorem dX4_stepTogether_36 : decode cX4_stepTogether 36 = .ok (.aload_n 0, 1) := by decide +kernel
theorem dX4_stepTogether_37 : decode cX4_stepTogether 37 = .ok (.getfield 13, 3) := by decide +kernel
theorem dX4_stepTogether_40 : decode cX4_stepTogether 40 = .ok (.invokevirtual 244, 3) := by decide +kernel
theorem dX4_stepTogether_43 : decode cX4_stepTogether 43 = .ok (.iastore, 1) := by decide +kernel
theorem dX4_stepTogether_44 : decode cX4_stepTogether 44 = .ok (.iinc 1 1, 3) := by decide +kernel
theorem dX4_stepTogether_47 : decode cX4_stepTogether 47 = .ok (.goto (-41), 3) := by decide +kernel
theorem dX4_stepTogether_50 : decode cX4_stepTogether 50 = .ok (.iconst 0, 1) := by decide +kernel
theorem dX4_stepTogether_51 : decode cX4_stepTogether 51 = .ok (.istore_n 1, 1) := by decide +kernel
theorem dX4_stepTogether_52 : decode cX4_stepTogether 52 = .ok (.iload_n 1, 1) := by decide +kernel
theorem dX4_stepTogether_53 : decode cX4_stepTogether 53 = .ok (.aload_n 0, 1) := by decide +kernel
theorem dX4_stepTogether_54 : decode cX4_stepTogether 54 = .ok (.getfield 47, 3) := by decide +kernel
theorem dX4_stepTogether_57 : decode cX4_stepTogether 57 = .ok (.if_icmp .ge 53, 3) := by decide +kernel
theorem dX4_stepTogether_60 : decode cX4_stepTogether 60 = .ok (.aload_n 0, 1) := by decide +kernel
theorem dX4_stepTogether_61 : decode cX4_stepTogether 61 = .ok (.getfield 9, 3) := by decide +kernel
theorem dX4_stepTogether_64 : decode cX4_stepTogether 64 = .ok (.iload_n 1, 1) := by decide +kernel
theorem dX4_stepTogether_65 : decode cX4_stepTogether 65 = .ok (.aload_n 0, 1) := by decide +kernel
theorem dX4_stepTogether_66 : decode cX4_stepTogether 66 = .ok (.getfield 9, 3) := by decide +kernel
theorem dX4_stepTogether_69 : decode cX4_stepTogether 69 = .ok (.iload_n 1, 1) := by decide +kernel
theorem dX4_stepTogether_70 : decode cX4_stepTogether 70 = .ok (.iaload, 1) := by decide +kernel
theorem dX4_stepTogether_71 : decode cX4_stepTogether 71 = .ok (.aload_n 0, 1) := by decide +kernel
theorem dX4_stepTogether_72 : decode cX4_stepTogether 72 = .ok (.getfield 57, 3) := by decide +kernel
theorem dX4_stepTogether_75 : decode cX4_stepTogether 75 = .ok (.iload_n 1, 1) := by decide +kernel
theorem dX4_stepTogether_76 : decode cX4_stepTogether 76 = .ok (.iaload, 1) := by decide +kernel
theorem dX4_stepTogether_77 : decode cX4_stepTogether 77 = .ok (.isub, 1) := by decide +kernel
theorem dX4_stepTogether_78 : decode cX4_stepTogether 78 = .ok (.invokestatic 248, 3) := by decide +kernel
theorem dX4_stepTogether_81 : decode cX4_stepTogether 81 = .ok (.iastore, 1) := by decide +kernel
theorem dX4_stepTogether_82 : decode cX4_stepTogether 82 = .ok (.aload_n 0, 1) := by decide +kernel
theorem dX4_stepTogether_83 : decode cX4_stepTogether 83 = .ok (.getfield 13, 3) := by decide +kernel
theorem dX4_stepTogether_86 : decode cX4_stepTogether 86 = .ok (.iload_n 1, 1) := by decide +kernel
theorem dX4_stepTogether_87 : decode cX4_stepTogether 87 = .ok (.aload_n 0, 1) := by decide +kernel
theorem dX4_stepTogether_88 : decode cX4_stepTogether 88 = .ok (.getfield 13, 3) := by decide +kernel
theorem dX4_stepTogether_91 : decode cX4_stepTogether 91 = .ok (.iload_n 1, 1) := by decide +kernel
theorem dX4_stepTogether_92 : decode cX4_stepTogether 92 = .ok (.iaload, 1) := by decide +kernel
theorem dX4_stepTogether_93 : decode cX4_stepTogether 93 = .ok (.aload_n 0, 1) := by decide +kernel
theorem dX4_stepTogether_94 : decode cX4_stepTogether 94 = .ok (.getfield 60, 3) := by decide +kernel
theorem dX4_stepTogether_97 : decode cX4_stepTogether 97 = .ok (.iload_n 1, 1) := by decide +kernel
theorem dX4_stepTogether_98 : decode cX4_stepTogether 98 = .ok (.iaload, 1) := by decide +kernel
theorem dX4_stepTogether_99 : decode cX4_stepTogether 99 = .ok (.isub, 1) := by decide +kernel
theorem dX4_stepTogether_100 : decode cX4_stepTogether 100 = .ok (.invokestatic 248, 3) := by decide +kernel
theorem dX4_stepTogether_103 : decode cX4_stepTogether 103 = .ok (.iastore, 1) := by decide +kernel
theorem dX4_stepTogether_104 : decode cX4_stepTogether 104 = .ok (.iinc 1 1, 3) := by decide +kernel
theorem dX4_stepTogether_107 : decode cX4_stepTogether 107 = .ok (.goto (-55), 3) := by decide +kernel
theorem dX4_stepTogether_110 : decode cX4_stepTogether 110 = .ok (.return_, 1) := by decide +kernel
set_option maxRecDepth 20000 in
theorem ggX4_stepOf_X4_excessOf : GoodIn wsX4_stepOf wsX4_excessOf := goodIn_r _ [16, 17, 18, 19, 20, 21, 22, 23, 24, 25, 26, 27, 28, 29, 15, 30, 31, 32, 33, 34, 35, 36, 37, 38, 39, 40, 41, 42, 43, 44, 45, 46, 47, 48, 49, 50, 51] (by decide +kernel) (by decide +kernel)
set_option maxRecDepth 20000 in
theorem gX4_stepOf_X4_excessOf : GoodIn wsX4_stepOf (wsV RX4 171 RX4 yX4_excessOf wsX4_excessOf) := goodIn_app (goodIn_of _ (by decide +kernel)) ggX4_stepOf_X4_excessOf
theorem dX4_stepOf_0 : decode cX4_stepOf 0 = .ok (.lconst 0, 1) := by decide +kernel
theorem dX4_stepOf_1 : decode cX4_stepOf 1 = .ok (.lstore_n 3, 1) := by decide +kernel
theorem dX4_stepOf_2 : decode cX4_stepOf 2 = .ok (.iconst 0, 1) := by decide +kernel
theorem dX4_stepOf_3 : decode cX4_stepOf 3 = .ok (.istore 5, 2) := by decide +kernel
theorem dX4_stepOf_5 : decode cX4_stepOf 5 = .ok (.iload 5, 2) := by decide +kernel
theorem dX4_stepOf_7 : decode cX4_stepOf 7 = .ok (.aload_n 0, 1) := by decide +kernel
theorem dX4_stepOf_8 : decode cX4_stepOf 8 = .ok (.getfield 47, 3) := by decide +kernel
theorem dX4_stepOf_11 : decode cX4_stepOf 11 = .ok (.if_icmp .ge 34, 3) := by decide +kernel
theorem dX4_stepOf_14 : decode cX4_stepOf 14 = .ok (.aload_n 2, 1) := by decide +kernel
theorem dX4_stepOf_15 : decode cX4_stepOf 15 = .ok (.iload_n 1, 1) := by decide +kernel
theorem dX4_stepOf_16 : decode cX4_stepOf 16 = .ok (.iaload, 1) := by decide +kernel
theorem dX4_stepOf_17 : decode cX4_stepOf 17 = .ok (.aload_n 2, 1) := by decide +kernel
theorem dX4_stepOf_18 : decode cX4_stepOf 18 = .ok (.iload 5, 2) := by decide +kernel
theorem dX4_stepOf_20 : decode cX4_stepOf 20 = .ok (.iaload, 1) := by decide +kernel
theorem dX4_stepOf_21 : decode cX4_stepOf 21 = .ok (.isub, 1) := by decide +kernel
theorem dX4_stepOf_22 : decode cX4_stepOf 22 = .ok (.i2l, 1) := by decide +kernel
theorem dX4_stepOf_23 : decode cX4_stepOf 23 = .ok (.lstore 6, 2) := by decide +kernel
theorem dX4_stepOf_25 : decode cX4_stepOf 25 = .ok (.lload_n 3, 1) := by decide +kernel
theorem dX4_stepOf_26 : decode cX4_stepOf 26 = .ok (.aload_n 0, 1) := by decide +kernel
theorem dX4_stepOf_27 : decode cX4_stepOf 27 = .ok (.iload_n 1, 1) := by decide +kernel
theorem dX4_stepOf_28 : decode cX4_stepOf 28 = .ok (.iload 5, 2) := by decide +kernel
theorem dX4_stepOf_30 : decode cX4_stepOf 30 = .ok (.invokevirtual 171, 3) := by decide +kernel
theorem dX4_stepOf_33 : decode cX4_stepOf 33 = .ok (.i2l, 1) := by decide +kernel
theorem dX4_stepOf_34 : decode cX4_stepOf 34 = .ok (.lload 6, 2) := by decide +kernel
theorem dX4_stepOf_36 : decode cX4_stepOf 36 = .ok (.lmul, 1) := by decide +kernel
theorem dX4_stepOf_37 : decode cX4_stepOf 37 = .ok (.ladd, 1) := by decide +kernel
theorem dX4_stepOf_38 : decode cX4_stepOf 38 = .ok (.lstore_n 3, 1) := by decide +kernel
theorem dX4_stepOf_39 : decode cX4_stepOf 39 = .ok (.iinc 5 1, 3) := by decide +kernel
theorem dX4_stepOf_42 : decode cX4_stepOf 42 = .ok (.goto (-37), 3) := by decide +kernel
theorem dX4_stepOf_45 : decode cX4_stepOf 45 = .ok (.lload_n 3, 1) := by decide +kernel
theorem dX4_stepOf_46 : decode cX4_stepOf 46 = .ok (.ldc2_w 251, 3) := by decide +kernel
theorem dX4_stepOf_49 : decode cX4_stepOf 49 = .ok (.ldiv, 1) := by decide +kernel
theorem dX4_stepOf_50 : decode cX4_stepOf 50 = .ok (.lstore 5, 2) := by decide +kernel
theorem dX4_stepOf_52 : decode cX4_stepOf 52 = .ok (.ldc2_w 253, 3) := by decide +kernel
theorem dX4_stepOf_55 : decode cX4_stepOf 55 = .ok (.ldc2_w 255, 3) := by decide +kernel
theorem dX4_stepOf_58 : decode cX4_stepOf 58 = .ok (.lload 5, 2) := by decide +kernel
theorem dX4_stepOf_60 : decode cX4_stepOf 60 = .ok (.invokestatic 257, 3) := by decide +kernel
theorem dX4_stepOf_63 : decode cX4_stepOf 63 = .ok (.invokestatic 260, 3) := by decide +kernel
theorem dX4_stepOf_66 : decode cX4_stepOf 66 = .ok (.l2i, 1) := by decide +kernel
theorem dX4_stepOf_67 : decode cX4_stepOf 67 = .ok (.ireturn, 1) := by decide +kernel
theorem dX4_keptOnPlane_0 : decode cX4_keptOnPlane 0 = .ok (.sipush (-1000), 3) := by decide +kernel
theorem dX4_keptOnPlane_3 : decode cX4_keptOnPlane 3 = .ok (.sipush 1000, 3) := by decide +kernel
theorem dX4_keptOnPlane_6 : decode cX4_keptOnPlane 6 = .ok (.iload_n 0, 1) := by decide +kernel
theorem dX4_keptOnPlane_7 : decode cX4_keptOnPlane 7 = .ok (.invokestatic 234, 3) := by decide +kernel
theorem dX4_keptOnPlane_10 : decode cX4_keptOnPlane 10 = .ok (.invokestatic 231, 3) := by decide +kernel
theorem dX4_keptOnPlane_13 : decode cX4_keptOnPlane 13 = .ok (.ireturn, 1) := by decide +kernel
set_option maxRecDepth 20000 in
theorem ggX4_excessOf_X1_joins : GoodIn wsX4_excessOf wsX1_joins := goodIn_r _ [6, 7, 8, 9, 4, 10, 36] (by decide +kernel) (by decide +kernel)
set_option maxRecDepth 20000 in
theorem gX4_excessOf_X1_joins_n112 : GoodIn wsX4_excessOf (wsX1_joins) := ggX4_excessOf_X1_joins
set_option maxRecDepth 20000 in
theorem ggX4_excessOf_X4_squareBetween : GoodIn wsX4_excessOf wsX4_squareBetween := goodIn_r _ [15, 16, 17, 18, 19, 20, 21, 22, 23, 24, 25, 26, 27, 28, 29, 30, 31, 32, 33, 34, 35] (by decide +kernel) (by decide +kernel)
set_option maxRecDepth 20000 in
theorem gX4_excessOf_X4_squareBetween : GoodIn wsX4_excessOf (wsV RX4 215 RX4 yX4_squareBetween wsX4_squareBetween) := goodIn_app (goodIn_of _ (by decide +kernel)) ggX4_excessOf_X4_squareBetween
theorem dX4_excessOf_0 : decode cX4_excessOf 0 = .ok (.aload_n 0, 1) := by decide +kernel
theorem dX4_excessOf_1 : decode cX4_excessOf 1 = .ok (.getfield 54, 3) := by decide +kernel
theorem dX4_excessOf_4 : decode cX4_excessOf 4 = .ok (.iload_n 1, 1) := by decide +kernel
theorem dX4_excessOf_5 : decode cX4_excessOf 5 = .ok (.iload_n 2, 1) := by decide +kernel
theorem dX4_excessOf_6 : decode cX4_excessOf 6 = .ok (.invokevirtual 112, 3) := by decide +kernel
theorem dX4_excessOf_9 : decode cX4_excessOf 9 = .ok (.ifCond .eq 15, 3) := by decide +kernel
theorem dX4_excessOf_12 : decode cX4_excessOf 12 = .ok (.aload_n 0, 1) := by decide +kernel
theorem dX4_excessOf_13 : decode cX4_excessOf 13 = .ok (.getfield 37, 3) := by decide +kernel
theorem dX4_excessOf_16 : decode cX4_excessOf 16 = .ok (.iload_n 1, 1) := by decide +kernel
theorem dX4_excessOf_17 : decode cX4_excessOf 17 = .ok (.aaload, 1) := by decide +kernel
theorem dX4_excessOf_18 : decode cX4_excessOf 18 = .ok (.iload_n 2, 1) := by decide +kernel
theorem dX4_excessOf_19 : decode cX4_excessOf 19 = .ok (.iaload, 1) := by decide +kernel
theorem dX4_excessOf_20 : decode cX4_excessOf 20 = .ok (.iconst (-1), 1) := by decide +kernel
theorem dX4_excessOf_21 : decode cX4_excessOf 21 = .ok (.if_icmp .ne 5, 3) := by decide +kernel
theorem dX4_excessOf_24 : decode cX4_excessOf 24 = .ok (.iconst 0, 1) := by decide +kernel
theorem dX4_excessOf_25 : decode cX4_excessOf 25 = .ok (.ireturn, 1) := by decide +kernel
theorem dX4_excessOf_26 : decode cX4_excessOf 26 = .ok (.aload_n 0, 1) := by decide +kernel
theorem dX4_excessOf_27 : decode cX4_excessOf 27 = .ok (.iload_n 1, 1) := by decide +kernel
theorem dX4_excessOf_28 : decode cX4_excessOf 28 = .ok (.iload_n 2, 1) := by decide +kernel
theorem dX4_excessOf_29 : decode cX4_excessOf 29 = .ok (.invokevirtual 215, 3) := by decide +kernel
theorem dX4_excessOf_32 : decode cX4_excessOf 32 = .ok (.aload_n 0, 1) := by decide +kernel
theorem dX4_excessOf_33 : decode cX4_excessOf 33 = .ok (.getfield 37, 3) := by decide +kernel
theorem dX4_excessOf_36 : decode cX4_excessOf 36 = .ok (.iload_n 1, 1) := by decide +kernel
theorem dX4_excessOf_37 : decode cX4_excessOf 37 = .ok (.aaload, 1) := by decide +kernel
theorem dX4_excessOf_38 : decode cX4_excessOf 38 = .ok (.iload_n 2, 1) := by decide +kernel
theorem dX4_excessOf_39 : decode cX4_excessOf 39 = .ok (.iaload, 1) := by decide +kernel
theorem dX4_excessOf_40 : decode cX4_excessOf 40 = .ok (.isub, 1) := by decide +kernel
theorem dX4_excessOf_41 : decode cX4_excessOf 41 = .ok (.ireturn, 1) := by decide +kernel
theorem dJ6_numberOfTrailingZeros_0f7a4_0 : decode cJ6_numberOfTrailingZeros_0f7a4 0 = .ok (.iload_n 0, 1) := by decide +kernel
theorem dJ6_numberOfTrailingZeros_0f7a4_1 : decode cJ6_numberOfTrailingZeros_0f7a4 1 = .ok (.iconst (-1), 1) := by decide +kernel
theorem dJ6_numberOfTrailingZeros_0f7a4_2 : decode cJ6_numberOfTrailingZeros_0f7a4 2 = .ok (.ixor, 1) := by decide +kernel
theorem dJ6_numberOfTrailingZeros_0f7a4_3 : decode cJ6_numberOfTrailingZeros_0f7a4 3 = .ok (.iload_n 0, 1) := by decide +kernel
theorem dJ6_numberOfTrailingZeros_0f7a4_4 : decode cJ6_numberOfTrailingZeros_0f7a4 4 = .ok (.iconst 1, 1) := by decide +kernel
theorem dJ6_numberOfTrailingZeros_0f7a4_5 : decode cJ6_numberOfTrailingZeros_0f7a4 5 = .ok (.isub, 1) := by decide +kernel
theorem dJ6_numberOfTrailingZeros_0f7a4_6 : decode cJ6_numberOfTrailingZeros_0f7a4 6 = .ok (.iand, 1) := by decide +kernel
theorem dJ6_numberOfTrailingZeros_0f7a4_7 : decode cJ6_numberOfTrailingZeros_0f7a4 7 = .ok (.istore_n 0, 1) := by decide +kernel
theorem dJ6_numberOfTrailingZeros_0f7a4_8 : decode cJ6_numberOfTrailingZeros_0f7a4 8 = .ok (.iload_n 0, 1) := by decide +kernel
theorem dJ6_numberOfTrailingZeros_0f7a4_9 : decode cJ6_numberOfTrailingZeros_0f7a4 9 = .ok (.ifCond .gt 8, 3) := by decide +kernel
theorem dJ6_numberOfTrailingZeros_0f7a4_12 : decode cJ6_numberOfTrailingZeros_0f7a4 12 = .ok (.iload_n 0, 1) := by decide +kernel
theorem dJ6_numberOfTrailingZeros_0f7a4_13 : decode cJ6_numberOfTrailingZeros_0f7a4 13 = .ok (.bipush 32, 2) := by decide +kernel
theorem dJ6_numberOfTrailingZeros_0f7a4_15 : decode cJ6_numberOfTrailingZeros_0f7a4 15 = .ok (.iand, 1) := by decide +kernel
theorem dJ6_numberOfTrailingZeros_0f7a4_16 : decode cJ6_numberOfTrailingZeros_0f7a4 16 = .ok (.ireturn, 1) := by decide +kernel
theorem dJ6_numberOfTrailingZeros_0f7a4_17 : decode cJ6_numberOfTrailingZeros_0f7a4 17 = .ok (.iconst 1, 1) := by decide +kernel
theorem dJ6_numberOfTrailingZeros_0f7a4_18 : decode cJ6_numberOfTrailingZeros_0f7a4 18 = .ok (.istore_n 1, 1) := by decide +kernel
theorem dJ6_numberOfTrailingZeros_0f7a4_19 : decode cJ6_numberOfTrailingZeros_0f7a4 19 = .ok (.iload_n 0, 1) := by decide +kernel
theorem dJ6_numberOfTrailingZeros_0f7a4_20 : decode cJ6_numberOfTrailingZeros_0f7a4 20 = .ok (.ldc_w 264, 3) := by decide +kernel
theorem dJ6_numberOfTrailingZeros_0f7a4_23 : decode cJ6_numberOfTrailingZeros_0f7a4 23 = .ok (.if_icmp .le 11, 3) := by decide +kernel
theorem dJ6_numberOfTrailingZeros_0f7a4_26 : decode cJ6_numberOfTrailingZeros_0f7a4 26 = .ok (.iinc 1 16, 3) := by decide +kernel
theorem dJ6_numberOfTrailingZeros_0f7a4_29 : decode cJ6_numberOfTrailingZeros_0f7a4 29 = .ok (.iload_n 0, 1) := by decide +kernel
theorem dJ6_numberOfTrailingZeros_0f7a4_30 : decode cJ6_numberOfTrailingZeros_0f7a4 30 = .ok (.bipush 16, 2) := by decide +kernel
theorem dJ6_numberOfTrailingZeros_0f7a4_32 : decode cJ6_numberOfTrailingZeros_0f7a4 32 = .ok (.iushr, 1) := by decide +kernel
theorem dJ6_numberOfTrailingZeros_0f7a4_33 : decode cJ6_numberOfTrailingZeros_0f7a4 33 = .ok (.istore_n 0, 1) := by decide +kernel
theorem dJ6_numberOfTrailingZeros_0f7a4_34 : decode cJ6_numberOfTrailingZeros_0f7a4 34 = .ok (.iload_n 0, 1) := by decide +kernel
theorem dJ6_numberOfTrailingZeros_0f7a4_35 : decode cJ6_numberOfTrailingZeros_0f7a4 35 = .ok (.sipush 256, 3) := by decide +kernel
theorem dJ6_numberOfTrailingZeros_0f7a4_38 : decode cJ6_numberOfTrailingZeros_0f7a4 38 = .ok (.if_icmp .le 11, 3) := by decide +kernel
theorem dJ6_numberOfTrailingZeros_0f7a4_41 : decode cJ6_numberOfTrailingZeros_0f7a4 41 = .ok (.iinc 1 8, 3) := by decide +kernel
theorem dJ6_numberOfTrailingZeros_0f7a4_44 : decode cJ6_numberOfTrailingZeros_0f7a4 44 = .ok (.iload_n 0, 1) := by decide +kernel
theorem dJ6_numberOfTrailingZeros_0f7a4_45 : decode cJ6_numberOfTrailingZeros_0f7a4 45 = .ok (.bipush 8, 2) := by decide +kernel
theorem dJ6_numberOfTrailingZeros_0f7a4_47 : decode cJ6_numberOfTrailingZeros_0f7a4 47 = .ok (.iushr, 1) := by decide +kernel
theorem dJ6_numberOfTrailingZeros_0f7a4_48 : decode cJ6_numberOfTrailingZeros_0f7a4 48 = .ok (.istore_n 0, 1) := by decide +kernel
theorem dJ6_numberOfTrailingZeros_0f7a4_49 : decode cJ6_numberOfTrailingZeros_0f7a4 49 = .ok (.iload_n 0, 1) := by decide +kernel
theorem dJ6_numberOfTrailingZeros_0f7a4_50 : decode cJ6_numberOfTrailingZeros_0f7a4 50 = .ok (.bipush 16, 2) := by decide +kernel
theorem dJ6_numberOfTrailingZeros_0f7a4_52 : decode cJ6_numberOfTrailingZeros_0f7a4 52 = .ok (.if_icmp .le 10, 3) := by decide +kernel
theorem dJ6_numberOfTrailingZeros_0f7a4_55 : decode cJ6_numberOfTrailingZeros_0f7a4 55 = .ok (.iinc 1 4, 3) := by decide +kernel
theorem dJ6_numberOfTrailingZeros_0f7a4_58 : decode cJ6_numberOfTrailingZeros_0f7a4 58 = .ok (.iload_n 0, 1) := by decide +kernel
theorem dJ6_numberOfTrailingZeros_0f7a4_59 : decode cJ6_numberOfTrailingZeros_0f7a4 59 = .ok (.iconst 4, 1) := by decide +kernel
theorem dJ6_numberOfTrailingZeros_0f7a4_60 : decode cJ6_numberOfTrailingZeros_0f7a4 60 = .ok (.iushr, 1) := by decide +kernel
theorem dJ6_numberOfTrailingZeros_0f7a4_61 : decode cJ6_numberOfTrailingZeros_0f7a4 61 = .ok (.istore_n 0, 1) := by decide +kernel
theorem dJ6_numberOfTrailingZeros_0f7a4_62 : decode cJ6_numberOfTrailingZeros_0f7a4 62 = .ok (.iload_n 0, 1) := by decide +kernel
theorem dJ6_numberOfTrailingZeros_0f7a4_63 : decode cJ6_numberOfTrailingZeros_0f7a4 63 = .ok (.iconst 4, 1) := by decide +kernel
theorem dJ6_numberOfTrailingZeros_0f7a4_64 : decode cJ6_numberOfTrailingZeros_0f7a4 64 = .ok (.if_icmp .le 10, 3) := by decide +kernel
theorem dJ6_numberOfTrailingZeros_0f7a4_67 : decode cJ6_numberOfTrailingZeros_0f7a4 67 = .ok (.iinc 1 2, 3) := by decide +kernel
theorem dJ6_numberOfTrailingZeros_0f7a4_70 : decode cJ6_numberOfTrailingZeros_0f7a4 70 = .ok (.iload_n 0, 1) := by decide +kernel
theorem dJ6_numberOfTrailingZeros_0f7a4_71 : decode cJ6_numberOfTrailingZeros_0f7a4 71 = .ok (.iconst 2, 1) := by decide +kernel
theorem dJ6_numberOfTrailingZeros_0f7a4_72 : decode cJ6_numberOfTrailingZeros_0f7a4 72 = .ok (.iushr, 1) := by decide +kernel
theorem dJ6_numberOfTrailingZeros_0f7a4_73 : decode cJ6_numberOfTrailingZeros_0f7a4 73 = .ok (.istore_n 0, 1) := by decide +kernel
theorem dJ6_numberOfTrailingZeros_0f7a4_74 : decode cJ6_numberOfTrailingZeros_0f7a4 74 = .ok (.iload_n 1, 1) := by decide +kernel
theorem dJ6_numberOfTrailingZeros_0f7a4_75 : decode cJ6_numberOfTrailingZeros_0f7a4 75 = .ok (.iload_n 0, 1) := by decide +kernel
theorem dJ6_numberOfTrailingZeros_0f7a4_76 : decode cJ6_numberOfTrailingZeros_0f7a4 76 = .ok (.iconst 1, 1) := by decide +kernel
theorem dJ6_numberOfTrailingZeros_0f7a4_77 : decode cJ6_numberOfTrailingZeros_0f7a4 77 = .ok (.iushr, 1) := by decide +kernel
theorem dJ6_numberOfTrailingZeros_0f7a4_78 : decode cJ6_numberOfTrailingZeros_0f7a4 78 = .ok (.iadd, 1) := by decide +kernel
theorem dJ6_numberOfTrailingZeros_0f7a4_79 : decode cJ6_numberOfTrailingZeros_0f7a4 79 = .ok (.ireturn, 1) := by decide +kernel
theorem dJ6_bitCount_0f7a4_0 : decode cJ6_bitCount_0f7a4 0 = .ok (.iload_n 0, 1) := by decide +kernel
theorem dJ6_bitCount_0f7a4_1 : decode cJ6_bitCount_0f7a4 1 = .ok (.iload_n 0, 1) := by decide +kernel
theorem dJ6_bitCount_0f7a4_2 : decode cJ6_bitCount_0f7a4 2 = .ok (.iconst 1, 1) := by decide +kernel
theorem dJ6_bitCount_0f7a4_3 : decode cJ6_bitCount_0f7a4 3 = .ok (.iushr, 1) := by decide +kernel
theorem dJ6_bitCount_0f7a4_4 : decode cJ6_bitCount_0f7a4 4 = .ok (.ldc_w 265, 3) := by decide +kernel
theorem dJ6_bitCount_0f7a4_7 : decode cJ6_bitCount_0f7a4 7 = .ok (.iand, 1) := by decide +kernel
theorem dJ6_bitCount_0f7a4_8 : decode cJ6_bitCount_0f7a4 8 = .ok (.isub, 1) := by decide +kernel
theorem dJ6_bitCount_0f7a4_9 : decode cJ6_bitCount_0f7a4 9 = .ok (.istore_n 0, 1) := by decide +kernel
theorem dJ6_bitCount_0f7a4_10 : decode cJ6_bitCount_0f7a4 10 = .ok (.iload_n 0, 1) := by decide +kernel
theorem dJ6_bitCount_0f7a4_11 : decode cJ6_bitCount_0f7a4 11 = .ok (.ldc_w 266, 3) := by decide +kernel
theorem dJ6_bitCount_0f7a4_14 : decode cJ6_bitCount_0f7a4 14 = .ok (.iand, 1) := by decide +kernel
theorem dJ6_bitCount_0f7a4_15 : decode cJ6_bitCount_0f7a4 15 = .ok (.iload_n 0, 1) := by decide +kernel
theorem dJ6_bitCount_0f7a4_16 : decode cJ6_bitCount_0f7a4 16 = .ok (.iconst 2, 1) := by decide +kernel
theorem dJ6_bitCount_0f7a4_17 : decode cJ6_bitCount_0f7a4 17 = .ok (.iushr, 1) := by decide +kernel
theorem dJ6_bitCount_0f7a4_18 : decode cJ6_bitCount_0f7a4 18 = .ok (.ldc_w 266, 3) := by decide +kernel
theorem dJ6_bitCount_0f7a4_21 : decode cJ6_bitCount_0f7a4 21 = .ok (.iand, 1) := by decide +kernel
theorem dJ6_bitCount_0f7a4_22 : decode cJ6_bitCount_0f7a4 22 = .ok (.iadd, 1) := by decide +kernel
theorem dJ6_bitCount_0f7a4_23 : decode cJ6_bitCount_0f7a4 23 = .ok (.istore_n 0, 1) := by decide +kernel
theorem dJ6_bitCount_0f7a4_24 : decode cJ6_bitCount_0f7a4 24 = .ok (.iload_n 0, 1) := by decide +kernel
theorem dJ6_bitCount_0f7a4_25 : decode cJ6_bitCount_0f7a4 25 = .ok (.iload_n 0, 1) := by decide +kernel
theorem dJ6_bitCount_0f7a4_26 : decode cJ6_bitCount_0f7a4 26 = .ok (.iconst 4, 1) := by decide +kernel
theorem dJ6_bitCount_0f7a4_27 : decode cJ6_bitCount_0f7a4 27 = .ok (.iushr, 1) := by decide +kernel
theorem dJ6_bitCount_0f7a4_28 : decode cJ6_bitCount_0f7a4 28 = .ok (.iadd, 1) := by decide +kernel
theorem dJ6_bitCount_0f7a4_29 : decode cJ6_bitCount_0f7a4 29 = .ok (.ldc_w 267, 3) := by decide +kernel
theorem dJ6_bitCount_0f7a4_32 : decode cJ6_bitCount_0f7a4 32 = .ok (.iand, 1) := by decide +kernel
theorem dJ6_bitCount_0f7a4_33 : decode cJ6_bitCount_0f7a4 33 = .ok (.istore_n 0, 1) := by decide +kernel
theorem dJ6_bitCount_0f7a4_34 : decode cJ6_bitCount_0f7a4 34 = .ok (.iload_n 0, 1) := by decide +kernel
theorem dJ6_bitCount_0f7a4_35 : decode cJ6_bitCount_0f7a4 35 = .ok (.iload_n 0, 1) := by decide +kernel
theorem dJ6_bitCount_0f7a4_36 : decode cJ6_bitCount_0f7a4 36 = .ok (.bipush 8, 2) := by decide +kernel
theorem dJ6_bitCount_0f7a4_38 : decode cJ6_bitCount_0f7a4 38 = .ok (.iushr, 1) := by decide +kernel
theorem dJ6_bitCount_0f7a4_39 : decode cJ6_bitCount_0f7a4 39 = .ok (.iadd, 1) := by decide +kernel
theorem dJ6_bitCount_0f7a4_40 : decode cJ6_bitCount_0f7a4 40 = .ok (.istore_n 0, 1) := by decide +kernel
theorem dJ6_bitCount_0f7a4_41 : decode cJ6_bitCount_0f7a4 41 = .ok (.iload_n 0, 1) := by decide +kernel
theorem dJ6_bitCount_0f7a4_42 : decode cJ6_bitCount_0f7a4 42 = .ok (.iload_n 0, 1) := by decide +kernel
theorem dJ6_bitCount_0f7a4_43 : decode cJ6_bitCount_0f7a4 43 = .ok (.bipush 16, 2) := by decide +kernel
theorem dJ6_bitCount_0f7a4_45 : decode cJ6_bitCount_0f7a4 45 = .ok (.iushr, 1) := by decide +kernel
theorem dJ6_bitCount_0f7a4_46 : decode cJ6_bitCount_0f7a4 46 = .ok (.iadd, 1) := by decide +kernel
theorem dJ6_bitCount_0f7a4_47 : decode cJ6_bitCount_0f7a4 47 = .ok (.istore_n 0, 1) := by decide +kernel
theorem dJ6_bitCount_0f7a4_48 : decode cJ6_bitCount_0f7a4 48 = .ok (.iload_n 0, 1) := by decide +kernel
theorem dJ6_bitCount_0f7a4_49 : decode cJ6_bitCount_0f7a4 49 = .ok (.bipush 63, 2) := by decide +kernel
theorem dJ6_bitCount_0f7a4_51 : decode cJ6_bitCount_0f7a4 51 = .ok (.iand, 1) := by decide +kernel
theorem dJ6_bitCount_0f7a4_52 : decode cJ6_bitCount_0f7a4 52 = .ok (.ireturn, 1) := by decide +kernel
theorem dJ9_abs_0f7a4_0 : decode cJ9_abs_0f7a4 0 = .ok (.iload_n 0, 1) := by decide +kernel
theorem dJ9_abs_0f7a4_1 : decode cJ9_abs_0f7a4 1 = .ok (.ifCond .ge 8, 3) := by decide +kernel
theorem dJ9_abs_0f7a4_4 : decode cJ9_abs_0f7a4 4 = .ok (.iload_n 0, 1) := by decide +kernel
theorem dJ9_abs_0f7a4_5 : decode cJ9_abs_0f7a4 5 = .ok (.ineg, 1) := by decide +kernel
theorem dJ9_abs_0f7a4_6 : decode cJ9_abs_0f7a4 6 = .ok (.goto 4, 3) := by decide +kernel
theorem dJ9_abs_0f7a4_9 : decode cJ9_abs_0f7a4 9 = .ok (.iload_n 0, 1) := by decide +kernel
theorem dJ9_abs_0f7a4_10 : decode cJ9_abs_0f7a4 10 = .ok (.ireturn, 1) := by decide +kernel
theorem dJ9_max_7cf53_0 : decode cJ9_max_7cf53 0 = .ok (.iload_n 0, 1) := by decide +kernel
theorem dJ9_max_7cf53_1 : decode cJ9_max_7cf53 1 = .ok (.iload_n 1, 1) := by decide +kernel
theorem dJ9_max_7cf53_2 : decode cJ9_max_7cf53 2 = .ok (.if_icmp .lt 7, 3) := by decide +kernel
theorem dJ9_max_7cf53_5 : decode cJ9_max_7cf53 5 = .ok (.iload_n 0, 1) := by decide +kernel
theorem dJ9_max_7cf53_6 : decode cJ9_max_7cf53 6 = .ok (.goto 4, 3) := by decide +kernel
theorem dJ9_max_7cf53_9 : decode cJ9_max_7cf53 9 = .ok (.iload_n 1, 1) := by decide +kernel
theorem dJ9_max_7cf53_10 : decode cJ9_max_7cf53 10 = .ok (.ireturn, 1) := by decide +kernel
theorem dJ9_max_f86c9_0 : decode cJ9_max_f86c9 0 = .ok (.lload_n 0, 1) := by decide +kernel
theorem dJ9_max_f86c9_1 : decode cJ9_max_f86c9 1 = .ok (.lload_n 2, 1) := by decide +kernel
theorem dJ9_max_f86c9_2 : decode cJ9_max_f86c9 2 = .ok (.lcmp, 1) := by decide +kernel
theorem dJ9_max_f86c9_3 : decode cJ9_max_f86c9 3 = .ok (.ifCond .lt 7, 3) := by decide +kernel
theorem dJ9_max_f86c9_6 : decode cJ9_max_f86c9 6 = .ok (.lload_n 0, 1) := by decide +kernel
theorem dJ9_max_f86c9_7 : decode cJ9_max_f86c9 7 = .ok (.goto 4, 3) := by decide +kernel
theorem dJ9_max_f86c9_10 : decode cJ9_max_f86c9 10 = .ok (.lload_n 2, 1) := by decide +kernel
theorem dJ9_max_f86c9_11 : decode cJ9_max_f86c9 11 = .ok (.lreturn, 1) := by decide +kernel
theorem dJ9_min_7cf53_0 : decode cJ9_min_7cf53 0 = .ok (.iload_n 0, 1) := by decide +kernel
theorem dJ9_min_7cf53_1 : decode cJ9_min_7cf53 1 = .ok (.iload_n 1, 1) := by decide +kernel
theorem dJ9_min_7cf53_2 : decode cJ9_min_7cf53 2 = .ok (.if_icmp .gt 7, 3) := by decide +kernel
theorem dJ9_min_7cf53_5 : decode cJ9_min_7cf53 5 = .ok (.iload_n 0, 1) := by decide +kernel
theorem dJ9_min_7cf53_6 : decode cJ9_min_7cf53 6 = .ok (.goto 4, 3) := by decide +kernel
theorem dJ9_min_7cf53_9 : decode cJ9_min_7cf53 9 = .ok (.iload_n 1, 1) := by decide +kernel
theorem dJ9_min_7cf53_10 : decode cJ9_min_7cf53 10 = .ok (.ireturn, 1) := by decide +kernel
theorem dJ9_min_f86c9_0 : decode cJ9_min_f86c9 0 = .ok (.lload_n 0, 1) := by decide +kernel
theorem dJ9_min_f86c9_1 : decode cJ9_min_f86c9 1 = .ok (.lload_n 2, 1) := by decide +kernel
theorem dJ9_min_f86c9_2 : decode cJ9_min_f86c9 2 = .ok (.lcmp, 1) := by decide +kernel
theorem dJ9_min_f86c9_3 : decode cJ9_min_f86c9 3 = .ok (.ifCond .gt 7, 3) := by decide +kernel
theorem dJ9_min_f86c9_6 : decode cJ9_min_f86c9 6 = .ok (.lload_n 0, 1) := by decide +kernel
theorem dJ9_min_f86c9_7 : decode cJ9_min_f86c9 7 = .ok (.goto 4, 3) := by decide +kernel
theorem dJ9_min_f86c9_10 : decode cJ9_min_f86c9 10 = .ok (.lload_n 2, 1) := by decide +kernel
theorem dJ9_min_f86c9_11 : decode cJ9_min_f86c9 11 = .ok (.lreturn, 1) := by decide +kernel
theorem dJ7_fill_53178_0 : decode cJ7_fill_53178 0 = .ok (.iconst 0, 1) := by decide +kernel
theorem dJ7_fill_53178_1 : decode cJ7_fill_53178 1 = .ok (.istore_n 2, 1) := by decide +kernel
theorem dJ7_fill_53178_2 : decode cJ7_fill_53178 2 = .ok (.aload_n 0, 1) := by decide +kernel
theorem dJ7_fill_53178_3 : decode cJ7_fill_53178 3 = .ok (.arraylength, 1) := by decide +kernel
theorem dJ7_fill_53178_4 : decode cJ7_fill_53178 4 = .ok (.istore_n 3, 1) := by decide +kernel
theorem dJ7_fill_53178_5 : decode cJ7_fill_53178 5 = .ok (.iload_n 2, 1) := by decide +kernel
theorem dJ7_fill_53178_6 : decode cJ7_fill_53178 6 = .ok (.iload_n 3, 1) := by decide +kernel
theorem dJ7_fill_53178_7 : decode cJ7_fill_53178 7 = .ok (.if_icmp .ge 13, 3) := by decide +kernel
theorem dJ7_fill_53178_10 : decode cJ7_fill_53178 10 = .ok (.aload_n 0, 1) := by decide +kernel
theorem dJ7_fill_53178_11 : decode cJ7_fill_53178 11 = .ok (.iload_n 2, 1) := by decide +kernel
theorem dJ7_fill_53178_12 : decode cJ7_fill_53178 12 = .ok (.iload_n 1, 1) := by decide +kernel
theorem dJ7_fill_53178_13 : decode cJ7_fill_53178 13 = .ok (.iastore, 1) := by decide +kernel
theorem dJ7_fill_53178_14 : decode cJ7_fill_53178 14 = .ok (.iinc 2 1, 3) := by decide +kernel
theorem dJ7_fill_53178_17 : decode cJ7_fill_53178 17 = .ok (.goto (-12), 3) := by decide +kernel
theorem dJ7_fill_53178_20 : decode cJ7_fill_53178 20 = .ok (.return_, 1) := by decide +kernel
