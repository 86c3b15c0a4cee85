theorem dX5_agree_81 : decode cX5_agree 81 = .ok (.iload_n 2, 1) := by decide +kernel
theorem dX5_agree_82 : decode cX5_agree 82 = .ok (.istore_n 2, 1) := by decide +kernel
theorem dX5_agree_83 : decode cX5_agree 83 = .ok (.aload_n 0, 1) := by decide +kernel
theorem dX5_agree_84 : decode cX5_agree 84 = .ok (.getfield 23, 3) := by decide +kernel
theorem dX5_agree_87 : decode cX5_agree 87 = .ok (.iload 4, 2) := by decide +kernel
theorem dX5_agree_89 : decode cX5_agree 89 = .ok (.iaload, 1) := by decide +kernel
theorem dX5_agree_90 : decode cX5_agree 90 = .ok (.iload_n 3, 1) := by decide +kernel
theorem dX5_agree_91 : decode cX5_agree 91 = .ok (.if_icmp .le 13, 3) := by decide +kernel
theorem dX5_agree_94 : decode cX5_agree 94 = .ok (.aload_n 0, 1) := by decide +kernel
theorem dX5_agree_95 : decode cX5_agree 95 = .ok (.getfield 23, 3) := by decide +kernel
theorem dX5_agree_98 : decode cX5_agree 98 = .ok (.iload 4, 2) := by decide +kernel
theorem dX5_agree_100 : decode cX5_agree 100 = .ok (.iaload, 1) := by decide +kernel
theorem dX5_agree_101 : decode cX5_agree 101 = .ok (.goto 4, 3) := by decide +kernel
theorem dX5_agree_104 : decode cX5_agree 104 = .ok (.iload_n 3, 1) := by decide +kernel
theorem dX5_agree_105 : decode cX5_agree 105 = .ok (.istore_n 3, 1) := by decide +kernel
theorem dX5_agree_106 : decode cX5_agree 106 = .ok (.iinc 4 1, 3) := by decide +kernel
theorem dX5_agree_109 : decode cX5_agree 109 = .ok (.goto (-58), 3) := by decide +kernel
theorem dX5_agree_112 : decode cX5_agree 112 = .ok (.iload_n 3, 1) := by decide +kernel
theorem dX5_agree_113 : decode cX5_agree 113 = .ok (.iload_n 2, 1) := by decide +kernel
theorem dX5_agree_114 : decode cX5_agree 114 = .ok (.isub, 1) := by decide +kernel
theorem dX5_agree_115 : decode cX5_agree 115 = .ok (.ireturn, 1) := by decide +kernel
set_option maxRecDepth 20000 in
theorem ggX5_setSum_X5_is : GoodIn wsX5_setSum wsX5_is := goodIn_r _ [8, 9, 10, 11, 7, 12, 18, 19, 20, 21, 22, 23, 24, 25, 26, 27, 28, 29, 30, 31, 32, 33, 34] (by decide +kernel) (by decide +kernel)
set_option maxRecDepth 20000 in
theorem gX5_setSum_X5_is : GoodIn wsX5_setSum (wsV RX5 76 RX5 yX5_is wsX5_is) := goodIn_app (goodIn_of _ (by decide +kernel)) ggX5_setSum_X5_is
set_option maxRecDepth 20000 in
theorem ggX5_setSum_X5_in : GoodIn wsX5_setSum wsX5_in := goodIn_r _ [12] (by decide +kernel) (by decide +kernel)
set_option maxRecDepth 20000 in
theorem gX5_setSum_X5_in : GoodIn wsX5_setSum (va_wsS RX5 64 yX5_in wsX5_in) := goodIn_app (goodIn_of _ (by decide +kernel)) ggX5_setSum_X5_in
set_option maxRecDepth 20000 in
theorem ggX5_setSum_X5_goes : GoodIn wsX5_setSum wsX5_goes := goodIn_r _ [16, 17, 18, 19, 20, 21, 22, 23, 24, 25, 26, 27, 28, 29, 30, 31, 32, 33, 34] (by decide +kernel) (by decide +kernel)
set_option maxRecDepth 20000 in
theorem gX5_setSum_X5_goes : GoodIn wsX5_setSum (wsV RX5 72 RX5 yX5_goes wsX5_goes) := goodIn_app (goodIn_of _ (by decide +kernel)) ggX5_setSum_X5_goes
theorem dX5_setSum_0 : decode cX5_setSum 0 = .ok (.aload_n 0, 1) := by decide +kernel
theorem dX5_setSum_1 : decode cX5_setSum 1 = .ok (.aload_n 0, 1) := by decide +kernel
theorem dX5_setSum_2 : decode cX5_setSum 2 = .ok (.iload_n 1, 1) := by decide +kernel
theorem dX5_setSum_3 : decode cX5_setSum 3 = .ok (.invokevirtual 76, 3) := by decide +kernel
theorem dX5_setSum_6 : decode cX5_setSum 6 = .ok (.iload_n 2, 1) := by decide +kernel
theorem dX5_setSum_7 : decode cX5_setSum 7 = .ok (.ldc 104, 2) := by decide +kernel
theorem dX5_setSum_9 : decode cX5_setSum 9 = .ok (.ldc 105, 2) := by decide +kernel
theorem dX5_setSum_11 : decode cX5_setSum 11 = .ok (.invokestatic 64, 3) := by decide +kernel
theorem dX5_setSum_14 : decode cX5_setSum 14 = .ok (.invokevirtual 72, 3) := by decide +kernel
theorem dX5_setSum_17 : decode cX5_setSum 17 = .ok (.ifCond .ne 5, 3) := by decide +kernel
theorem dX5_setSum_20 : decode cX5_setSum 20 = .ok (.iconst 0, 1) := by decide +kernel
theorem dX5_setSum_21 : decode cX5_setSum 21 = .ok (.ireturn, 1) := by decide +kernel
theorem dX5_setSum_22 : decode cX5_setSum 22 = .ok (.aload_n 0, 1) := by decide +kernel
theorem dX5_setSum_23 : decode cX5_setSum 23 = .ok (.getfield 26, 3) := by decide +kernel
theorem dX5_setSum_26 : decode cX5_setSum 26 = .ok (.iload_n 1, 1) := by decide +kernel
theorem dX5_setSum_27 : decode cX5_setSum 27 = .ok (.iaload, 1) := by decide +kernel
theorem dX5_setSum_28 : decode cX5_setSum 28 = .ok (.istore_n 3, 1) := by decide +kernel
theorem dX5_setSum_29 : decode cX5_setSum 29 = .ok (.aload_n 0, 1) := by decide +kernel
theorem dX5_setSum_30 : decode cX5_setSum 30 = .ok (.getfield 26, 3) := by decide +kernel
theorem dX5_setSum_33 : decode cX5_setSum 33 = .ok (.iload_n 1, 1) := by decide +kernel
theorem dX5_setSum_34 : decode cX5_setSum 34 = .ok (.iload_n 2, 1) := by decide +kernel
theorem dX5_setSum_35 : decode cX5_setSum 35 = .ok (.iastore, 1) := by decide +kernel
theorem dX5_setSum_36 : decode cX5_setSum 36 = .ok (.iload_n 3, 1) := by decide +kernel
theorem dX5_setSum_37 : decode cX5_setSum 37 = .ok (.ireturn, 1) := by decide +kernel
set_option maxRecDepth 20000 in
theorem ggX5_sum_X5_is : GoodIn wsX5_sum wsX5_is := goodIn_r _ [6, 7, 8, 9, 5, 10, 16, 17, 18, 19, 20, 21, 22, 23, 24, 25, 26, 27, 28, 29, 30, 31, 32] (by decide +kernel) (by decide +kernel)
set_option maxRecDepth 20000 in
theorem gX5_sum_X5_is : GoodIn wsX5_sum (wsV RX5 76 RX5 yX5_is wsX5_is) := goodIn_app (goodIn_of _ (by decide +kernel)) ggX5_sum_X5_is
set_option maxRecDepth 20000 in
theorem ggX5_sum_X5_goes : GoodIn wsX5_sum wsX5_goes := goodIn_r _ [14, 15, 16, 17, 18, 19, 20, 21, 22, 23, 24, 25, 26, 27, 28, 29, 30, 31, 32] (by decide +kernel) (by decide +kernel)
set_option maxRecDepth 20000 in
theorem gX5_sum_X5_goes : GoodIn wsX5_sum (wsV RX5 72 RX5 yX5_goes wsX5_goes) := goodIn_app (goodIn_of _ (by decide +kernel)) ggX5_sum_X5_goes
theorem dX5_sum_0 : decode cX5_sum 0 = .ok (.aload_n 0, 1) := by decide +kernel
theorem dX5_sum_1 : decode cX5_sum 1 = .ok (.aload_n 0, 1) := by decide +kernel
theorem dX5_sum_2 : decode cX5_sum 2 = .ok (.iload_n 1, 1) := by decide +kernel
theorem dX5_sum_3 : decode cX5_sum 3 = .ok (.invokevirtual 76, 3) := by decide +kernel
theorem dX5_sum_6 : decode cX5_sum 6 = .ok (.iconst 1, 1) := by decide +kernel
theorem dX5_sum_7 : decode cX5_sum 7 = .ok (.invokevirtual 72, 3) := by decide +kernel
theorem dX5_sum_10 : decode cX5_sum 10 = .ok (.ifCond .eq 12, 3) := by decide +kernel
theorem dX5_sum_13 : decode cX5_sum 13 = .ok (.aload_n 0, 1) := by decide +kernel
theorem dX5_sum_14 : decode cX5_sum 14 = .ok (.getfield 26, 3) := by decide +kernel
theorem dX5_sum_17 : decode cX5_sum 17 = .ok (.iload_n 1, 1) := by decide +kernel
theorem dX5_sum_18 : decode cX5_sum 18 = .ok (.iaload, 1) := by decide +kernel
theorem dX5_sum_19 : decode cX5_sum 19 = .ok (.goto 4, 3) := by decide +kernel
theorem dX5_sum_22 : decode cX5_sum 22 = .ok (.iconst 0, 1) := by decide +kernel
theorem dX5_sum_23 : decode cX5_sum 23 = .ok (.ireturn, 1) := by decide +kernel
set_option maxRecDepth 20000 in
theorem ggX5_weight_X5_is : GoodIn wsX5_weight wsX5_is := goodIn_r _ [6, 7, 8, 9, 5, 10, 16, 17, 18, 19, 20, 21, 22, 23, 24, 25, 26, 27, 28, 29, 30, 31, 32] (by decide +kernel) (by decide +kernel)
set_option maxRecDepth 20000 in
theorem gX5_weight_X5_is : GoodIn wsX5_weight (wsV RX5 76 RX5 yX5_is wsX5_is) := goodIn_app (goodIn_of _ (by decide +kernel)) ggX5_weight_X5_is
set_option maxRecDepth 20000 in
theorem ggX5_weight_X5_goes : GoodIn wsX5_weight wsX5_goes := goodIn_r _ [14, 15, 16, 17, 18, 19, 20, 21, 22, 23, 24, 25, 26, 27, 28, 29, 30, 31, 32] (by decide +kernel) (by decide +kernel)
set_option maxRecDepth 20000 in
theorem gX5_weight_X5_goes : GoodIn wsX5_weight (wsV RX5 72 RX5 yX5_goes wsX5_goes) := goodIn_app (goodIn_of _ (by decide +kernel)) ggX5_weight_X5_goes
theorem dX5_weight_0 : decode cX5_weight 0 = .ok (.aload_n 0, 1) := by decide +kernel
theorem dX5_weight_1 : decode cX5_weight 1 = .ok (.aload_n 0, 1) := by decide +kernel
theorem dX5_weight_2 : decode cX5_weight 2 = .ok (.iload_n 1, 1) := by decide +kernel
theorem dX5_weight_3 : decode cX5_weight 3 = .ok (.invokevirtual 76, 3) := by decide +kernel
theorem dX5_weight_6 : decode cX5_weight 6 = .ok (.iconst 1, 1) := by decide +kernel
theorem dX5_weight_7 : decode cX5_weight 7 = .ok (.invokevirtual 72, 3) := by decide +kernel
theorem dX5_weight_10 : decode cX5_weight 10 = .ok (.ifCond .eq 12, 3) := by decide +kernel
theorem dX5_weight_13 : decode cX5_weight 13 = .ok (.aload_n 0, 1) := by decide +kernel
theorem dX5_weight_14 : decode cX5_weight 14 = .ok (.getfield 29, 3) := by decide +kernel
theorem dX5_weight_17 : decode cX5_weight 17 = .ok (.iload_n 1, 1) := by decide +kernel
theorem dX5_weight_18 : decode cX5_weight 18 = .ok (.iaload, 1) := by decide +kernel
theorem dX5_weight_19 : decode cX5_weight 19 = .ok (.goto 4, 3) := by decide +kernel
theorem dX5_weight_22 : decode cX5_weight 22 = .ok (.iconst 0, 1) := by decide +kernel
theorem dX5_weight_23 : decode cX5_weight 23 = .ok (.ireturn, 1) := by decide +kernel
set_option maxRecDepth 20000 in
theorem ggX5_nextOf_X5_linked : GoodIn wsX5_nextOf wsX5_linked := goodIn_r _ [7, 8, 9, 10, 11, 12, 13, 6, 14, 15, 16, 17, 18, 19, 20, 21, 22, 23, 24, 25, 26, 27, 28, 29, 30, 31, 32, 33] (by decide +kernel) (by decide +kernel)
set_option maxRecDepth 20000 in
theorem gX5_nextOf_X5_linked : GoodIn wsX5_nextOf (wsV RX5 84 RX5 yX5_linked wsX5_linked) := goodIn_app (goodIn_of _ (by decide +kernel)) ggX5_nextOf_X5_linked
theorem dX5_nextOf_0 : decode cX5_nextOf 0 = .ok (.iconst 1, 1) := by decide +kernel
theorem dX5_nextOf_1 : decode cX5_nextOf 1 = .ok (.istore_n 2, 1) := by decide +kernel
theorem dX5_nextOf_2 : decode cX5_nextOf 2 = .ok (.iload_n 2, 1) := by decide +kernel
theorem dX5_nextOf_3 : decode cX5_nextOf 3 = .ok (.bipush 16, 2) := by decide +kernel
theorem dX5_nextOf_5 : decode cX5_nextOf 5 = .ok (.if_icmp .gt 37, 3) := by decide +kernel
theorem dX5_nextOf_8 : decode cX5_nextOf 8 = .ok (.aload_n 0, 1) := by decide +kernel
theorem dX5_nextOf_9 : decode cX5_nextOf 9 = .ok (.getfield 32, 3) := by decide +kernel
theorem dX5_nextOf_12 : decode cX5_nextOf 12 = .ok (.iload_n 1, 1) := by decide +kernel
theorem dX5_nextOf_13 : decode cX5_nextOf 13 = .ok (.iaload, 1) := by decide +kernel
theorem dX5_nextOf_14 : decode cX5_nextOf 14 = .ok (.iload_n 2, 1) := by decide +kernel
theorem dX5_nextOf_15 : decode cX5_nextOf 15 = .ok (.iadd, 1) := by decide +kernel
theorem dX5_nextOf_16 : decode cX5_nextOf 16 = .ok (.istore_n 3, 1) := by decide +kernel
theorem dX5_nextOf_17 : decode cX5_nextOf 17 = .ok (.iload_n 3, 1) := by decide +kernel
theorem dX5_nextOf_18 : decode cX5_nextOf 18 = .ok (.aload_n 0, 1) := by decide +kernel
theorem dX5_nextOf_19 : decode cX5_nextOf 19 = .ok (.getfield 61, 3) := by decide +kernel
theorem dX5_nextOf_22 : decode cX5_nextOf 22 = .ok (.if_icmp .ge 14, 3) := by decide +kernel
theorem dX5_nextOf_25 : decode cX5_nextOf 25 = .ok (.aload_n 0, 1) := by decide +kernel
theorem dX5_nextOf_26 : decode cX5_nextOf 26 = .ok (.iload_n 1, 1) := by decide +kernel
theorem dX5_nextOf_27 : decode cX5_nextOf 27 = .ok (.iload_n 3, 1) := by decide +kernel
theorem dX5_nextOf_28 : decode cX5_nextOf 28 = .ok (.invokevirtual 84, 3) := by decide +kernel
theorem dX5_nextOf_31 : decode cX5_nextOf 31 = .ok (.ifCond .eq 5, 3) := by decide +kernel
theorem dX5_nextOf_34 : decode cX5_nextOf 34 = .ok (.iload_n 3, 1) := by decide +kernel
theorem dX5_nextOf_35 : decode cX5_nextOf 35 = .ok (.ireturn, 1) := by decide +kernel
theorem dX5_nextOf_36 : decode cX5_nextOf 36 = .ok (.iinc 2 1, 3) := by decide +kernel
theorem dX5_nextOf_39 : decode cX5_nextOf 39 = .ok (.goto (-37), 3) := by decide +kernel
theorem dX5_nextOf_42 : decode cX5_nextOf 42 = .ok (.iconst 0, 1) := by decide +kernel
theorem dX5_nextOf_43 : decode cX5_nextOf 43 = .ok (.istore_n 2, 1) := by decide +kernel
theorem dX5_nextOf_44 : decode cX5_nextOf 44 = .ok (.iload_n 2, 1) := by decide +kernel
theorem dX5_nextOf_45 : decode cX5_nextOf 45 = .ok (.aload_n 0, 1) := by decide +kernel
theorem dX5_nextOf_46 : decode cX5_nextOf 46 = .ok (.getfield 61, 3) := by decide +kernel
theorem dX5_nextOf_49 : decode cX5_nextOf 49 = .ok (.if_icmp .ge 20, 3) := by decide +kernel
theorem dX5_nextOf_52 : decode cX5_nextOf 52 = .ok (.aload_n 0, 1) := by decide +kernel
theorem dX5_nextOf_53 : decode cX5_nextOf 53 = .ok (.iload_n 1, 1) := by decide +kernel
theorem dX5_nextOf_54 : decode cX5_nextOf 54 = .ok (.iload_n 2, 1) := by decide +kernel
theorem dX5_nextOf_55 : decode cX5_nextOf 55 = .ok (.invokevirtual 84, 3) := by decide +kernel
theorem dX5_nextOf_58 : decode cX5_nextOf 58 = .ok (.ifCond .eq 5, 3) := by decide +kernel
theorem dX5_nextOf_61 : decode cX5_nextOf 61 = .ok (.iload_n 2, 1) := by decide +kernel
theorem dX5_nextOf_62 : decode cX5_nextOf 62 = .ok (.ireturn, 1) := by decide +kernel
theorem dX5_nextOf_63 : decode cX5_nextOf 63 = .ok (.iinc 2 1, 3) := by decide +kernel
theorem dX5_nextOf_66 : decode cX5_nextOf 66 = .ok (.goto (-22), 3) := by decide +kernel
theorem dX5_nextOf_69 : decode cX5_nextOf 69 = .ok (.iconst (-1), 1) := by decide +kernel
theorem dX5_nextOf_70 : decode cX5_nextOf 70 = .ok (.ireturn, 1) := by decide +kernel
set_option maxRecDepth 20000 in
theorem ggX5_spreads_X5_nextOf : GoodIn wsX5_spreads wsX5_nextOf := goodIn_r _ [11, 6, 1, 12, 13, 14, 10, 15, 16, 17, 18, 19, 20, 21, 22, 23, 24, 25, 26, 27, 28, 29, 30, 31, 32, 33, 34, 35, 36, 37, 38, 39, 40, 41] (by decide +kernel) (by decide +kernel)
set_option maxRecDepth 20000 in
theorem gX5_spreads_X5_nextOf : GoodIn wsX5_spreads (wsV RX5 109 RX5 yX5_nextOf wsX5_nextOf) := goodIn_app (goodIn_of _ (by decide +kernel)) ggX5_spreads_X5_nextOf
theorem dX5_spreads_0 : decode cX5_spreads 0 = .ok (.iconst 0, 1) := by decide +kernel
theorem dX5_spreads_1 : decode cX5_spreads 1 = .ok (.istore_n 1, 1) := by decide +kernel
theorem dX5_spreads_2 : decode cX5_spreads 2 = .ok (.iconst 0, 1) := by decide +kernel
theorem dX5_spreads_3 : decode cX5_spreads 3 = .ok (.istore_n 2, 1) := by decide +kernel
theorem dX5_spreads_4 : decode cX5_spreads 4 = .ok (.iload_n 2, 1) := by decide +kernel
theorem dX5_spreads_5 : decode cX5_spreads 5 = .ok (.aload_n 0, 1) := by decide +kernel
theorem dX5_spreads_6 : decode cX5_spreads 6 = .ok (.getfield 61, 3) := by decide +kernel
theorem dX5_spreads_9 : decode cX5_spreads 9 = .ok (.if_icmp .ge 23, 3) := by decide +kernel
theorem dX5_spreads_12 : decode cX5_spreads 12 = .ok (.aload_n 0, 1) := by decide +kernel
theorem dX5_spreads_13 : decode cX5_spreads 13 = .ok (.getfield 45, 3) := by decide +kernel
theorem dX5_spreads_16 : decode cX5_spreads 16 = .ok (.iload_n 2, 1) := by decide +kernel
theorem dX5_spreads_17 : decode cX5_spreads 17 = .ok (.iconst 0, 1) := by decide +kernel
theorem dX5_spreads_18 : decode cX5_spreads 18 = .ok (.iastore, 1) := by decide +kernel
theorem dX5_spreads_19 : decode cX5_spreads 19 = .ok (.aload_n 0, 1) := by decide +kernel
theorem dX5_spreads_20 : decode cX5_spreads 20 = .ok (.getfield 48, 3) := by decide +kernel
theorem dX5_spreads_23 : decode cX5_spreads 23 = .ok (.iload_n 2, 1) := by decide +kernel
theorem dX5_spreads_24 : decode cX5_spreads 24 = .ok (.iconst 0, 1) := by decide +kernel
theorem dX5_spreads_25 : decode cX5_spreads 25 = .ok (.iastore, 1) := by decide +kernel
theorem dX5_spreads_26 : decode cX5_spreads 26 = .ok (.iinc 2 1, 3) := by decide +kernel
theorem dX5_spreads_29 : decode cX5_spreads 29 = .ok (.goto (-25), 3) := by decide +kernel
theorem dX5_spreads_32 : decode cX5_spreads 32 = .ok (.iconst 0, 1) := by decide +kernel
theorem dX5_spreads_33 : decode cX5_spreads 33 = .ok (.istore_n 2, 1) := by decide +kernel
theorem dX5_spreads_34 : decode cX5_spreads 34 = .ok (.iload_n 2, 1) := by decide +kernel
theorem dX5_spreads_35 : decode cX5_spreads 35 = .ok (.aload_n 0, 1) := by decide +kernel
theorem dX5_spreads_36 : decode cX5_spreads 36 = .ok (.getfield 61, 3) := by decide +kernel
theorem dX5_spreads_39 : decode cX5_spreads 39 = .ok (.if_icmp .ge 97, 3) := by decide +kernel
theorem dX5_spreads_42 : decode cX5_spreads 42 = .ok (.aload_n 0, 1) := by decide +kernel
theorem dX5_spreads_43 : decode cX5_spreads 43 = .ok (.iload_n 2, 1) := by decide +kernel
theorem dX5_spreads_44 : decode cX5_spreads 44 = .ok (.invokevirtual 109, 3) := by decide +kernel
theorem dX5_spreads_47 : decode cX5_spreads 47 = .ok (.istore_n 3, 1) := by decide +kernel
theorem dX5_spreads_48 : decode cX5_spreads 48 = .ok (.iload_n 3, 1) := by decide +kernel
theorem dX5_spreads_49 : decode cX5_spreads 49 = .ok (.ifCond .lt 81, 3) := by decide +kernel
theorem dX5_spreads_52 : decode cX5_spreads 52 = .ok (.aload_n 0, 1) := by decide +kernel
theorem dX5_spreads_53 : decode cX5_spreads 53 = .ok (.getfield 45, 3) := by decide +kernel
theorem dX5_spreads_56 : decode cX5_spreads 56 = .ok (.iload_n 2, 1) := by decide +kernel
theorem dX5_spreads_57 : decode cX5_spreads 57 = .ok (.dup2, 1) := by decide +kernel
theorem dX5_spreads_58 : decode cX5_spreads 58 = .ok (.iaload, 1) := by decide +kernel
theorem dX5_spreads_59 : decode cX5_spreads 59 = .ok (.aload_n 0, 1) := by decide +kernel
theorem dX5_spreads_60 : decode cX5_spreads 60 = .ok (.getfield 26, 3) := by decide +kernel
theorem dX5_spreads_63 : decode cX5_spreads 63 = .ok (.iload_n 2, 1) := by decide +kernel
theorem dX5_spreads_64 : decode cX5_spreads 64 = .ok (.iaload, 1) := by decide +kernel
theorem dX5_spreads_65 : decode cX5_spreads 65 = .ok (.iconst 2, 1) := by decide +kernel
theorem dX5_spreads_66 : decode cX5_spreads 66 = .ok (.idiv, 1) := by decide +kernel
theorem dX5_spreads_67 : decode cX5_spreads 67 = .ok (.isub, 1) := by decide +kernel
theorem dX5_spreads_68 : decode cX5_spreads 68 = .ok (.iastore, 1) := by decide +kernel
theorem dX5_spreads_69 : decode cX5_spreads 69 = .ok (.aload_n 0, 1) := by decide +kernel
theorem dX5_spreads_70 : decode cX5_spreads 70 = .ok (.getfield 45, 3) := by decide +kernel
theorem dX5_spreads_73 : decode cX5_spreads 73 = .ok (.iload_n 3, 1) := by decide +kernel
theorem dX5_spreads_74 : decode cX5_spreads 74 = .ok (.dup2, 1) := by decide +kernel
theorem dX5_spreads_75 : decode cX5_spreads 75 = .ok (.iaload, 1) := by decide +kernel
theorem dX5_spreads_76 : decode cX5_spreads 76 = .ok (.aload_n 0, 1) := by decide +kernel
theorem dX5_spreads_77 : decode cX5_spreads 77 = .ok (.getfield 26, 3) := by decide +kernel
theorem dX5_spreads_80 : decode cX5_spreads 80 = .ok (.iload_n 2, 1) := by decide +kernel
theorem dX5_spreads_81 : decode cX5_spreads 81 = .ok (.iaload, 1) := by decide +kernel
theorem dX5_spreads_82 : decode cX5_spreads 82 = .ok (.iconst 2, 1) := by decide +kernel
theorem dX5_spreads_83 : decode cX5_spreads 83 = .ok (.idiv, 1) := by decide +kernel
theorem dX5_spreads_84 : decode cX5_spreads 84 = .ok (.iadd, 1) := by decide +kernel
theorem dX5_spreads_85 : decode cX5_spreads 85 = .ok (.iastore, 1) := by decide +kernel
theorem dX5_spreads_86 : decode cX5_spreads 86 = .ok (.aload_n 0, 1) := by decide +kernel
theorem dX5_spreads_87 : decode cX5_spreads 87 = .ok (.getfield 48, 3) := by decide +kernel
theorem dX5_spreads_90 : decode cX5_spreads 90 = .ok (.iload_n 2, 1) := by decide +kernel
theorem dX5_spreads_91 : decode cX5_spreads 91 = .ok (.dup2, 1) := by decide +kernel
theorem dX5_spreads_92 : decode cX5_spreads 92 = .ok (.iaload, 1) := by decide +kernel
theorem dX5_spreads_93 : decode cX5_spreads 93 = .ok (.aload_n 0, 1) := by decide +kernel
theorem dX5_spreads_94 : decode cX5_spreads 94 = .ok (.getfield 29, 3) := by decide +kernel
theorem dX5_spreads_97 : decode cX5_spreads 97 = .ok (.iload_n 2, 1) := by decide +kernel
theorem dX5_spreads_98 : decode cX5_spreads 98 = .ok (.iaload, 1) := by decide +kernel
theorem dX5_spreads_99 : decode cX5_spreads 99 = .ok (.iconst 2, 1) := by decide +kernel
theorem dX5_spreads_100 : decode cX5_spreads 100 = .ok (.idiv, 1) := by decide +kernel
theorem dX5_spreads_101 : decode cX5_spreads 101 = .ok (.isub, 1) := by decide +kernel
theorem dX5_spreads_102 : decode cX5_spreads 102 = .ok (.iastore, 1) := by decide +kernel
theorem dX5_spreads_103 : decode cX5_spreads 103 = .ok (.aload_n 0, 1) := by decide +kernel
theorem dX5_spreads_104 : decode cX5_spreads 104 = .ok (.getfield 48, 3) := by decide +kernel
theorem dX5_spreads_107 : decode cX5_spreads 107 = .ok (.iload_n 3, 1) := by decide +kernel
theorem dX5_spreads_108 : decode cX5_spreads 108 = .ok (.dup2, 1) := by decide +kernel
theorem dX5_spreads_109 : decode cX5_spreads 109 = .ok (.iaload, 1) := by decide +kernel
theorem dX5_spreads_110 : decode cX5_spreads 110 = .ok (.aload_n 0, 1) := by decide +kernel
theorem dX5_spreads_111 : decode cX5_spreads 111 = .ok (.getfield 29, 3) := by decide +kernel
theorem dX5_spreads_114 : decode cX5_spreads 114 = .ok (.iload_n 2, 1) := by decide +kernel
theorem dX5_spreads_115 : decode cX5_spreads 115 = .ok (.iaload, 1) := by decide +kernel
theorem dX5_spreads_116 : decode cX5_spreads 116 = .ok (.iconst 2, 1) := by decide +kernel
theorem dX5_spreads_117 : decode cX5_spreads 117 = .ok (.idiv, 1) := by decide +kernel
theorem dX5_spreads_118 : decode cX5_spreads 118 = .ok (.iadd, 1) := by decide +kernel
theorem dX5_spreads_119 : decode cX5_spreads 119 = .ok (.iastore, 1) := by decide +kernel
theorem dX5_spreads_120 : decode cX5_spreads 120 = .ok (.aload_n 0, 1) := by decide +kernel
theorem dX5_spreads_121 : decode cX5_spreads 121 = .ok (.getfield 32, 3) := by decide +kernel
theorem dX5_spreads_124 : decode cX5_spreads 124 = .ok (.iload_n 2, 1) := by decide +kernel
theorem dX5_spreads_125 : decode cX5_spreads 125 = .ok (.iload_n 3, 1) := by decide +kernel
theorem dX5_spreads_126 : decode cX5_spreads 126 = .ok (.iastore, 1) := by decide +kernel
theorem dX5_spreads_127 : decode cX5_spreads 127 = .ok (.iinc 1 1, 3) := by decide +kernel
theorem dX5_spreads_130 : decode cX5_spreads 130 = .ok (.iinc 2 1, 3) := by decide +kernel
theorem dX5_spreads_133 : decode cX5_spreads 133 = .ok (.goto (-99), 3) := by decide +kernel
theorem dX5_spreads_136 : decode cX5_spreads 136 = .ok (.iconst 0, 1) := by decide +kernel
theorem dX5_spreads_137 : decode cX5_spreads 137 = .ok (.istore_n 2, 1) := by decide +kernel
theorem dX5_spreads_138 : decode cX5_spreads 138 = .ok (.iload_n 2, 1) := by decide +kernel
theorem dX5_spreads_139 : decode cX5_spreads 139 = .ok (.aload_n 0, 1) := by decide +kernel
theorem dX5_spreads_140 : decode cX5_spreads 140 = .ok (.getfield 61, 3) := by decide +kernel
theorem dX5_spreads_143 : decode cX5_spreads 143 = .ok (.if_icmp .ge 39, 3) := by decide +kernel
theorem dX5_spreads_146 : decode cX5_spreads 146 = .ok (.aload_n 0, 1) := by decide +kernel
theorem dX5_spreads_147 : decode cX5_spreads 147 = .ok (.getfield 26, 3) := by decide +kernel
theorem dX5_spreads_150 : decode cX5_spreads 150 = .ok (.iload_n 2, 1) := by decide +kernel
theorem dX5_spreads_151 : decode cX5_spreads 151 = .ok (.dup2, 1) := by decide +kernel
theorem dX5_spreads_152 : decode cX5_spreads 152 = .ok (.iaload, 1) := by decide +kernel
theorem dX5_spreads_153 : decode cX5_spreads 153 = .ok (.aload_n 0, 1) := by decide +kernel
theorem dX5_spreads_154 : decode cX5_spreads 154 = .ok (.getfield 45, 3) := by decide +kernel
theorem dX5_spreads_157 : decode cX5_spreads 157 = .ok (.iload_n 2, 1) := by decide +kernel
theorem dX5_spreads_158 : decode cX5_spreads 158 = .ok (.iaload, 1) := by decide +kernel
theorem dX5_spreads_159 : decode cX5_spreads 159 = .ok (.iadd, 1) := by decide +kernel
theorem dX5_spreads_160 : decode cX5_spreads 160 = .ok (.iastore, 1) := by decide +kernel
theorem dX5_spreads_161 : decode cX5_spreads 161 = .ok (.aload_n 0, 1) := by decide +kernel
theorem dX5_spreads_162 : decode cX5_spreads 162 = .ok (.getfield 29, 3) := by decide +kernel
theorem dX5_spreads_165 : decode cX5_spreads 165 = .ok (.iload_n 2, 1) := by decide +kernel
theorem dX5_spreads_166 : decode cX5_spreads 166 = .ok (.dup2, 1) := by decide +kernel
theorem dX5_spreads_167 : decode cX5_spreads 167 = .ok (.iaload, 1) := by decide +kernel
theorem dX5_spreads_168 : decode cX5_spreads 168 = .ok (.aload_n 0, 1) := by decide +kernel
theorem dX5_spreads_169 : decode cX5_spreads 169 = .ok (.getfield 48, 3) := by decide +kernel
theorem dX5_spreads_172 : decode cX5_spreads 172 = .ok (.iload_n 2, 1) := by decide +kernel
theorem dX5_spreads_173 : decode cX5_spreads 173 = .ok (.iaload, 1) := by decide +kernel
theorem dX5_spreads_174 : decode cX5_spreads 174 = .ok (.iadd, 1) := by decide +kernel
theorem dX5_spreads_175 : decode cX5_spreads 175 = .ok (.iastore, 1) := by decide +kernel
theorem dX5_spreads_176 : decode cX5_spreads 176 = .ok (.iinc 2 1, 3) := by decide +kernel
theorem dX5_spreads_179 : decode cX5_spreads 179 = .ok (.goto (-41), 3) := by decide +kernel
theorem dX5_spreads_182 : decode cX5_spreads 182 = .ok (.iload_n 1, 1) := by decide +kernel
theorem dX5_spreads_183 : decode cX5_spreads 183 = .ok (.ireturn, 1) := by decide +kernel
set_option maxRecDepth 20000 in
theorem ggX5_spread_X5_in : GoodIn wsX5_spread wsX5_in := goodIn_r _ [4] (by decide +kernel) (by decide +kernel)
set_option maxRecDepth 20000 in
theorem gX5_spread_X5_in : GoodIn wsX5_spread (va_wsS RX5 64 yX5_in wsX5_in) := goodIn_app (goodIn_of _ (by decide +kernel)) ggX5_spread_X5_in
set_option maxRecDepth 20000 in
theorem ggX5_spread_X5_goes : GoodIn wsX5_spread wsX5_goes := goodIn_r _ [8, 9, 37, 38, 39, 40, 41, 42, 43, 44, 45, 46, 47, 48, 49, 50, 51, 52, 53] (by decide +kernel) (by decide +kernel)
set_option maxRecDepth 20000 in
theorem gX5_spread_X5_goes : GoodIn wsX5_spread (wsV RX5 72 RX5 yX5_goes wsX5_goes) := goodIn_app (goodIn_of _ (by decide +kernel)) ggX5_spread_X5_goes
set_option maxRecDepth 20000 in
theorem ggX5_spread_X5_spreads : GoodIn wsX5_spread wsX5_spreads := goodIn_r _ [13, 14, 15, 16, 17, 18, 19, 20, 21, 22, 3, 23, 24, 25, 26, 27, 28, 29, 30, 31, 32, 33, 34, 35, 36, 37, 38, 39, 40, 41, 42, 43, 44, 45, 46, 47, 48, 49, 50, 51, 52, 53] (by decide +kernel) (by decide +kernel)
set_option maxRecDepth 20000 in
theorem gX5_spread_X5_spreads : GoodIn wsX5_spread (wsV RX5 112 RX5 yX5_spreads wsX5_spreads) := goodIn_app (goodIn_of _ (by decide +kernel)) ggX5_spread_X5_spreads
theorem dX5_spread_0 : decode cX5_spread 0 = .ok (.iconst 0, 1) := by decide +kernel
theorem dX5_spread_1 : decode cX5_spread 1 = .ok (.istore_n 2, 1) := by decide +kernel
theorem dX5_spread_2 : decode cX5_spread 2 = .ok (.aload_n 0, 1) := by decide +kernel
theorem dX5_spread_3 : decode cX5_spread 3 = .ok (.iload_n 1, 1) := by decide +kernel
theorem dX5_spread_4 : decode cX5_spread 4 = .ok (.iconst 1, 1) := by decide +kernel
theorem dX5_spread_5 : decode cX5_spread 5 = .ok (.bipush 50, 2) := by decide +kernel
theorem dX5_spread_7 : decode cX5_spread 7 = .ok (.invokestatic 64, 3) := by decide +kernel
theorem dX5_spread_10 : decode cX5_spread 10 = .ok (.iconst 1, 1) := by decide +kernel
theorem dX5_spread_11 : decode cX5_spread 11 = .ok (.invokevirtual 72, 3) := by decide +kernel
theorem dX5_spread_14 : decode cX5_spread 14 = .ok (.istore_n 3, 1) := by decide +kernel
theorem dX5_spread_15 : decode cX5_spread 15 = .ok (.iconst 0, 1) := by decide +kernel
theorem dX5_spread_16 : decode cX5_spread 16 = .ok (.istore 4, 2) := by decide +kernel
theorem dX5_spread_18 : decode cX5_spread 18 = .ok (.iload 4, 2) := by decide +kernel
theorem dX5_spread_20 : decode cX5_spread 20 = .ok (.iload_n 1, 1) := by decide +kernel
theorem dX5_spread_21 : decode cX5_spread 21 = .ok (.if_icmp .ge 20, 3) := by decide +kernel
theorem dX5_spread_24 : decode cX5_spread 24 = .ok (.iload_n 3, 1) := by decide +kernel
theorem dX5_spread_25 : decode cX5_spread 25 = .ok (.ifCond .eq 16, 3) := by decide +kernel
theorem dX5_spread_28 : decode cX5_spread 28 = .ok (.iload_n 2, 1) := by decide +kernel
theorem dX5_spread_29 : decode cX5_spread 29 = .ok (.aload_n 0, 1) := by decide +kernel
theorem dX5_spread_30 : decode cX5_spread 30 = .ok (.invokevirtual 112, 3) := by decide +kernel
theorem dX5_spread_33 : decode cX5_spread 33 = .ok (.iadd, 1) := by decide +kernel
theorem dX5_spread_34 : decode cX5_spread 34 = .ok (.istore_n 2, 1) := by decide +kernel
theorem dX5_spread_35 : decode cX5_spread 35 = .ok (.iinc 4 1, 3) := by decide +kernel
theorem dX5_spread_38 : decode cX5_spread 38 = .ok (.goto (-20), 3) := by decide +kernel
theorem dX5_spread_41 : decode cX5_spread 41 = .ok (.iload_n 2, 1) := by decide +kernel
theorem dX5_spread_42 : decode cX5_spread 42 = .ok (.ireturn, 1) := by decide +kernel
set_option maxRecDepth 20000 in
theorem ggX5_want_X5_in : GoodIn wsX5_want wsX5_in := goodIn_r _ [6] (by decide +kernel) (by decide +kernel)
set_option maxRecDepth 20000 in
theorem gX5_want_X5_in : GoodIn wsX5_want (va_wsS RX5 64 yX5_in wsX5_in) := goodIn_app (goodIn_of _ (by decide +kernel)) ggX5_want_X5_in
set_option maxRecDepth 20000 in
theorem ggX5_want_X5_is : GoodIn wsX5_want wsX5_is := goodIn_r _ [10, 11, 3, 4, 5, 6, 17, 18, 19, 20, 21, 22, 23, 24, 25, 26, 27, 28, 29, 30, 31, 32, 33] (by decide +kernel) (by decide +kernel)
set_option maxRecDepth 20000 in
theorem gX5_want_X5_is : GoodIn wsX5_want (wsV RX5 76 RX5 yX5_is wsX5_is) := goodIn_app (goodIn_of _ (by decide +kernel)) ggX5_want_X5_is
set_option maxRecDepth 20000 in
theorem ggX5_want_X5_goes : GoodIn wsX5_want wsX5_goes := goodIn_r _ [15, 16, 17, 18, 19, 20, 21, 22, 23, 24, 25, 26, 27, 28, 29, 30, 31, 32, 33] (by decide +kernel) (by decide +kernel)
set_option maxRecDepth 20000 in
theorem gX5_want_X5_goes : GoodIn wsX5_want (wsV RX5 72 RX5 yX5_goes wsX5_goes) := goodIn_app (goodIn_of _ (by decide +kernel)) ggX5_want_X5_goes
theorem dX5_want_0 : decode cX5_want 0 = .ok (.iload_n 1, 1) := by decide +kernel
theorem dX5_want_1 : decode cX5_want 1 = .ok (.iload_n 2, 1) := by decide +kernel
theorem dX5_want_2 : decode cX5_want 2 = .ok (.if_icmp .eq 22, 3) := by decide +kernel
theorem dX5_want_5 : decode cX5_want 5 = .ok (.iload_n 3, 1) := by decide +kernel
theorem dX5_want_6 : decode cX5_want 6 = .ok (.iconst (-1), 1) := by decide +kernel
theorem dX5_want_7 : decode cX5_want 7 = .ok (.if_icmp .eq 13, 3) := by decide +kernel
theorem dX5_want_10 : decode cX5_want 10 = .ok (.iload_n 3, 1) := by decide +kernel
theorem dX5_want_11 : decode cX5_want 11 = .ok (.iconst 1, 1) := by decide +kernel
theorem dX5_want_12 : decode cX5_want 12 = .ok (.ldc 115, 2) := by decide +kernel
theorem dX5_want_14 : decode cX5_want 14 = .ok (.invokestatic 64, 3) := by decide +kernel
theorem dX5_want_17 : decode cX5_want 17 = .ok (.ifCond .eq 7, 3) := by decide +kernel
theorem dX5_want_20 : decode cX5_want 20 = .ok (.iconst 1, 1) := by decide +kernel
theorem dX5_want_21 : decode cX5_want 21 = .ok (.goto 4, 3) := by decide +kernel
theorem dX5_want_24 : decode cX5_want 24 = .ok (.iconst 0, 1) := by decide +kernel
theorem dX5_want_25 : decode cX5_want 25 = .ok (.istore 4, 2) := by decide +kernel
theorem dX5_want_27 : decode cX5_want 27 = .ok (.aload_n 0, 1) := by decide +kernel
theorem dX5_want_28 : decode cX5_want 28 = .ok (.aload_n 0, 1) := by decide +kernel
theorem dX5_want_29 : decode cX5_want 29 = .ok (.iload_n 1, 1) := by decide +kernel
theorem dX5_want_30 : decode cX5_want 30 = .ok (.invokevirtual 76, 3) := by decide +kernel
theorem dX5_want_33 : decode cX5_want 33 = .ok (.ifCond .eq 15, 3) := by decide +kernel
theorem dX5_want_36 : decode cX5_want 36 = .ok (.aload_n 0, 1) := by decide +kernel
theorem dX5_want_37 : decode cX5_want 37 = .ok (.iload_n 2, 1) := by decide +kernel
theorem dX5_want_38 : decode cX5_want 38 = .ok (.invokevirtual 76, 3) := by decide +kernel
theorem dX5_want_41 : decode cX5_want 41 = .ok (.ifCond .eq 7, 3) := by decide +kernel
theorem dX5_want_44 : decode cX5_want 44 = .ok (.iconst 1, 1) := by decide +kernel
theorem dX5_want_45 : decode cX5_want 45 = .ok (.goto 4, 3) := by decide +kernel
theorem dX5_want_48 : decode cX5_want 48 = .ok (.iconst 0, 1) := by decide +kernel
theorem dX5_want_49 : decode cX5_want 49 = .ok (.iload 4, 2) := by decide +kernel
theorem dX5_want_51 : decode cX5_want 51 = .ok (.invokevirtual 72, 3) := by decide +kernel
theorem dX5_want_54 : decode cX5_want 54 = .ok (.ifCond .ne 5, 3) := by decide +kernel
theorem dX5_want_57 : decode cX5_want 57 = .ok (.iconst 0, 1) := by decide +kernel
theorem dX5_want_58 : decode cX5_want 58 = .ok (.ireturn, 1) := by decide +kernel
theorem dX5_want_59 : decode cX5_want 59 = .ok (.aload_n 0, 1) := by decide +kernel
theorem dX5_want_60 : decode cX5_want 60 = .ok (.getfield 38, 3) := by decide +kernel
theorem dX5_want_63 : decode cX5_want 63 = .ok (.bipush 8, 2) := by decide +kernel
theorem dX5_want_65 : decode cX5_want 65 = .ok (.iload_n 1, 1) := by decide +kernel
theorem dX5_want_66 : decode cX5_want 66 = .ok (.imul, 1) := by decide +kernel
theorem dX5_want_67 : decode cX5_want 67 = .ok (.iload_n 2, 1) := by decide +kernel
theorem dX5_want_68 : decode cX5_want 68 = .ok (.iadd, 1) := by decide +kernel
theorem dX5_want_69 : decode cX5_want 69 = .ok (.iaload, 1) := by decide +kernel
theorem dX5_want_70 : decode cX5_want 70 = .ok (.istore 5, 2) := by decide +kernel
theorem dX5_want_72 : decode cX5_want 72 = .ok (.aload_n 0, 1) := by decide +kernel
theorem dX5_want_73 : decode cX5_want 73 = .ok (.getfield 38, 3) := by decide +kernel
theorem dX5_want_76 : decode cX5_want 76 = .ok (.bipush 8, 2) := by decide +kernel
theorem dX5_want_78 : decode cX5_want 78 = .ok (.iload_n 1, 1) := by decide +kernel
theorem dX5_want_79 : decode cX5_want 79 = .ok (.imul, 1) := by decide +kernel
theorem dX5_want_80 : decode cX5_want 80 = .ok (.iload_n 2, 1) := by decide +kernel
theorem dX5_want_81 : decode cX5_want 81 = .ok (.iadd, 1) := by decide +kernel
theorem dX5_want_82 : decode cX5_want 82 = .ok (.iload_n 3, 1) := by decide +kernel
theorem dX5_want_83 : decode cX5_want 83 = .ok (.iastore, 1) := by decide +kernel
theorem dX5_want_84 : decode cX5_want 84 = .ok (.aload_n 0, 1) := by decide +kernel
theorem dX5_want_85 : decode cX5_want 85 = .ok (.getfield 38, 3) := by decide +kernel
theorem dX5_want_88 : decode cX5_want 88 = .ok (.bipush 8, 2) := by decide +kernel
theorem dX5_want_90 : decode cX5_want 90 = .ok (.iload_n 2, 1) := by decide +kernel
theorem dX5_want_91 : decode cX5_want 91 = .ok (.imul, 1) := by decide +kernel
theorem dX5_want_92 : decode cX5_want 92 = .ok (.iload_n 1, 1) := by decide +kernel
theorem dX5_want_93 : decode cX5_want 93 = .ok (.iadd, 1) := by decide +kernel
theorem dX5_want_94 : decode cX5_want 94 = .ok (.iload_n 3, 1) := by decide +kernel
theorem dX5_want_95 : decode cX5_want 95 = .ok (.iastore, 1) := by decide +kernel
theorem dX5_want_96 : decode cX5_want 96 = .ok (.iload 5, 2) := by decide +kernel
theorem dX5_want_98 : decode cX5_want 98 = .ok (.ireturn, 1) := by decide +kernel
set_option maxRecDepth 20000 in
theorem ggX5_above_X5_linked : GoodIn wsX5_above wsX5_linked := goodIn_r _ [6, 7, 8, 9, 10, 11, 12, 5, 13, 14, 15, 16, 17, 18, 19, 20, 21, 22, 23, 24, 25, 26, 27, 28, 29, 30, 31, 32] (by decide +kernel) (by decide +kernel)
set_option maxRecDepth 20000 in
theorem gX5_above_X5_linked : GoodIn wsX5_above (wsV RX5 84 RX5 yX5_linked wsX5_linked) := goodIn_app (goodIn_of _ (by decide +kernel)) ggX5_above_X5_linked
set_option maxRecDepth 20000 in
theorem ggX5_above_X5_square : GoodIn wsX5_above wsX5_square := goodIn_r _ [13, 14, 15, 16, 17, 18, 19, 20, 21, 22, 23, 24, 25, 26, 27, 28, 29, 30, 31, 32] (by decide +kernel) (by decide +kernel)
set_option maxRecDepth 20000 in
theorem gX5_above_X5_square : GoodIn wsX5_above (wsV RX5 80 RX5 yX5_square wsX5_square) := goodIn_app (goodIn_of _ (by decide +kernel)) ggX5_above_X5_square
theorem dX5_above_0 : decode cX5_above 0 = .ok (.aload_n 0, 1) := by decide +kernel
theorem dX5_above_1 : decode cX5_above 1 = .ok (.getfield 38, 3) := by decide +kernel
theorem dX5_above_4 : decode cX5_above 4 = .ok (.bipush 8, 2) := by decide +kernel
theorem dX5_above_6 : decode cX5_above 6 = .ok (.iload_n 1, 1) := by decide +kernel
theorem dX5_above_7 : decode cX5_above 7 = .ok (.imul, 1) := by decide +kernel
theorem dX5_above_8 : decode cX5_above 8 = .ok (.iload_n 2, 1) := by decide +kernel
theorem dX5_above_9 : decode cX5_above 9 = .ok (.iadd, 1) := by decide +kernel
theorem dX5_above_10 : decode cX5_above 10 = .ok (.iaload, 1) := by decide +kernel
theorem dX5_above_11 : decode cX5_above 11 = .ok (.istore_n 3, 1) := by decide +kernel
theorem dX5_above_12 : decode cX5_above 12 = .ok (.iload_n 3, 1) := by decide +kernel
theorem dX5_above_13 : decode cX5_above 13 = .ok (.iconst (-1), 1) := by decide +kernel
theorem dX5_above_14 : decode cX5_above 14 = .ok (.if_icmp .eq 12, 3) := by decide +kernel
theorem dX5_above_17 : decode cX5_above 17 = .ok (.aload_n 0, 1) := by decide +kernel
theorem dX5_above_18 : decode cX5_above 18 = .ok (.iload_n 1, 1) := by decide +kernel
theorem dX5_above_19 : decode cX5_above 19 = .ok (.iload_n 2, 1) := by decide +kernel
theorem dX5_above_20 : decode cX5_above 20 = .ok (.invokevirtual 84, 3) := by decide +kernel
theorem dX5_above_23 : decode cX5_above 23 = .ok (.ifCond .ne 7, 3) := by decide +kernel
theorem dX5_above_26 : decode cX5_above 26 = .ok (.iconst 0, 1) := by decide +kernel
theorem dX5_above_27 : decode cX5_above 27 = .ok (.goto 11, 3) := by decide +kernel
theorem dX5_above_30 : decode cX5_above 30 = .ok (.aload_n 0, 1) := by decide +kernel
theorem dX5_above_31 : decode cX5_above 31 = .ok (.iload_n 1, 1) := by decide +kernel
theorem dX5_above_32 : decode cX5_above 32 = .ok (.iload_n 2, 1) := by decide +kernel
theorem dX5_above_33 : decode cX5_above 33 = .ok (.invokevirtual 80, 3) := by decide +kernel
theorem dX5_above_36 : decode cX5_above 36 = .ok (.iload_n 3, 1) := by decide +kernel
theorem dX5_above_37 : decode cX5_above 37 = .ok (.isub, 1) := by decide +kernel
theorem dX5_above_38 : decode cX5_above 38 = .ok (.ireturn, 1) := by decide +kernel
set_option maxRecDepth 20000 in
theorem ggX5_errors_X5_above : GoodIn wsX5_errors wsX5_above := goodIn_r _ [6, 7, 8, 9, 10, 5, 11, 12, 13, 14, 15, 16, 17, 18, 19, 20, 21, 22, 23, 24, 25, 26, 27, 28, 29, 30, 31, 32, 33, 34, 35, 36, 37] (by decide +kernel) (by decide +kernel)
set_option maxRecDepth 20000 in
theorem gX5_errors_X5_above : GoodIn wsX5_errors (wsV RX5 116 RX5 yX5_above wsX5_above) := goodIn_app (goodIn_of _ (by decide +kernel)) ggX5_errors_X5_above
theorem dX5_errors_0 : decode cX5_errors 0 = .ok (.iconst 0, 1) := by decide +kernel
theorem dX5_errors_1 : decode cX5_errors 1 = .ok (.istore_n 1, 1) := by decide +kernel
theorem dX5_errors_2 : decode cX5_errors 2 = .ok (.iconst 0, 1) := by decide +kernel
theorem dX5_errors_3 : decode cX5_errors 3 = .ok (.istore_n 2, 1) := by decide +kernel
theorem dX5_errors_4 : decode cX5_errors 4 = .ok (.iload_n 2, 1) := by decide +kernel
theorem dX5_errors_5 : decode cX5_errors 5 = .ok (.bipush 64, 2) := by decide +kernel
theorem dX5_errors_7 : decode cX5_errors 7 = .ok (.if_icmp .ge 61, 3) := by decide +kernel
theorem dX5_errors_10 : decode cX5_errors 10 = .ok (.iload_n 2, 1) := by decide +kernel
theorem dX5_errors_11 : decode cX5_errors 11 = .ok (.bipush 8, 2) := by decide +kernel
theorem dX5_errors_13 : decode cX5_errors 13 = .ok (.idiv, 1) := by decide +kernel
theorem dX5_errors_14 : decode cX5_errors 14 = .ok (.iload_n 2, 1) := by decide +kernel
theorem dX5_errors_15 : decode cX5_errors 15 = .ok (.bipush 8, 2) := by decide +kernel
theorem dX5_errors_17 : decode cX5_errors 17 = .ok (.irem, 1) := by decide +kernel
theorem dX5_errors_18 : decode cX5_errors 18 = .ok (.if_icmp .ge 29, 3) := by decide +kernel
theorem dX5_errors_21 : decode cX5_errors 21 = .ok (.iload_n 2, 1) := by decide +kernel
theorem dX5_errors_22 : decode cX5_errors 22 = .ok (.bipush 8, 2) := by decide +kernel
theorem dX5_errors_24 : decode cX5_errors 24 = .ok (.irem, 1) := by decide +kernel
theorem dX5_errors_25 : decode cX5_errors 25 = .ok (.aload_n 0, 1) := by decide +kernel
theorem dX5_errors_26 : decode cX5_errors 26 = .ok (.getfield 61, 3) := by decide +kernel
theorem dX5_errors_29 : decode cX5_errors 29 = .ok (.if_icmp .ge 18, 3) := by decide +kernel
theorem dX5_errors_32 : decode cX5_errors 32 = .ok (.aload_n 0, 1) := by decide +kernel
theorem dX5_errors_33 : decode cX5_errors 33 = .ok (.iload_n 2, 1) := by decide +kernel
theorem dX5_errors_34 : decode cX5_errors 34 = .ok (.bipush 8, 2) := by decide +kernel
theorem dX5_errors_36 : decode cX5_errors 36 = .ok (.idiv, 1) := by decide +kernel
theorem dX5_errors_37 : decode cX5_errors 37 = .ok (.iload_n 2, 1) := by decide +kernel
theorem dX5_errors_38 : decode cX5_errors 38 = .ok (.bipush 8, 2) := by decide +kernel
theorem dX5_errors_40 : decode cX5_errors 40 = .ok (.irem, 1) := by decide +kernel
theorem dX5_errors_41 : decode cX5_errors 41 = .ok (.invokevirtual 116, 3) := by decide +kernel
theorem dX5_errors_44 : decode cX5_errors 44 = .ok (.goto 4, 3) := by decide +kernel
theorem dX5_errors_47 : decode cX5_errors 47 = .ok (.iconst 0, 1) := by decide +kernel
theorem dX5_errors_48 : decode cX5_errors 48 = .ok (.istore_n 3, 1) := by decide +kernel
theorem dX5_errors_49 : decode cX5_errors 49 = .ok (.iload_n 1, 1) := by decide +kernel
theorem dX5_errors_50 : decode cX5_errors 50 = .ok (.iload_n 3, 1) := by decide +kernel
theorem dX5_errors_51 : decode cX5_errors 51 = .ok (.ifCond .ge 8, 3) := by decide +kernel
theorem dX5_errors_54 : decode cX5_errors 54 = .ok (.iload_n 3, 1) := by decide +kernel
theorem dX5_errors_55 : decode cX5_errors 55 = .ok (.ineg, 1) := by decide +kernel
theorem dX5_errors_56 : decode cX5_errors 56 = .ok (.goto 4, 3) := by decide +kernel
theorem dX5_errors_59 : decode cX5_errors 59 = .ok (.iload_n 3, 1) := by decide +kernel
theorem dX5_errors_60 : decode cX5_errors 60 = .ok (.iadd, 1) := by decide +kernel
theorem dX5_errors_61 : decode cX5_errors 61 = .ok (.istore_n 1, 1) := by decide +kernel
theorem dX5_errors_62 : decode cX5_errors 62 = .ok (.iinc 2 1, 3) := by decide +kernel
theorem dX5_errors_65 : decode cX5_errors 65 = .ok (.goto (-61), 3) := by decide +kernel
theorem dX5_errors_68 : decode cX5_errors 68 = .ok (.iload_n 1, 1) := by decide +kernel
theorem dX5_errors_69 : decode cX5_errors 69 = .ok (.ireturn, 1) := by decide +kernel
set_option maxRecDepth 20000 in
theorem ggX5_error_X5_errors : GoodIn wsX5_error wsX5_errors := goodIn_r _ [6, 7, 8, 9, 10, 5, 11, 12, 13, 14, 15, 16, 17, 18, 19, 20, 21, 22, 23, 24, 25, 26, 27, 28, 29, 30, 31, 32, 33, 34, 35, 36, 37, 38, 39, 40, 41, 42] (by decide +kernel) (by decide +kernel)
set_option maxRecDepth 20000 in
theorem gX5_error_X5_errors : GoodIn wsX5_error (wsV RX5 119 RX5 yX5_errors wsX5_errors) := goodIn_app (goodIn_of _ (by decide +kernel)) ggX5_error_X5_errors
theorem dX5_error_0 : decode cX5_error 0 = .ok (.aload_n 0, 1) := by decide +kernel
theorem dX5_error_1 : decode cX5_error 1 = .ok (.iconst 0, 1) := by decide +kernel
theorem dX5_error_2 : decode cX5_error 2 = .ok (.putfield 58, 3) := by decide +kernel
theorem dX5_error_5 : decode cX5_error 5 = .ok (.aload_n 0, 1) := by decide +kernel
theorem dX5_error_6 : decode cX5_error 6 = .ok (.invokevirtual 119, 3) := by decide +kernel
theorem dX5_error_9 : decode cX5_error 9 = .ok (.ireturn, 1) := by decide +kernel
theorem dX5_step_0 : decode cX5_step 0 = .ok (.lload_n 0, 1) := by decide +kernel
theorem dX5_step_1 : decode cX5_step 1 = .ok (.ldc2_w 122, 3) := by decide +kernel
theorem dX5_step_4 : decode cX5_step 4 = .ok (.ldiv, 1) := by decide +kernel
theorem dX5_step_5 : decode cX5_step 5 = .ok (.lstore_n 2, 1) := by decide +kernel
theorem dX5_step_6 : decode cX5_step 6 = .ok (.lload_n 2, 1) := by decide +kernel
theorem dX5_step_7 : decode cX5_step 7 = .ok (.ldc2_w 124, 3) := by decide +kernel
theorem dX5_step_10 : decode cX5_step 10 = .ok (.lcmp, 1) := by decide +kernel
theorem dX5_step_11 : decode cX5_step 11 = .ok (.ifCond .ge 8, 3) := by decide +kernel
theorem dX5_step_14 : decode cX5_step 14 = .ok (.bipush (-50), 2) := by decide +kernel
theorem dX5_step_16 : decode cX5_step 16 = .ok (.goto 18, 3) := by decide +kernel
theorem dX5_step_19 : decode cX5_step 19 = .ok (.lload_n 2, 1) := by decide +kernel
theorem dX5_step_20 : decode cX5_step 20 = .ok (.ldc2_w 126, 3) := by decide +kernel
theorem dX5_step_23 : decode cX5_step 23 = .ok (.lcmp, 1) := by decide +kernel
theorem dX5_step_24 : decode cX5_step 24 = .ok (.ifCond .le 8, 3) := by decide +kernel
theorem dX5_step_27 : decode cX5_step 27 = .ok (.bipush 50, 2) := by decide +kernel
theorem dX5_step_29 : decode cX5_step 29 = .ok (.goto 5, 3) := by decide +kernel
theorem dX5_step_32 : decode cX5_step 32 = .ok (.lload_n 2, 1) := by decide +kernel
theorem dX5_step_33 : decode cX5_step 33 = .ok (.l2i, 1) := by decide +kernel
theorem dX5_step_34 : decode cX5_step 34 = .ok (.ireturn, 1) := by decide +kernel
theorem dX5_within_0 : decode cX5_within 0 = .ok (.iload_n 0, 1) := by decide +kernel
theorem dX5_within_1 : decode cX5_within 1 = .ok (.sipush (-1000), 3) := by decide +kernel
theorem dX5_within_4 : decode cX5_within 4 = .ok (.if_icmp .ge 9, 3) := by decide +kernel
theorem dX5_within_7 : decode cX5_within 7 = .ok (.sipush (-1000), 3) := by decide +kernel
theorem dX5_within_10 : decode cX5_within 10 = .ok (.goto 17, 3) := by decide +kernel
theorem dX5_within_13 : decode cX5_within 13 = .ok (.iload_n 0, 1) := by decide +kernel
theorem dX5_within_14 : decode cX5_within 14 = .ok (.sipush 1000, 3) := by decide +kernel
theorem dX5_within_17 : decode cX5_within 17 = .ok (.if_icmp .le 9, 3) := by decide +kernel
theorem dX5_within_20 : decode cX5_within 20 = .ok (.sipush 1000, 3) := by decide +kernel
theorem dX5_within_23 : decode cX5_within 23 = .ok (.goto 4, 3) := by decide +kernel
theorem dX5_within_26 : decode cX5_within 26 = .ok (.iload_n 0, 1) := by decide +kernel
theorem dX5_within_27 : decode cX5_within 27 = .ok (.ireturn, 1) := by decide +kernel
set_option maxRecDepth 20000 in
theorem ggX5_settles_X5_above : GoodIn wsX5_settles wsX5_above := goodIn_r _ [10, 11, 12, 13, 14, 9, 15, 16, 17, 18, 19, 20, 21, 22, 2, 3, 32, 33, 34, 35, 36, 37, 38, 39, 40, 41, 42, 43, 44, 45, 46, 47, 48] (by decide +kernel) (by decide +kernel)
set_option maxRecDepth 20000 in
theorem gX5_settles_X5_above : GoodIn wsX5_settles (wsV RX5 116 RX5 yX5_above wsX5_above) := goodIn_app (goodIn_of _ (by decide +kernel)) ggX5_settles_X5_above
set_option maxRecDepth 20000 in
theorem ggX5_settles_X5_step : GoodIn wsX5_settles wsX5_step := goodIn_r _ [25, 26, 27, 28] (by decide +kernel) (by decide +kernel)
set_option maxRecDepth 20000 in
theorem gX5_settles_X5_step : GoodIn wsX5_settles (va_wsS RX5 128 yX5_step wsX5_step) := goodIn_app (goodIn_of _ (by decide +kernel)) ggX5_settles_X5_step
set_option maxRecDepth 20000 in
theorem ggX5_settles_X5_within : GoodIn wsX5_settles wsX5_within := goodIn_r _ [31] (by decide +kernel) (by decide +kernel)
set_option maxRecDepth 20000 in
theorem gX5_settles_X5_within : GoodIn wsX5_settles (va_wsS RX5 132 yX5_within wsX5_within) := goodIn_app (goodIn_of _ (by decide +kernel)) ggX5_settles_X5_within
theorem dX5_settles_0 : decode cX5_settles 0 = .ok (.iconst 0, 1) := by decide +kernel
theorem dX5_settles_1 : decode cX5_settles 1 = .ok (.istore_n 1, 1) := by decide +kernel
theorem dX5_settles_2 : decode cX5_settles 2 = .ok (.iload_n 1, 1) := by decide +kernel
theorem dX5_settles_3 : decode cX5_settles 3 = .ok (.aload_n 0, 1) := by decide +kernel
theorem dX5_settles_4 : decode cX5_settles 4 = .ok (.getfield 61, 3) := by decide +kernel
theorem dX5_settles_7 : decode cX5_settles 7 = .ok (.if_icmp .ge 108, 3) := by decide +kernel
theorem dX5_settles_10 : decode cX5_settles 10 = .ok (.lconst 0, 1) := by decide +kernel
theorem dX5_settles_11 : decode cX5_settles 11 = .ok (.lstore_n 2, 1) := by decide +kernel
theorem dX5_settles_12 : decode cX5_settles 12 = .ok (.lconst 0, 1) := by decide +kernel
theorem dX5_settles_13 : decode cX5_settles 13 = .ok (.lstore 4, 2) := by decide +kernel
theorem dX5_settles_15 : decode cX5_settles 15 = .ok (.iconst 0, 1) := by decide +kernel
theorem dX5_settles_16 : decode cX5_settles 16 = .ok (.istore 6, 2) := by decide +kernel
theorem dX5_settles_18 : decode cX5_settles 18 = .ok (.iload 6, 2) := by decide +kernel
theorem dX5_settles_20 : decode cX5_settles 20 = .ok (.aload_n 0, 1) := by decide +kernel
theorem dX5_settles_21 : decode cX5_settles 21 = .ok (.getfield 61, 3) := by decide +kernel
theorem dX5_settles_24 : decode cX5_settles 24 = .ok (.if_icmp .ge 64, 3) := by decide +kernel
theorem dX5_settles_27 : decode cX5_settles 27 = .ok (.aload_n 0, 1) := by decide +kernel
theorem dX5_settles_28 : decode cX5_settles 28 = .ok (.iload_n 1, 1) := by decide +kernel
theorem dX5_settles_29 : decode cX5_settles 29 = .ok (.iload 6, 2) := by decide +kernel
theorem dX5_settles_31 : decode cX5_settles 31 = .ok (.invokevirtual 116, 3) := by decide +kernel
theorem dX5_settles_34 : decode cX5_settles 34 = .ok (.istore 7, 2) := by decide +kernel
theorem dX5_settles_36 : decode cX5_settles 36 = .ok (.lload_n 2, 1) := by decide +kernel
theorem dX5_settles_37 : decode cX5_settles 37 = .ok (.iload 7, 2) := by decide +kernel
theorem dX5_settles_39 : decode cX5_settles 39 = .ok (.i2l, 1) := by decide +kernel
theorem dX5_settles_40 : decode cX5_settles 40 = .ok (.aload_n 0, 1) := by decide +kernel
theorem dX5_settles_41 : decode cX5_settles 41 = .ok (.getfield 7, 3) := by decide +kernel
theorem dX5_settles_44 : decode cX5_settles 44 = .ok (.iload_n 1, 1) := by decide +kernel
theorem dX5_settles_45 : decode cX5_settles 45 = .ok (.iaload, 1) := by decide +kernel
theorem dX5_settles_46 : decode cX5_settles 46 = .ok (.aload_n 0, 1) := by decide +kernel
theorem dX5_settles_47 : decode cX5_settles 47 = .ok (.getfield 7, 3) := by decide +kernel
theorem dX5_settles_50 : decode cX5_settles 50 = .ok (.iload 6, 2) := by decide +kernel
theorem dX5_settles_52 : decode cX5_settles 52 = .ok (.iaload, 1) := by decide +kernel
theorem dX5_settles_53 : decode cX5_settles 53 = .ok (.isub, 1) := by decide +kernel
theorem dX5_settles_54 : decode cX5_settles 54 = .ok (.i2l, 1) := by decide +kernel
theorem dX5_settles_55 : decode cX5_settles 55 = .ok (.lmul, 1) := by decide +kernel
theorem dX5_settles_56 : decode cX5_settles 56 = .ok (.ladd, 1) := by decide +kernel
theorem dX5_settles_57 : decode cX5_settles 57 = .ok (.lstore_n 2, 1) := by decide +kernel
theorem dX5_settles_58 : decode cX5_settles 58 = .ok (.lload 4, 2) := by decide +kernel
theorem dX5_settles_60 : decode cX5_settles 60 = .ok (.iload 7, 2) := by decide +kernel
theorem dX5_settles_62 : decode cX5_settles 62 = .ok (.i2l, 1) := by decide +kernel
theorem dX5_settles_63 : decode cX5_settles 63 = .ok (.aload_n 0, 1) := by decide +kernel
theorem dX5_settles_64 : decode cX5_settles 64 = .ok (.getfield 13, 3) := by decide +kernel
theorem dX5_settles_67 : decode cX5_settles 67 = .ok (.iload_n 1, 1) := by decide +kernel
theorem dX5_settles_68 : decode cX5_settles 68 = .ok (.iaload, 1) := by decide +kernel
theorem dX5_settles_69 : decode cX5_settles 69 = .ok (.aload_n 0, 1) := by decide +kernel
theorem dX5_settles_70 : decode cX5_settles 70 = .ok (.getfield 13, 3) := by decide +kernel
theorem dX5_settles_73 : decode cX5_settles 73 = .ok (.iload 6, 2) := by decide +kernel
theorem dX5_settles_75 : decode cX5_settles 75 = .ok (.iaload, 1) := by decide +kernel
theorem dX5_settles_76 : decode cX5_settles 76 = .ok (.isub, 1) := by decide +kernel
theorem dX5_settles_77 : decode cX5_settles 77 = .ok (.i2l, 1) := by decide +kernel
theorem dX5_settles_78 : decode cX5_settles 78 = .ok (.lmul, 1) := by decide +kernel
theorem dX5_settles_79 : decode cX5_settles 79 = .ok (.ladd, 1) := by decide +kernel
theorem dX5_settles_80 : decode cX5_settles 80 = .ok (.lstore 4, 2) := by decide +kernel
theorem dX5_settles_82 : decode cX5_settles 82 = .ok (.iinc 6 1, 3) := by decide +kernel
theorem dX5_settles_85 : decode cX5_settles 85 = .ok (.goto (-67), 3) := by decide +kernel
theorem dX5_settles_88 : decode cX5_settles 88 = .ok (.aload_n 0, 1) := by decide +kernel
theorem dX5_settles_89 : decode cX5_settles 89 = .ok (.getfield 45, 3) := by decide +kernel
theorem dX5_settles_92 : decode cX5_settles 92 = .ok (.iload_n 1, 1) := by decide +kernel
theorem dX5_settles_93 : decode cX5_settles 93 = .ok (.lload_n 2, 1) := by decide +kernel
theorem dX5_settles_94 : decode cX5_settles 94 = .ok (.invokestatic 128, 3) := by decide +kernel
theorem dX5_settles_97 : decode cX5_settles 97 = .ok (.iastore, 1) := by decide +kernel
theorem dX5_settles_98 : decode cX5_settles 98 = .ok (.aload_n 0, 1) := by decide +kernel
theorem dX5_settles_99 : decode cX5_settles 99 = .ok (.getfield 48, 3) := by decide +kernel
theorem dX5_settles_102 : decode cX5_settles 102 = .ok (.iload_n 1, 1) := by decide +kernel
theorem dX5_settles_103 : decode cX5_settles 103 = .ok (.lload 4, 2) := by decide +kernel
theorem dX5_settles_105 : decode cX5_settles 105 = .ok (.invokestatic 128, 3) := by decide +kernel
theorem dX5_settles_108 : decode cX5_settles 108 = .ok (.iastore, 1) := by decide +kernel
theorem dX5_settles_109 : decode cX5_settles 109 = .ok (.iinc 1 1, 3) := by decide +kernel
theorem dX5_settles_112 : decode cX5_settles 112 = .ok (.goto (-110), 3) := by decide +kernel
theorem dX5_settles_115 : decode cX5_settles 115 = .ok (.iconst 0, 1) := by decide +kernel
theorem dX5_settles_116 : decode cX5_settles 116 = .ok (.istore_n 1, 1) := by decide +kernel
theorem dX5_settles_117 : decode cX5_settles 117 = .ok (.iload_n 1, 1) := by decide +kernel
theorem dX5_settles_118 : decode cX5_settles 118 = .ok (.aload_n 0, 1) := by decide +kernel
theorem dX5_settles_119 : decode cX5_settles 119 = .ok (.getfield 61, 3) := by decide +kernel
theorem dX5_settles_122 : decode cX5_settles 122 = .ok (.if_icmp .ge 53, 3) := by decide +kernel
theorem dX5_settles_125 : decode cX5_settles 125 = .ok (.aload_n 0, 1) := by decide +kernel
theorem dX5_settles_126 : decode cX5_settles 126 = .ok (.getfield 7, 3) := by decide +kernel
theorem dX5_settles_129 : decode cX5_settles 129 = .ok (.iload_n 1, 1) := by decide +kernel
theorem dX5_settles_130 : decode cX5_settles 130 = .ok (.aload_n 0, 1) := by decide +kernel
theorem dX5_settles_131 : decode cX5_settles 131 = .ok (.getfield 7, 3) := by decide +kernel
theorem dX5_settles_134 : decode cX5_settles 134 = .ok (.iload_n 1, 1) := by decide +kernel
theorem dX5_settles_135 : decode cX5_settles 135 = .ok (.iaload, 1) := by decide +kernel
theorem dX5_settles_136 : decode cX5_settles 136 = .ok (.aload_n 0, 1) := by decide +kernel
theorem dX5_settles_137 : decode cX5_settles 137 = .ok (.getfield 45, 3) := by decide +kernel
theorem dX5_settles_140 : decode cX5_settles 140 = .ok (.iload_n 1, 1) := by decide +kernel
theorem dX5_settles_141 : decode cX5_settles 141 = .ok (.iaload, 1) := by decide +kernel
theorem dX5_settles_142 : decode cX5_settles 142 = .ok (.isub, 1) := by decide +kernel
theorem dX5_settles_143 : decode cX5_settles 143 = .ok (.invokestatic 132, 3) := by decide +kernel
theorem dX5_settles_146 : decode cX5_settles 146 = .ok (.iastore, 1) := by decide +kernel
theorem dX5_settles_147 : decode cX5_settles 147 = .ok (.aload_n 0, 1) := by decide +kernel
theorem dX5_settles_148 : decode cX5_settles 148 = .ok (.getfield 13, 3) := by decide +kernel
theorem dX5_settles_151 : decode cX5_settles 151 = .ok (.iload_n 1, 1) := by decide +kernel
theorem dX5_settles_152 : decode cX5_settles 152 = .ok (.aload_n 0, 1) := by decide +kernel
theorem dX5_settles_153 : decode cX5_settles 153 = .ok (.getfield 13, 3) := by decide +kernel
theorem dX5_settles_156 : decode cX5_settles 156 = .ok (.iload_n 1, 1) := by decide +kernel
theorem dX5_settles_157 : decode cX5_settles 157 = .ok (.iaload, 1) := by decide +kernel
theorem dX5_settles_158 : decode cX5_settles 158 = .ok (.aload_n 0, 1) := by decide +kernel
theorem dX5_settles_159 : decode cX5_settles 159 = .ok (.getfield 48, 3) := by decide +kernel
theorem dX5_settles_162 : decode cX5_settles 162 = .ok (.iload_n 1, 1) := by decide +kernel
theorem dX5_settles_163 : decode cX5_settles 163 = .ok (.iaload, 1) := by decide +kernel
theorem dX5_settles_164 : decode cX5_settles 164 = .ok (.isub, 1) := by decide +kernel
theorem dX5_settles_165 : decode cX5_settles 165 = .ok (.invokestatic 132, 3) := by decide +kernel
theorem dX5_settles_168 : decode cX5_settles 168 = .ok (.iastore, 1) := by decide +kernel
theorem dX5_settles_169 : decode cX5_settles 169 = .ok (.iinc 1 1, 3) := by decide +kernel
theorem dX5_settles_172 : decode cX5_settles 172 = .ok (.goto (-55), 3) := by decide +kernel
theorem dX5_settles_175 : decode cX5_settles 175 = .ok (.return_, 1) := by decide +kernel
set_option maxRecDepth 20000 in
theorem ggX5_settle_X5_in : GoodIn wsX5_settle wsX5_in := goodIn_r _ [4] (by decide +kernel) (by decide +kernel)
set_option maxRecDepth 20000 in
theorem gX5_settle_X5_in : GoodIn wsX5_settle (va_wsS RX5 64 yX5_in wsX5_in) := goodIn_app (goodIn_of _ (by decide +kernel)) ggX5_settle_X5_in
set_option maxRecDepth 20000 in
theorem ggX5_settle_X5_goes : GoodIn wsX5_settle wsX5_goes := goodIn_r _ [8, 9, 48, 49, 50, 51, 52, 53, 54, 55, 56, 57, 58, 59, 60, 61, 62, 63, 64] (by decide +kernel) (by decide +kernel)
set_option maxRecDepth 20000 in
theorem gX5_settle_X5_goes : GoodIn wsX5_settle (wsV RX5 72 RX5 yX5_goes wsX5_goes) := goodIn_app (goodIn_of _ (by decide +kernel)) ggX5_settle_X5_goes
set_option maxRecDepth 20000 in
theorem ggX5_settle_X5_settles : GoodIn wsX5_settle wsX5_settles := goodIn_r _ [13, 14, 15, 16, 17, 18, 19, 20, 21, 3, 22, 23, 24, 25, 26, 27, 28, 29, 30, 31, 32, 33, 34, 35, 36, 37, 38, 39, 40, 41, 42, 43, 48, 49, 50, 51, 52, 53, 54, 55, 56, 57, 58, 59, 60, 61, 62, 63, 64] (by decide +kernel) (by decide +kernel)
set_option maxRecDepth 20000 in
theorem gX5_settle_X5_settles : GoodIn wsX5_settle (wsV RX5 135 RX5 yX5_settles wsX5_settles) := goodIn_app (goodIn_of _ (by decide +kernel)) ggX5_settle_X5_settles
set_option maxRecDepth 20000 in
theorem ggX5_settle_X5_errors : GoodIn wsX5_settle wsX5_errors := goodIn_r _ [47, 14, 19, 20, 21, 3, 22, 23, 24, 25, 26, 27, 28, 29, 30, 31, 32, 33, 34, 15, 16, 48, 49, 50, 51, 52, 53, 54, 55, 56, 57, 58, 59, 60, 61, 62, 63, 64] (by decide +kernel) (by decide +kernel)
set_option maxRecDepth 20000 in
theorem gX5_settle_X5_errors : GoodIn wsX5_settle (wsV RX5 119 RX5 yX5_errors wsX5_errors) := goodIn_app (goodIn_of _ (by decide +kernel)) ggX5_settle_X5_errors
theorem dX5_settle_0 : decode cX5_settle 0 = .ok (.aload_n 0, 1) := by decide +kernel
theorem dX5_settle_1 : decode cX5_settle 1 = .ok (.iload_n 1, 1) := by decide +kernel
theorem dX5_settle_2 : decode cX5_settle 2 = .ok (.iconst 1, 1) := by decide +kernel
theorem dX5_settle_3 : decode cX5_settle 3 = .ok (.bipush 50, 2) := by decide +kernel
theorem dX5_settle_5 : decode cX5_settle 5 = .ok (.invokestatic 64, 3) := by decide +kernel
theorem dX5_settle_8 : decode cX5_settle 8 = .ok (.iconst 1, 1) := by decide +kernel
theorem dX5_settle_9 : decode cX5_settle 9 = .ok (.invokevirtual 72, 3) := by decide +kernel
theorem dX5_settle_12 : decode cX5_settle 12 = .ok (.istore_n 2, 1) := by decide +kernel
theorem dX5_settle_13 : decode cX5_settle 13 = .ok (.iconst 0, 1) := by decide +kernel
theorem dX5_settle_14 : decode cX5_settle 14 = .ok (.istore_n 3, 1) := by decide +kernel
theorem dX5_settle_15 : decode cX5_settle 15 = .ok (.iload_n 3, 1) := by decide +kernel
theorem dX5_settle_16 : decode cX5_settle 16 = .ok (.iload_n 1, 1) := by decide +kernel
theorem dX5_settle_17 : decode cX5_settle 17 = .ok (.if_icmp .ge 17, 3) := by decide +kernel
theorem dX5_settle_20 : decode cX5_settle 20 = .ok (.iload_n 2, 1) := by decide +kernel
theorem dX5_settle_21 : decode cX5_settle 21 = .ok (.ifCond .eq 13, 3) := by decide +kernel
theorem dX5_settle_24 : decode cX5_settle 24 = .ok (.aload_n 0, 1) := by decide +kernel
theorem dX5_settle_25 : decode cX5_settle 25 = .ok (.invokevirtual 135, 3) := by decide +kernel
theorem dX5_settle_28 : decode cX5_settle 28 = .ok (.iinc 3 1, 3) := by decide +kernel
theorem dX5_settle_31 : decode cX5_settle 31 = .ok (.goto (-16), 3) := by decide +kernel
theorem dX5_settle_34 : decode cX5_settle 34 = .ok (.iload_n 2, 1) := by decide +kernel
theorem dX5_settle_35 : decode cX5_settle 35 = .ok (.ifCond .eq 10, 3) := by decide +kernel
theorem dX5_settle_38 : decode cX5_settle 38 = .ok (.aload_n 0, 1) := by decide +kernel
theorem dX5_settle_39 : decode cX5_settle 39 = .ok (.invokevirtual 119, 3) := by decide +kernel
theorem dX5_settle_42 : decode cX5_settle 42 = .ok (.goto 4, 3) := by decide +kernel
theorem dX5_settle_45 : decode cX5_settle 45 = .ok (.iconst 0, 1) := by decide +kernel
theorem dX5_settle_46 : decode cX5_settle 46 = .ok (.ireturn, 1) := by decide +kernel
theorem dX5_bits_0 : decode cX5_bits 0 = .ok (.iconst 0, 1) := by decide +kernel
theorem dX5_bits_1 : decode cX5_bits 1 = .ok (.istore_n 1, 1) := by decide +kernel
theorem dX5_bits_2 : decode cX5_bits 2 = .ok (.iconst 0, 1) := by decide +kernel
theorem dX5_bits_3 : decode cX5_bits 3 = .ok (.istore_n 2, 1) := by decide +kernel
theorem dX5_bits_4 : decode cX5_bits 4 = .ok (.iload_n 2, 1) := by decide +kernel
theorem dX5_bits_5 : decode cX5_bits 5 = .ok (.bipush 8, 2) := by decide +kernel
theorem dX5_bits_7 : decode cX5_bits 7 = .ok (.if_icmp .ge 17, 3) := by decide +kernel
theorem dX5_bits_10 : decode cX5_bits 10 = .ok (.iload_n 1, 1) := by decide +kernel
theorem dX5_bits_11 : decode cX5_bits 11 = .ok (.iload_n 0, 1) := by decide +kernel
theorem dX5_bits_12 : decode cX5_bits 12 = .ok (.iload_n 2, 1) := by decide +kernel
theorem dX5_bits_13 : decode cX5_bits 13 = .ok (.ishr, 1) := by decide +kernel
theorem dX5_bits_14 : decode cX5_bits 14 = .ok (.iconst 1, 1) := by decide +kernel
theorem dX5_bits_15 : decode cX5_bits 15 = .ok (.iand, 1) := by decide +kernel
theorem dX5_bits_16 : decode cX5_bits 16 = .ok (.iadd, 1) := by decide +kernel
theorem dX5_bits_17 : decode cX5_bits 17 = .ok (.istore_n 1, 1) := by decide +kernel
theorem dX5_bits_18 : decode cX5_bits 18 = .ok (.iinc 2 1, 3) := by decide +kernel
theorem dX5_bits_21 : decode cX5_bits 21 = .ok (.goto (-17), 3) := by decide +kernel
theorem dX5_bits_24 : decode cX5_bits 24 = .ok (.iload_n 1, 1) := by decide +kernel
theorem dX5_bits_25 : decode cX5_bits 25 = .ok (.ireturn, 1) := by decide +kernel
set_option maxRecDepth 20000 in
theorem ggX5_isFree_X5_bits : GoodIn wsX5_isFree wsX5_bits := goodIn_r _ [5] (by decide +kernel) (by decide +kernel)
set_option maxRecDepth 20000 in
theorem gX5_isFree_X5_bits : GoodIn wsX5_isFree (va_wsS RX5 138 yX5_bits wsX5_bits) := goodIn_app (goodIn_of _ (by decide +kernel)) ggX5_isFree_X5_bits
theorem dX5_isFree_0 : decode cX5_isFree 0 = .ok (.iconst 0, 1) := by decide +kernel
theorem dX5_isFree_1 : decode cX5_isFree 1 = .ok (.istore_n 1, 1) := by decide +kernel
theorem dX5_isFree_2 : decode cX5_isFree 2 = .ok (.iload_n 1, 1) := by decide +kernel
theorem dX5_isFree_3 : decode cX5_isFree 3 = .ok (.sipush 256, 3) := by decide +kernel
theorem dX5_isFree_6 : decode cX5_isFree 6 = .ok (.if_icmp .ge 88, 3) := by decide +kernel
theorem dX5_isFree_9 : decode cX5_isFree 9 = .ok (.iconst 0, 1) := by decide +kernel
theorem dX5_isFree_10 : decode cX5_isFree 10 = .ok (.istore_n 2, 1) := by decide +kernel
theorem dX5_isFree_11 : decode cX5_isFree 11 = .ok (.iconst 0, 1) := by decide +kernel
theorem dX5_isFree_12 : decode cX5_isFree 12 = .ok (.istore_n 3, 1) := by decide +kernel
theorem dX5_isFree_13 : decode cX5_isFree 13 = .ok (.iload_n 3, 1) := by decide +kernel
theorem dX5_isFree_14 : decode cX5_isFree 14 = .ok (.bipush 64, 2) := by decide +kernel
theorem dX5_isFree_16 : decode cX5_isFree 16 = .ok (.if_icmp .ge 50, 3) := by decide +kernel
theorem dX5_isFree_19 : decode cX5_isFree 19 = .ok (.iload_n 2, 1) := by decide +kernel
theorem dX5_isFree_20 : decode cX5_isFree 20 = .ok (.aload_n 0, 1) := by decide +kernel
theorem dX5_isFree_21 : decode cX5_isFree 21 = .ok (.getfield 51, 3) := by decide +kernel
theorem dX5_isFree_24 : decode cX5_isFree 24 = .ok (.iload_n 3, 1) := by decide +kernel
theorem dX5_isFree_25 : decode cX5_isFree 25 = .ok (.baload, 1) := by decide +kernel
theorem dX5_isFree_26 : decode cX5_isFree 26 = .ok (.ifCond .eq 31, 3) := by decide +kernel
theorem dX5_isFree_29 : decode cX5_isFree 29 = .ok (.iload_n 1, 1) := by decide +kernel
theorem dX5_isFree_30 : decode cX5_isFree 30 = .ok (.iload_n 3, 1) := by decide +kernel
theorem dX5_isFree_31 : decode cX5_isFree 31 = .ok (.bipush 8, 2) := by decide +kernel
theorem dX5_isFree_33 : decode cX5_isFree 33 = .ok (.idiv, 1) := by decide +kernel
theorem dX5_isFree_34 : decode cX5_isFree 34 = .ok (.ishr, 1) := by decide +kernel
theorem dX5_isFree_35 : decode cX5_isFree 35 = .ok (.iconst 1, 1) := by decide +kernel
theorem dX5_isFree_36 : decode cX5_isFree 36 = .ok (.iand, 1) := by decide +kernel
theorem dX5_isFree_37 : decode cX5_isFree 37 = .ok (.iconst 1, 1) := by decide +kernel
theorem dX5_isFree_38 : decode cX5_isFree 38 = .ok (.if_icmp .ne 19, 3) := by decide +kernel
theorem dX5_isFree_41 : decode cX5_isFree 41 = .ok (.iload_n 1, 1) := by decide +kernel
theorem dX5_isFree_42 : decode cX5_isFree 42 = .ok (.iload_n 3, 1) := by decide +kernel
theorem dX5_isFree_43 : decode cX5_isFree 43 = .ok (.bipush 8, 2) := by decide +kernel
theorem dX5_isFree_45 : decode cX5_isFree 45 = .ok (.irem, 1) := by decide +kernel
theorem dX5_isFree_46 : decode cX5_isFree 46 = .ok (.ishr, 1) := by decide +kernel
theorem dX5_isFree_47 : decode cX5_isFree 47 = .ok (.iconst 1, 1) := by decide +kernel
theorem dX5_isFree_48 : decode cX5_isFree 48 = .ok (.iand, 1) := by decide +kernel
theorem dX5_isFree_49 : decode cX5_isFree 49 = .ok (.iconst 1, 1) := by decide +kernel
theorem dX5_isFree_50 : decode cX5_isFree 50 = .ok (.if_icmp .ne 7, 3) := by decide +kernel
theorem dX5_isFree_53 : decode cX5_isFree 53 = .ok (.iconst 1, 1) := by decide +kernel
theorem dX5_isFree_54 : decode cX5_isFree 54 = .ok (.goto 4, 3) := by decide +kernel
theorem dX5_isFree_57 : decode cX5_isFree 57 = .ok (.iconst 0, 1) := by decide +kernel
theorem dX5_isFree_58 : decode cX5_isFree 58 = .ok (.iadd, 1) := by decide +kernel
theorem dX5_isFree_59 : decode cX5_isFree 59 = .ok (.istore_n 2, 1) := by decide +kernel
theorem dX5_isFree_60 : decode cX5_isFree 60 = .ok (.iinc 3 1, 3) := by decide +kernel
theorem dX5_isFree_63 : decode cX5_isFree 63 = .ok (.goto (-50), 3) := by decide +kernel
theorem dX5_isFree_66 : decode cX5_isFree 66 = .ok (.iload_n 1, 1) := by decide +kernel
theorem dX5_isFree_67 : decode cX5_isFree 67 = .ok (.invokestatic 138, 3) := by decide +kernel
theorem dX5_isFree_70 : decode cX5_isFree 70 = .ok (.iconst 2, 1) := by decide +kernel
theorem dX5_isFree_71 : decode cX5_isFree 71 = .ok (.if_icmp .lt 17, 3) := by decide +kernel
theorem dX5_isFree_74 : decode cX5_isFree 74 = .ok (.iload_n 2, 1) := by decide +kernel
theorem dX5_isFree_75 : decode cX5_isFree 75 = .ok (.iconst 2, 1) := by decide +kernel
theorem dX5_isFree_76 : decode cX5_isFree 76 = .ok (.iload_n 1, 1) := by decide +kernel
theorem dX5_isFree_77 : decode cX5_isFree 77 = .ok (.invokestatic 138, 3) := by decide +kernel
theorem dX5_isFree_80 : decode cX5_isFree 80 = .ok (.imul, 1) := by decide +kernel
theorem dX5_isFree_81 : decode cX5_isFree 81 = .ok (.iconst 3, 1) := by decide +kernel
theorem dX5_isFree_82 : decode cX5_isFree 82 = .ok (.isub, 1) := by decide +kernel
theorem dX5_isFree_83 : decode cX5_isFree 83 = .ok (.if_icmp .le 5, 3) := by decide +kernel
theorem dX5_isFree_86 : decode cX5_isFree 86 = .ok (.iconst 0, 1) := by decide +kernel
theorem dX5_isFree_87 : decode cX5_isFree 87 = .ok (.ireturn, 1) := by decide +kernel
theorem dX5_isFree_88 : decode cX5_isFree 88 = .ok (.iinc 1 1, 3) := by decide +kernel
theorem dX5_isFree_91 : decode cX5_isFree 91 = .ok (.goto (-89), 3) := by decide +kernel
theorem dX5_isFree_94 : decode cX5_isFree 94 = .ok (.iconst 1, 1) := by decide +kernel
theorem dX5_isFree_95 : decode cX5_isFree 95 = .ok (.ireturn, 1) := by decide +kernel
set_option maxRecDepth 20000 in
theorem ggX5_ranks_X5_linked : GoodIn wsX5_ranks wsX5_linked := goodIn_r _ [7, 8, 9, 10, 11, 12, 13, 6, 14, 15, 16, 24, 25, 26, 27, 28, 29, 30, 31, 32, 33, 34, 35, 36, 37, 38, 39, 40] (by decide +kernel) (by decide +kernel)
set_option maxRecDepth 20000 in
theorem gX5_ranks_X5_linked : GoodIn wsX5_ranks (wsV RX5 84 RX5 yX5_linked wsX5_linked) := goodIn_app (goodIn_of _ (by decide +kernel)) ggX5_ranks_X5_linked
set_option maxRecDepth 20000 in
theorem ggX5_ranks_X5_isFree : GoodIn wsX5_ranks wsX5_isFree := goodIn_r _ [20, 1, 21, 22, 6, 23, 24, 25, 26, 27, 28, 29, 30, 31, 32, 33, 34, 35, 36, 37, 38, 39, 40] (by decide +kernel) (by decide +kernel)
set_option maxRecDepth 20000 in
theorem gX5_ranks_X5_isFree : GoodIn wsX5_ranks (wsV RX5 141 RX5 yX5_isFree wsX5_isFree) := goodIn_app (goodIn_of _ (by decide +kernel)) ggX5_ranks_X5_isFree
theorem dX5_ranks_0 : decode cX5_ranks 0 = .ok (.iconst 0, 1) := by decide +kernel
theorem dX5_ranks_1 : decode cX5_ranks 1 = .ok (.istore_n 3, 1) := by decide +kernel
theorem dX5_ranks_2 : decode cX5_ranks 2 = .ok (.iconst 0, 1) := by decide +kernel
theorem dX5_ranks_3 : decode cX5_ranks 3 = .ok (.istore 4, 2) := by decide +kernel
theorem dX5_ranks_5 : decode cX5_ranks 5 = .ok (.iload 4, 2) := by decide +kernel
theorem dX5_ranks_7 : decode cX5_ranks 7 = .ok (.bipush 64, 2) := by decide +kernel
theorem dX5_ranks_9 : decode cX5_ranks 9 = .ok (.if_icmp .ge 17, 3) := by decide +kernel
theorem dX5_ranks_12 : decode cX5_ranks 12 = .ok (.aload_n 0, 1) := by decide +kernel
theorem dX5_ranks_13 : decode cX5_ranks 13 = .ok (.getfield 51, 3) := by decide +kernel
theorem dX5_ranks_16 : decode cX5_ranks 16 = .ok (.iload 4, 2) := by decide +kernel
theorem dX5_ranks_18 : decode cX5_ranks 18 = .ok (.iconst 0, 1) := by decide +kernel
theorem dX5_ranks_19 : decode cX5_ranks 19 = .ok (.bastore, 1) := by decide +kernel
theorem dX5_ranks_20 : decode cX5_ranks 20 = .ok (.iinc 4 1, 3) := by decide +kernel
theorem dX5_ranks_23 : decode cX5_ranks 23 = .ok (.goto (-18), 3) := by decide +kernel
theorem dX5_ranks_26 : decode cX5_ranks 26 = .ok (.iconst 0, 1) := by decide +kernel
theorem dX5_ranks_27 : decode cX5_ranks 27 = .ok (.istore 4, 2) := by decide +kernel
theorem dX5_ranks_29 : decode cX5_ranks 29 = .ok (.iload 4, 2) := by decide +kernel
theorem dX5_ranks_31 : decode cX5_ranks 31 = .ok (.bipush 64, 2) := by decide +kernel
theorem dX5_ranks_33 : decode cX5_ranks 33 = .ok (.if_icmp .ge 123, 3) := by decide +kernel
theorem dX5_ranks_36 : decode cX5_ranks 36 = .ok (.iload 4, 2) := by decide +kernel
theorem dX5_ranks_38 : decode cX5_ranks 38 = .ok (.bipush 8, 2) := by decide +kernel
theorem dX5_ranks_40 : decode cX5_ranks 40 = .ok (.idiv, 1) := by decide +kernel
theorem dX5_ranks_41 : decode cX5_ranks 41 = .ok (.istore 5, 2) := by decide +kernel
theorem dX5_ranks_43 : decode cX5_ranks 43 = .ok (.iload 4, 2) := by decide +kernel
theorem dX5_ranks_45 : decode cX5_ranks 45 = .ok (.bipush 8, 2) := by decide +kernel
theorem dX5_ranks_47 : decode cX5_ranks 47 = .ok (.irem, 1) := by decide +kernel
theorem dX5_ranks_48 : decode cX5_ranks 48 = .ok (.istore 6, 2) := by decide +kernel
theorem dX5_ranks_50 : decode cX5_ranks 50 = .ok (.iload 5, 2) := by decide +kernel
theorem dX5_ranks_52 : decode cX5_ranks 52 = .ok (.iload_n 1, 1) := by decide +kernel
theorem dX5_ranks_53 : decode cX5_ranks 53 = .ok (.if_icmp .ne 9, 3) := by decide +kernel
theorem dX5_ranks_56 : decode cX5_ranks 56 = .ok (.iload 6, 2) := by decide +kernel
theorem dX5_ranks_58 : decode cX5_ranks 58 = .ok (.iload_n 2, 1) := by decide +kernel
theorem dX5_ranks_59 : decode cX5_ranks 59 = .ok (.if_icmp .eq 15, 3) := by decide +kernel
theorem dX5_ranks_62 : decode cX5_ranks 62 = .ok (.iload 5, 2) := by decide +kernel
theorem dX5_ranks_64 : decode cX5_ranks 64 = .ok (.iload_n 2, 1) := by decide +kernel
theorem dX5_ranks_65 : decode cX5_ranks 65 = .ok (.if_icmp .ne 13, 3) := by decide +kernel
theorem dX5_ranks_68 : decode cX5_ranks 68 = .ok (.iload 6, 2) := by decide +kernel
theorem dX5_ranks_70 : decode cX5_ranks 70 = .ok (.iload_n 1, 1) := by decide +kernel
theorem dX5_ranks_71 : decode cX5_ranks 71 = .ok (.if_icmp .ne 7, 3) := by decide +kernel
theorem dX5_ranks_74 : decode cX5_ranks 74 = .ok (.iconst 1, 1) := by decide +kernel
theorem dX5_ranks_75 : decode cX5_ranks 75 = .ok (.goto 4, 3) := by decide +kernel
theorem dX5_ranks_78 : decode cX5_ranks 78 = .ok (.iconst 0, 1) := by decide +kernel
theorem dX5_ranks_79 : decode cX5_ranks 79 = .ok (.istore 7, 2) := by decide +kernel
theorem dX5_ranks_81 : decode cX5_ranks 81 = .ok (.iload 5, 2) := by decide +kernel
theorem dX5_ranks_83 : decode cX5_ranks 83 = .ok (.iload 6, 2) := by decide +kernel
theorem dX5_ranks_85 : decode cX5_ranks 85 = .ok (.if_icmp .ge 65, 3) := by decide +kernel
theorem dX5_ranks_88 : decode cX5_ranks 88 = .ok (.iload 6, 2) := by decide +kernel
theorem dX5_ranks_90 : decode cX5_ranks 90 = .ok (.aload_n 0, 1) := by decide +kernel
theorem dX5_ranks_91 : decode cX5_ranks 91 = .ok (.getfield 61, 3) := by decide +kernel
theorem dX5_ranks_94 : decode cX5_ranks 94 = .ok (.if_icmp .ge 56, 3) := by decide +kernel
theorem dX5_ranks_97 : decode cX5_ranks 97 = .ok (.iload 7, 2) := by decide +kernel
theorem dX5_ranks_99 : decode cX5_ranks 99 = .ok (.ifCond .ne 51, 3) := by decide +kernel
theorem dX5_ranks_102 : decode cX5_ranks 102 = .ok (.aload_n 0, 1) := by decide +kernel
theorem dX5_ranks_103 : decode cX5_ranks 103 = .ok (.iload 5, 2) := by decide +kernel
theorem dX5_ranks_105 : decode cX5_ranks 105 = .ok (.iload 6, 2) := by decide +kernel
theorem dX5_ranks_107 : decode cX5_ranks 107 = .ok (.invokevirtual 84, 3) := by decide +kernel
theorem dX5_ranks_110 : decode cX5_ranks 110 = .ok (.ifCond .eq 40, 3) := by decide +kernel
theorem dX5_ranks_113 : decode cX5_ranks 113 = .ok (.aload_n 0, 1) := by decide +kernel
theorem dX5_ranks_114 : decode cX5_ranks 114 = .ok (.getfield 51, 3) := by decide +kernel
theorem dX5_ranks_117 : decode cX5_ranks 117 = .ok (.iload 4, 2) := by decide +kernel
theorem dX5_ranks_119 : decode cX5_ranks 119 = .ok (.iconst 1, 1) := by decide +kernel
theorem dX5_ranks_120 : decode cX5_ranks 120 = .ok (.bastore, 1) := by decide +kernel
theorem dX5_ranks_121 : decode cX5_ranks 121 = .ok (.aload_n 0, 1) := by decide +kernel
theorem dX5_ranks_122 : decode cX5_ranks 122 = .ok (.getfield 51, 3) := by decide +kernel
theorem dX5_ranks_125 : decode cX5_ranks 125 = .ok (.iload 4, 2) := by decide +kernel
theorem dX5_ranks_127 : decode cX5_ranks 127 = .ok (.aload_n 0, 1) := by decide +kernel
theorem dX5_ranks_128 : decode cX5_ranks 128 = .ok (.invokevirtual 141, 3) := by decide +kernel
theorem dX5_ranks_131 : decode cX5_ranks 131 = .ok (.bastore, 1) := by decide +kernel
theorem dX5_ranks_132 : decode cX5_ranks 132 = .ok (.iload_n 3, 1) := by decide +kernel
theorem dX5_ranks_133 : decode cX5_ranks 133 = .ok (.aload_n 0, 1) := by decide +kernel
theorem dX5_ranks_134 : decode cX5_ranks 134 = .ok (.getfield 51, 3) := by decide +kernel
theorem dX5_ranks_137 : decode cX5_ranks 137 = .ok (.iload 4, 2) := by decide +kernel
theorem dX5_ranks_139 : decode cX5_ranks 139 = .ok (.baload, 1) := by decide +kernel
theorem dX5_ranks_140 : decode cX5_ranks 140 = .ok (.ifCond .eq 7, 3) := by decide +kernel
theorem dX5_ranks_143 : decode cX5_ranks 143 = .ok (.iconst 1, 1) := by decide +kernel
theorem dX5_ranks_144 : decode cX5_ranks 144 = .ok (.goto 4, 3) := by decide +kernel
theorem dX5_ranks_147 : decode cX5_ranks 147 = .ok (.iconst 0, 1) := by decide +kernel
theorem dX5_ranks_148 : decode cX5_ranks 148 = .ok (.iadd, 1) := by decide +kernel
theorem dX5_ranks_149 : decode cX5_ranks 149 = .ok (.istore_n 3, 1) := by decide +kernel
theorem dX5_ranks_150 : decode cX5_ranks 150 = .ok (.iinc 4 1, 3) := by decide +kernel
theorem dX5_ranks_153 : decode cX5_ranks 153 = .ok (.goto (-124), 3) := by decide +kernel
theorem dX5_ranks_156 : decode cX5_ranks 156 = .ok (.iload_n 3, 1) := by decide +kernel
theorem dX5_ranks_157 : decode cX5_ranks 157 = .ok (.ireturn, 1) := by decide +kernel
set_option maxRecDepth 20000 in
theorem ggX5_rank_X5_ranks : GoodIn wsX5_rank wsX5_ranks := goodIn_r _ [6, 7, 8, 9, 10, 11, 5, 12, 13, 14, 15, 16, 17, 18, 19, 20, 21, 22, 23, 24, 25, 26, 27, 28, 29, 30, 31, 32, 33, 34, 35, 36, 37, 38, 39, 40, 41, 42, 43, 44, 45] (by decide +kernel) (by decide +kernel)
set_option maxRecDepth 20000 in
theorem gX5_rank_X5_ranks : GoodIn wsX5_rank (wsV RX5 145 RX5 yX5_ranks wsX5_ranks) := goodIn_app (goodIn_of _ (by decide +kernel)) ggX5_rank_X5_ranks
theorem dX5_rank_0 : decode cX5_rank 0 = .ok (.aload_n 0, 1) := by decide +kernel
theorem dX5_rank_1 : decode cX5_rank 1 = .ok (.iconst 0, 1) := by decide +kernel
theorem dX5_rank_2 : decode cX5_rank 2 = .ok (.putfield 58, 3) := by decide +kernel
theorem dX5_rank_5 : decode cX5_rank 5 = .ok (.aload_n 0, 1) := by decide +kernel
theorem dX5_rank_6 : decode cX5_rank 6 = .ok (.iconst (-1), 1) := by decide +kernel
theorem dX5_rank_7 : decode cX5_rank 7 = .ok (.iconst (-1), 1) := by decide +kernel
theorem dX5_rank_8 : decode cX5_rank 8 = .ok (.invokevirtual 145, 3) := by decide +kernel
theorem dX5_rank_11 : decode cX5_rank 11 = .ok (.ireturn, 1) := by decide +kernel
set_option maxRecDepth 20000 in
theorem ggX5_rankByCounting_X5_ranks : GoodIn wsX5_rankByCounting wsX5_ranks := goodIn_r _ [6, 7, 8, 9, 10, 11, 5, 12, 13, 14, 15, 16, 17, 18, 19, 20, 21, 22, 23, 24, 25, 26, 27, 28, 29, 30, 31, 32, 33, 34, 35, 36, 37, 38, 39, 40, 41, 42, 43, 44, 45] (by decide +kernel) (by decide +kernel)
set_option maxRecDepth 20000 in
theorem gX5_rankByCounting_X5_ranks : GoodIn wsX5_rankByCounting (wsV RX5 145 RX5 yX5_ranks wsX5_ranks) := goodIn_app (goodIn_of _ (by decide +kernel)) ggX5_rankByCounting_X5_ranks
theorem dX5_rankByCounting_0 : decode cX5_rankByCounting 0 = .ok (.aload_n 0, 1) := by decide +kernel
theorem dX5_rankByCounting_1 : decode cX5_rankByCounting 1 = .ok (.iconst 0, 1) := by decide +kernel
theorem dX5_rankByCounting_2 : decode cX5_rankByCounting 2 = .ok (.putfield 58, 3) := by decide +kernel
theorem dX5_rankByCounting_5 : decode cX5_rankByCounting 5 = .ok (.aload_n 0, 1) := by decide +kernel
theorem dX5_rankByCounting_6 : decode cX5_rankByCounting 6 = .ok (.iconst (-1), 1) := by decide +kernel
theorem dX5_rankByCounting_7 : decode cX5_rankByCounting 7 = .ok (.iconst (-1), 1) := by decide +kernel
theorem dX5_rankByCounting_8 : decode cX5_rankByCounting 8 = .ok (.invokevirtual 145, 3) := by decide +kernel
theorem dX5_rankByCounting_11 : decode cX5_rankByCounting 11 = .ok (.ireturn, 1) := by decide +kernel
set_option maxRecDepth 20000 in
theorem ggX5_isRigid_X5_countGroups : GoodIn wsX5_isRigid wsX5_countGroups := goodIn_r _ [6, 7, 8, 9, 10, 11, 5, 12, 13, 14, 15, 16, 17, 18, 19, 20, 21, 22, 23, 24, 41, 42, 43, 44, 45, 46, 47, 48, 49, 50, 51, 52, 53, 54, 55, 56, 57] (by decide +kernel) (by decide +kernel)
set_option maxRecDepth 20000 in
theorem gX5_isRigid_X5_countGroups : GoodIn wsX5_isRigid (wsV RX5 94 RX5 yX5_countGroups wsX5_countGroups) := goodIn_app (goodIn_of _ (by decide +kernel)) ggX5_isRigid_X5_countGroups
set_option maxRecDepth 20000 in
theorem ggX5_isRigid_X5_countUp : GoodIn wsX5_isRigid wsX5_countUp := goodIn_r _ [28, 7, 8, 41, 42, 43, 44, 45, 46, 47, 48, 49, 50, 51, 52, 53, 54, 55, 56, 57] (by decide +kernel) (by decide +kernel)
set_option maxRecDepth 20000 in
theorem gX5_isRigid_X5_countUp : GoodIn wsX5_isRigid (wsV RX5 148 RX5 yX5_countUp wsX5_countUp) := goodIn_app (goodIn_of _ (by decide +kernel)) ggX5_isRigid_X5_countUp
set_option maxRecDepth 20000 in
theorem ggX5_isRigid_X5_ranks : GoodIn wsX5_isRigid wsX5_ranks := goodIn_r _ [32, 33, 7, 13, 14, 15, 5, 16, 8, 17, 18, 19, 20, 21, 22, 23, 24, 34, 35, 36, 37, 38, 39, 40, 41, 42, 43, 44, 45, 46, 47, 48, 49, 50, 51, 52, 53, 54, 55, 56, 57] (by decide +kernel) (by decide +kernel)
set_option maxRecDepth 20000 in
theorem gX5_isRigid_X5_ranks : GoodIn wsX5_isRigid (wsV RX5 145 RX5 yX5_ranks wsX5_ranks) := goodIn_app (goodIn_of _ (by decide +kernel)) ggX5_isRigid_X5_ranks
theorem dX5_isRigid_0 : decode cX5_isRigid 0 = .ok (.aload_n 0, 1) := by decide +kernel
theorem dX5_isRigid_1 : decode cX5_isRigid 1 = .ok (.iconst 0, 1) := by decide +kernel
theorem dX5_isRigid_2 : decode cX5_isRigid 2 = .ok (.putfield 58, 3) := by decide +kernel
theorem dX5_isRigid_5 : decode cX5_isRigid 5 = .ok (.aload_n 0, 1) := by decide +kernel
theorem dX5_isRigid_6 : decode cX5_isRigid 6 = .ok (.invokevirtual 94, 3) := by decide +kernel
theorem dX5_isRigid_9 : decode cX5_isRigid 9 = .ok (.iconst 1, 1) := by decide +kernel
theorem dX5_isRigid_10 : decode cX5_isRigid 10 = .ok (.if_icmp .ne 32, 3) := by decide +kernel
theorem dX5_isRigid_13 : decode cX5_isRigid 13 = .ok (.aload_n 0, 1) := by decide +kernel
theorem dX5_isRigid_14 : decode cX5_isRigid 14 = .ok (.invokevirtual 148, 3) := by decide +kernel
theorem dX5_isRigid_17 : decode cX5_isRigid 17 = .ok (.iconst 2, 1) := by decide +kernel
theorem dX5_isRigid_18 : decode cX5_isRigid 18 = .ok (.if_icmp .lt 24, 3) := by decide +kernel
theorem dX5_isRigid_21 : decode cX5_isRigid 21 = .ok (.aload_n 0, 1) := by decide +kernel
theorem dX5_isRigid_22 : decode cX5_isRigid 22 = .ok (.iconst (-1), 1) := by decide +kernel
theorem dX5_isRigid_23 : decode cX5_isRigid 23 = .ok (.iconst (-1), 1) := by decide +kernel
theorem dX5_isRigid_24 : decode cX5_isRigid 24 = .ok (.invokevirtual 145, 3) := by decide +kernel
theorem dX5_isRigid_27 : decode cX5_isRigid 27 = .ok (.iconst 2, 1) := by decide +kernel
theorem dX5_isRigid_28 : decode cX5_isRigid 28 = .ok (.aload_n 0, 1) := by decide +kernel
theorem dX5_isRigid_29 : decode cX5_isRigid 29 = .ok (.invokevirtual 148, 3) := by decide +kernel
theorem dX5_isRigid_32 : decode cX5_isRigid 32 = .ok (.imul, 1) := by decide +kernel
theorem dX5_isRigid_33 : decode cX5_isRigid 33 = .ok (.iconst 3, 1) := by decide +kernel
theorem dX5_isRigid_34 : decode cX5_isRigid 34 = .ok (.isub, 1) := by decide +kernel
theorem dX5_isRigid_35 : decode cX5_isRigid 35 = .ok (.if_icmp .ne 7, 3) := by decide +kernel
theorem dX5_isRigid_38 : decode cX5_isRigid 38 = .ok (.iconst 1, 1) := by decide +kernel
theorem dX5_isRigid_39 : decode cX5_isRigid 39 = .ok (.goto 4, 3) := by decide +kernel
theorem dX5_isRigid_42 : decode cX5_isRigid 42 = .ok (.iconst 0, 1) := by decide +kernel
theorem dX5_isRigid_43 : decode cX5_isRigid 43 = .ok (.ireturn, 1) := by decide +kernel
set_option maxRecDepth 20000 in
theorem ggX5_isSpare_X5_is : GoodIn wsX5_isSpare wsX5_is := goodIn_r _ [5, 6, 7, 8, 4, 9, 40, 41, 42, 43, 44, 45, 46, 47, 48, 49, 50, 51, 52, 53, 54, 55, 56] (by decide +kernel) (by decide +kernel)
set_option maxRecDepth 20000 in
theorem gX5_isSpare_X5_is : GoodIn wsX5_isSpare (wsV RX5 76 RX5 yX5_is wsX5_is) := goodIn_app (goodIn_of _ (by decide +kernel)) ggX5_isSpare_X5_is
set_option maxRecDepth 20000 in
theorem ggX5_isSpare_X5_linked : GoodIn wsX5_isSpare wsX5_linked := goodIn_r _ [13, 14, 15, 16, 17, 18, 19, 4, 20, 21, 22, 40, 41, 42, 43, 44, 45, 46, 47, 48, 49, 50, 51, 52, 53, 54, 55, 56] (by decide +kernel) (by decide +kernel)
set_option maxRecDepth 20000 in
theorem gX5_isSpare_X5_linked : GoodIn wsX5_isSpare (wsV RX5 84 RX5 yX5_linked wsX5_linked) := goodIn_app (goodIn_of _ (by decide +kernel)) ggX5_isSpare_X5_linked
set_option maxRecDepth 20000 in
theorem ggX5_isSpare_X5_goes : GoodIn wsX5_isSpare wsX5_goes := goodIn_r _ [26, 27, 40, 41, 42, 43, 44, 45, 46, 47, 48, 49, 50, 51, 52, 53, 54, 55, 56] (by decide +kernel) (by decide +kernel)
set_option maxRecDepth 20000 in
theorem gX5_isSpare_X5_goes : GoodIn wsX5_isSpare (wsV RX5 72 RX5 yX5_goes wsX5_goes) := goodIn_app (goodIn_of _ (by decide +kernel)) ggX5_isSpare_X5_goes
set_option maxRecDepth 20000 in
theorem ggX5_isSpare_X5_ranks : GoodIn wsX5_isSpare wsX5_ranks := goodIn_r _ [31, 32, 6, 10, 11, 12, 4, 13, 14, 15, 16, 17, 18, 19, 20, 21, 22, 33, 34, 35, 36, 37, 38, 39, 40, 41, 42, 43, 44, 45, 46, 47, 48, 49, 50, 51, 52, 53, 54, 55, 56] (by decide +kernel) (by decide +kernel)
set_option maxRecDepth 20000 in
theorem gX5_isSpare_X5_ranks : GoodIn wsX5_isSpare (wsV RX5 145 RX5 yX5_ranks wsX5_ranks) := goodIn_app (goodIn_of _ (by decide +kernel)) ggX5_isSpare_X5_ranks
theorem dX5_isSpare_0 : decode cX5_isSpare 0 = .ok (.aload_n 0, 1) := by decide +kernel
theorem dX5_isSpare_1 : decode cX5_isSpare 1 = .ok (.iload_n 1, 1) := by decide +kernel
theorem dX5_isSpare_2 : decode cX5_isSpare 2 = .ok (.invokevirtual 76, 3) := by decide +kernel
theorem dX5_isSpare_5 : decode cX5_isSpare 5 = .ok (.ifCond .eq 15, 3) := by decide +kernel
theorem dX5_isSpare_8 : decode cX5_isSpare 8 = .ok (.aload_n 0, 1) := by decide +kernel
theorem dX5_isSpare_9 : decode cX5_isSpare 9 = .ok (.iload_n 2, 1) := by decide +kernel
theorem dX5_isSpare_10 : decode cX5_isSpare 10 = .ok (.invokevirtual 76, 3) := by decide +kernel
theorem dX5_isSpare_13 : decode cX5_isSpare 13 = .ok (.ifCond .eq 7, 3) := by decide +kernel
theorem dX5_isSpare_16 : decode cX5_isSpare 16 = .ok (.iconst 1, 1) := by decide +kernel
theorem dX5_isSpare_17 : decode cX5_isSpare 17 = .ok (.goto 4, 3) := by decide +kernel
theorem dX5_isSpare_20 : decode cX5_isSpare 20 = .ok (.iconst 0, 1) := by decide +kernel
theorem dX5_isSpare_21 : decode cX5_isSpare 21 = .ok (.istore_n 3, 1) := by decide +kernel
theorem dX5_isSpare_22 : decode cX5_isSpare 22 = .ok (.aload_n 0, 1) := by decide +kernel
theorem dX5_isSpare_23 : decode cX5_isSpare 23 = .ok (.iload_n 3, 1) := by decide +kernel
theorem dX5_isSpare_24 : decode cX5_isSpare 24 = .ok (.iload_n 3, 1) := by decide +kernel
theorem dX5_isSpare_25 : decode cX5_isSpare 25 = .ok (.ifCond .eq 16, 3) := by decide +kernel
theorem dX5_isSpare_28 : decode cX5_isSpare 28 = .ok (.aload_n 0, 1) := by decide +kernel
theorem dX5_isSpare_29 : decode cX5_isSpare 29 = .ok (.iload_n 1, 1) := by decide +kernel
theorem dX5_isSpare_30 : decode cX5_isSpare 30 = .ok (.iload_n 2, 1) := by decide +kernel
theorem dX5_isSpare_31 : decode cX5_isSpare 31 = .ok (.invokevirtual 84, 3) := by decide +kernel
theorem dX5_isSpare_34 : decode cX5_isSpare 34 = .ok (.ifCond .eq 7, 3) := by decide +kernel
theorem dX5_isSpare_37 : decode cX5_isSpare 37 = .ok (.iconst 1, 1) := by decide +kernel
theorem dX5_isSpare_38 : decode cX5_isSpare 38 = .ok (.goto 4, 3) := by decide +kernel
theorem dX5_isSpare_41 : decode cX5_isSpare 41 = .ok (.iconst 0, 1) := by decide +kernel
theorem dX5_isSpare_42 : decode cX5_isSpare 42 = .ok (.invokevirtual 72, 3) := by decide +kernel
theorem dX5_isSpare_45 : decode cX5_isSpare 45 = .ok (.ifCond .eq 22, 3) := by decide +kernel
theorem dX5_isSpare_48 : decode cX5_isSpare 48 = .ok (.aload_n 0, 1) := by decide +kernel
theorem dX5_isSpare_49 : decode cX5_isSpare 49 = .ok (.iload_n 1, 1) := by decide +kernel
theorem dX5_isSpare_50 : decode cX5_isSpare 50 = .ok (.iload_n 2, 1) := by decide +kernel
theorem dX5_isSpare_51 : decode cX5_isSpare 51 = .ok (.invokevirtual 145, 3) := by decide +kernel
theorem dX5_isSpare_54 : decode cX5_isSpare 54 = .ok (.aload_n 0, 1) := by decide +kernel
theorem dX5_isSpare_55 : decode cX5_isSpare 55 = .ok (.iconst (-1), 1) := by decide +kernel
theorem dX5_isSpare_56 : decode cX5_isSpare 56 = .ok (.iconst (-1), 1) := by decide +kernel
theorem dX5_isSpare_57 : decode cX5_isSpare 57 = .ok (.invokevirtual 145, 3) := by decide +kernel
theorem dX5_isSpare_60 : decode cX5_isSpare 60 = .ok (.if_icmp .ne 7, 3) := by decide +kernel
theorem dX5_isSpare_63 : decode cX5_isSpare 63 = .ok (.iconst 1, 1) := by decide +kernel
theorem dX5_isSpare_64 : decode cX5_isSpare 64 = .ok (.goto 4, 3) := by decide +kernel
theorem dX5_isSpare_67 : decode cX5_isSpare 67 = .ok (.iconst 0, 1) := by decide +kernel
theorem dX5_isSpare_68 : decode cX5_isSpare 68 = .ok (.ireturn, 1) := by decide +kernel
theorem dJ6_numberOfTrailingZeros_0f7a4_0 : decode cJ6_numberOfTrailingZeros_0f7a4 0 = .ok (.iload_n 0, 1) := by decide +kernel
theorem dJ6_numberOfTrailingZeros_0f7a4_1 : decode cJ6_numberOfTrailingZeros_0f7a4 1 = .ok (.iconst (-1), 1) := by decide +kernel
theorem dJ6_numberOfTrailingZeros_0f7a4_2 : decode cJ6_numberOfTrailingZeros_0f7a4 2 = .ok (.ixor, 1) := by decide +kernel
theorem dJ6_numberOfTrailingZeros_0f7a4_3 : decode cJ6_numberOfTrailingZeros_0f7a4 3 = .ok (.iload_n 0, 1) := by decide +kernel
theorem dJ6_numberOfTrailingZeros_0f7a4_4 : decode cJ6_numberOfTrailingZeros_0f7a4 4 = .ok (.iconst 1, 1) := by decide +kernel
theorem dJ6_numberOfTrailingZeros_0f7a4_5 : decode cJ6_numberOfTrailingZeros_0f7a4 5 = .ok (.isub, 1) := by decide +kernel
theorem dJ6_numberOfTrailingZeros_0f7a4_6 : decode cJ6_numberOfTrailingZeros_0f7a4 6 = .ok (.iand, 1) := by decide +kernel
theorem dJ6_numberOfTrailingZeros_0f7a4_7 : decode cJ6_numberOfTrailingZeros_0f7a4 7 = .ok (.istore_n 0, 1) := by decide +kernel
theorem dJ6_numberOfTrailingZeros_0f7a4_8 : decode cJ6_numberOfTrailingZeros_0f7a4 8 = .ok (.iload_n 0, 1) := by decide +kernel
theorem dJ6_numberOfTrailingZeros_0f7a4_9 : decode cJ6_numberOfTrailingZeros_0f7a4 9 = .ok (.ifCond .gt 8, 3) := by decide +kernel
theorem dJ6_numberOfTrailingZeros_0f7a4_12 : decode cJ6_numberOfTrailingZeros_0f7a4 12 = .ok (.iload_n 0, 1) := by decide +kernel
theorem dJ6_numberOfTrailingZeros_0f7a4_13 : decode cJ6_numberOfTrailingZeros_0f7a4 13 = .ok (.bipush 32, 2) := by decide +kernel
theorem dJ6_numberOfTrailingZeros_0f7a4_15 : decode cJ6_numberOfTrailingZeros_0f7a4 15 = .ok (.iand, 1) := by decide +kernel
theorem dJ6_numberOfTrailingZeros_0f7a4_16 : decode cJ6_numberOfTrailingZeros_0f7a4 16 = .ok (.ireturn, 1) := by decide +kernel
theorem dJ6_numberOfTrailingZeros_0f7a4_17 : decode cJ6_numberOfTrailingZeros_0f7a4 17 = .ok (.iconst 1, 1) := by decide +kernel
theorem dJ6_numberOfTrailingZeros_0f7a4_18 : decode cJ6_numberOfTrailingZeros_0f7a4 18 = .ok (.istore_n 1, 1) := by decide +kernel
theorem dJ6_numberOfTrailingZeros_0f7a4_19 : decode cJ6_numberOfTrailingZeros_0f7a4 19 = .ok (.iload_n 0, 1) := by decide +kernel
theorem dJ6_numberOfTrailingZeros_0f7a4_20 : decode cJ6_numberOfTrailingZeros_0f7a4 20 = .ok (.ldc_w 264, 3) := by decide +kernel
theorem dJ6_numberOfTrailingZeros_0f7a4_23 : decode cJ6_numberOfTrailingZeros_0f7a4 23 = .ok (.if_icmp .le 11, 3) := by decide +kernel
theorem dJ6_numberOfTrailingZeros_0f7a4_26 : decode cJ6_numberOfTrailingZeros_0f7a4 26 = .ok (.iinc 1 16, 3) := by decide +kernel
theorem dJ6_numberOfTrailingZeros_0f7a4_29 : decode cJ6_numberOfTrailingZeros_0f7a4 29 = .ok (.iload_n 0, 1) := by decide +kernel
theorem dJ6_numberOfTrailingZeros_0f7a4_30 : decode cJ6_numberOfTrailingZeros_0f7a4 30 = .ok (.bipush 16, 2) := by decide +kernel
theorem dJ6_numberOfTrailingZeros_0f7a4_32 : decode cJ6_numberOfTrailingZeros_0f7a4 32 = .ok (.iushr, 1) := by decide +kernel
theorem dJ6_numberOfTrailingZeros_0f7a4_33 : decode cJ6_numberOfTrailingZeros_0f7a4 33 = .ok (.istore_n 0, 1) := by decide +kernel
theorem dJ6_numberOfTrailingZeros_0f7a4_34 : decode cJ6_numberOfTrailingZeros_0f7a4 34 = .ok (.iload_n 0, 1) := by decide +kernel
theorem dJ6_numberOfTrailingZeros_0f7a4_35 : decode cJ6_numberOfTrailingZeros_0f7a4 35 = .ok (.sipush 256, 3) := by decide +kernel
theorem dJ6_numberOfTrailingZeros_0f7a4_38 : decode cJ6_numberOfTrailingZeros_0f7a4 38 = .ok (.if_icmp .le 11, 3) := by decide +kernel
theorem dJ6_numberOfTrailingZeros_0f7a4_41 : decode cJ6_numberOfTrailingZeros_0f7a4 41 = .ok (.iinc 1 8, 3) := by decide +kernel
theorem dJ6_numberOfTrailingZeros_0f7a4_44 : decode cJ6_numberOfTrailingZeros_0f7a4 44 = .ok (.iload_n 0, 1) := by decide +kernel
theorem dJ6_numberOfTrailingZeros_0f7a4_45 : decode cJ6_numberOfTrailingZeros_0f7a4 45 = .ok (.bipush 8, 2) := by decide +kernel
theorem dJ6_numberOfTrailingZeros_0f7a4_47 : decode cJ6_numberOfTrailingZeros_0f7a4 47 = .ok (.iushr, 1) := by decide +kernel
theorem dJ6_numberOfTrailingZeros_0f7a4_48 : decode cJ6_numberOfTrailingZeros_0f7a4 48 = .ok (.istore_n 0, 1) := by decide +kernel
theorem dJ6_numberOfTrailingZeros_0f7a4_49 : decode cJ6_numberOfTrailingZeros_0f7a4 49 = .ok (.iload_n 0, 1) := by decide +kernel
theorem dJ6_numberOfTrailingZeros_0f7a4_50 : decode cJ6_numberOfTrailingZeros_0f7a4 50 = .ok (.bipush 16, 2) := by decide +kernel
theorem dJ6_numberOfTrailingZeros_0f7a4_52 : decode cJ6_numberOfTrailingZeros_0f7a4 52 = .ok (.if_icmp .le 10, 3) := by decide +kernel
theorem dJ6_numberOfTrailingZeros_0f7a4_55 : decode cJ6_numberOfTrailingZeros_0f7a4 55 = .ok (.iinc 1 4, 3) := by decide +kernel
theorem dJ6_numberOfTrailingZeros_0f7a4_58 : decode cJ6_numberOfTrailingZeros_0f7a4 58 = .ok (.iload_n 0, 1) := by decide +kernel
theorem dJ6_numberOfTrailingZeros_0f7a4_59 : decode cJ6_numberOfTrailingZeros_0f7a4 59 = .ok (.iconst 4, 1) := by decide +kernel
theorem dJ6_numberOfTrailingZeros_0f7a4_60 : decode cJ6_numberOfTrailingZeros_0f7a4 60 = .ok (.iushr, 1) := by decide +kernel
theorem dJ6_numberOfTrailingZeros_0f7a4_61 : decode cJ6_numberOfTrailingZeros_0f7a4 61 = .ok (.istore_n 0, 1) := by decide +kernel
theorem dJ6_numberOfTrailingZeros_0f7a4_62 : decode cJ6_numberOfTrailingZeros_0f7a4 62 = .ok (.iload_n 0, 1) := by decide +kernel
theorem dJ6_numberOfTrailingZeros_0f7a4_63 : decode cJ6_numberOfTrailingZeros_0f7a4 63 = .ok (.iconst 4, 1) := by decide +kernel
theorem dJ6_numberOfTrailingZeros_0f7a4_64 : decode cJ6_numberOfTrailingZeros_0f7a4 64 = .ok (.if_icmp .le 10, 3) := by decide +kernel
theorem dJ6_numberOfTrailingZeros_0f7a4_67 : decode cJ6_numberOfTrailingZeros_0f7a4 67 = .ok (.iinc 1 2, 3) := by decide +kernel
theorem dJ6_numberOfTrailingZeros_0f7a4_70 : decode cJ6_numberOfTrailingZeros_0f7a4 70 = .ok (.iload_n 0, 1) := by decide +kernel
theorem dJ6_numberOfTrailingZeros_0f7a4_71 : decode cJ6_numberOfTrailingZeros_0f7a4 71 = .ok (.iconst 2, 1) := by decide +kernel
theorem dJ6_numberOfTrailingZeros_0f7a4_72 : decode cJ6_numberOfTrailingZeros_0f7a4 72 = .ok (.iushr, 1) := by decide +kernel
theorem dJ6_numberOfTrailingZeros_0f7a4_73 : decode cJ6_numberOfTrailingZeros_0f7a4 73 = .ok (.istore_n 0, 1) := by decide +kernel
theorem dJ6_numberOfTrailingZeros_0f7a4_74 : decode cJ6_numberOfTrailingZeros_0f7a4 74 = .ok (.iload_n 1, 1) := by decide +kernel
theorem dJ6_numberOfTrailingZeros_0f7a4_75 : decode cJ6_numberOfTrailingZeros_0f7a4 75 = .ok (.iload_n 0, 1) := by decide +kernel
theorem dJ6_numberOfTrailingZeros_0f7a4_76 : decode cJ6_numberOfTrailingZeros_0f7a4 76 = .ok (.iconst 1, 1) := by decide +kernel
theorem dJ6_numberOfTrailingZeros_0f7a4_77 : decode cJ6_numberOfTrailingZeros_0f7a4 77 = .ok (.iushr, 1) := by decide +kernel
theorem dJ6_numberOfTrailingZeros_0f7a4_78 : decode cJ6_numberOfTrailingZeros_0f7a4 78 = .ok (.iadd, 1) := by decide +kernel
theorem dJ6_numberOfTrailingZeros_0f7a4_79 : decode cJ6_numberOfTrailingZeros_0f7a4 79 = .ok (.ireturn, 1) := by decide +kernel
theorem dJ6_bitCount_0f7a4_0 : decode cJ6_bitCount_0f7a4 0 = .ok (.iload_n 0, 1) := by decide +kernel
theorem dJ6_bitCount_0f7a4_1 : decode cJ6_bitCount_0f7a4 1 = .ok (.iload_n 0, 1) := by decide +kernel
theorem dJ6_bitCount_0f7a4_2 : decode cJ6_bitCount_0f7a4 2 = .ok (.iconst 1, 1) := by decide +kernel
theorem dJ6_bitCount_0f7a4_3 : decode cJ6_bitCount_0f7a4 3 = .ok (.iushr, 1) := by decide +kernel
theorem dJ6_bitCount_0f7a4_4 : decode cJ6_bitCount_0f7a4 4 = .ok (.ldc_w 265, 3) := by decide +kernel
theorem dJ6_bitCount_0f7a4_7 : decode cJ6_bitCount_0f7a4 7 = .ok (.iand, 1) := by decide +kernel
theorem dJ6_bitCount_0f7a4_8 : decode cJ6_bitCount_0f7a4 8 = .ok (.isub, 1) := by decide +kernel
theorem dJ6_bitCount_0f7a4_9 : decode cJ6_bitCount_0f7a4 9 = .ok (.istore_n 0, 1) := by decide +kernel
theorem dJ6_bitCount_0f7a4_10 : decode cJ6_bitCount_0f7a4 10 = .ok (.iload_n 0, 1) := by decide +kernel
theorem dJ6_bitCount_0f7a4_11 : decode cJ6_bitCount_0f7a4 11 = .ok (.ldc_w 266, 3) := by decide +kernel
theorem dJ6_bitCount_0f7a4_14 : decode cJ6_bitCount_0f7a4 14 = .ok (.iand, 1) := by decide +kernel
theorem dJ6_bitCount_0f7a4_15 : decode cJ6_bitCount_0f7a4 15 = .ok (.iload_n 0, 1) := by decide +kernel
theorem dJ6_bitCount_0f7a4_16 : decode cJ6_bitCount_0f7a4 16 = .ok (.iconst 2, 1) := by decide +kernel
theorem dJ6_bitCount_0f7a4_17 : decode cJ6_bitCount_0f7a4 17 = .ok (.iushr, 1) := by decide +kernel
theorem dJ6_bitCount_0f7a4_18 : decode cJ6_bitCount_0f7a4 18 = .ok (.ldc_w 266, 3) := by decide +kernel
theorem dJ6_bitCount_0f7a4_21 : decode cJ6_bitCount_0f7a4 21 = .ok (.iand, 1) := by decide +kernel
theorem dJ6_bitCount_0f7a4_22 : decode cJ6_bitCount_0f7a4 22 = .ok (.iadd, 1) := by decide +kernel
theorem dJ6_bitCount_0f7a4_23 : decode cJ6_bitCount_0f7a4 23 = .ok (.istore_n 0, 1) := by decide +kernel
theorem dJ6_bitCount_0f7a4_24 : decode cJ6_bitCount_0f7a4 24 = .ok (.iload_n 0, 1) := by decide +kernel
theorem dJ6_bitCount_0f7a4_25 : decode cJ6_bitCount_0f7a4 25 = .ok (.iload_n 0, 1) := by decide +kernel
theorem dJ6_bitCount_0f7a4_26 : decode cJ6_bitCount_0f7a4 26 = .ok (.iconst 4, 1) := by decide +kernel
theorem dJ6_bitCount_0f7a4_27 : decode cJ6_bitCount_0f7a4 27 = .ok (.iushr, 1) := by decide +kernel
theorem dJ6_bitCount_0f7a4_28 : decode cJ6_bitCount_0f7a4 28 = .ok (.iadd, 1) := by decide +kernel
theorem dJ6_bitCount_0f7a4_29 : decode cJ6_bitCount_0f7a4 29 = .ok (.ldc_w 267, 3) := by decide +kernel
theorem dJ6_bitCount_0f7a4_32 : decode cJ6_bitCount_0f7a4 32 = .ok (.iand, 1) := by decide +kernel
theorem dJ6_bitCount_0f7a4_33 : decode cJ6_bitCount_0f7a4 33 = .ok (.istore_n 0, 1) := by decide +kernel
theorem dJ6_bitCount_0f7a4_34 : decode cJ6_bitCount_0f7a4 34 = .ok (.iload_n 0, 1) := by decide +kernel
theorem dJ6_bitCount_0f7a4_35 : decode cJ6_bitCount_0f7a4 35 = .ok (.iload_n 0, 1) := by decide +kernel
theorem dJ6_bitCount_0f7a4_36 : decode cJ6_bitCount_0f7a4 36 = .ok (.bipush 8, 2) := by decide +kernel
theorem dJ6_bitCount_0f7a4_38 : decode cJ6_bitCount_0f7a4 38 = .ok (.iushr, 1) := by decide +kernel
theorem dJ6_bitCount_0f7a4_39 : decode cJ6_bitCount_0f7a4 39 = .ok (.iadd, 1) := by decide +kernel
theorem dJ6_bitCount_0f7a4_40 : decode cJ6_bitCount_0f7a4 40 = .ok (.istore_n 0, 1) := by decide +kernel
theorem dJ6_bitCount_0f7a4_41 : decode cJ6_bitCount_0f7a4 41 = .ok (.iload_n 0, 1) := by decide +kernel
theorem dJ6_bitCount_0f7a4_42 : decode cJ6_bitCount_0f7a4 42 = .ok (.iload_n 0, 1) := by decide +kernel
theorem dJ6_bitCount_0f7a4_43 : decode cJ6_bitCount_0f7a4 43 = .ok (.bipush 16, 2) := by decide +kernel
theorem dJ6_bitCount_0f7a4_45 : decode cJ6_bitCount_0f7a4 45 = .ok (.iushr, 1) := by decide +kernel
theorem dJ6_bitCount_0f7a4_46 : decode cJ6_bitCount_0f7a4 46 = .ok (.iadd, 1) := by decide +kernel
theorem dJ6_bitCount_0f7a4_47 : decode cJ6_bitCount_0f7a4 47 = .ok (.istore_n 0, 1) := by decide +kernel
theorem dJ6_bitCount_0f7a4_48 : decode cJ6_bitCount_0f7a4 48 = .ok (.iload_n 0, 1) := by decide +kernel
theorem dJ6_bitCount_0f7a4_49 : decode cJ6_bitCount_0f7a4 49 = .ok (.bipush 63, 2) := by decide +kernel
theorem dJ6_bitCount_0f7a4_51 : decode cJ6_bitCount_0f7a4 51 = .ok (.iand, 1) := by decide +kernel
theorem dJ6_bitCount_0f7a4_52 : decode cJ6_bitCount_0f7a4 52 = .ok (.ireturn, 1) := by decide +kernel
theorem dJ9_abs_0f7a4_0 : decode cJ9_abs_0f7a4 0 = .ok (.iload_n 0, 1) := by decide +kernel
theorem dJ9_abs_0f7a4_1 : decode cJ9_abs_0f7a4 1 = .ok (.ifCond .ge 8, 3) := by decide +kernel
theorem dJ9_abs_0f7a4_4 : decode cJ9_abs_0f7a4 4 = .ok (.iload_n 0, 1) := by decide +kernel
theorem dJ9_abs_0f7a4_5 : decode cJ9_abs_0f7a4 5 = .ok (.ineg, 1) := by decide +kernel
theorem dJ9_abs_0f7a4_6 : decode cJ9_abs_0f7a4 6 = .ok (.goto 4, 3) := by decide +kernel
theorem dJ9_abs_0f7a4_9 : decode cJ9_abs_0f7a4 9 = .ok (.iload_n 0, 1) := by decide +kernel
theorem dJ9_abs_0f7a4_10 : decode cJ9_abs_0f7a4 10 = .ok (.ireturn, 1) := by decide +kernel
theorem dJ9_max_7cf53_0 : decode cJ9_max_7cf53 0 = .ok (.iload_n 0, 1) := by decide +kernel
theorem dJ9_max_7cf53_1 : decode cJ9_max_7cf53 1 = .ok (.iload_n 1, 1) := by decide +kernel
theorem dJ9_max_7cf53_2 : decode cJ9_max_7cf53 2 = .ok (.if_icmp .lt 7, 3) := by decide +kernel
theorem dJ9_max_7cf53_5 : decode cJ9_max_7cf53 5 = .ok (.iload_n 0, 1) := by decide +kernel
theorem dJ9_max_7cf53_6 : decode cJ9_max_7cf53 6 = .ok (.goto 4, 3) := by decide +kernel
theorem dJ9_max_7cf53_9 : decode cJ9_max_7cf53 9 = .ok (.iload_n 1, 1) := by decide +kernel
theorem dJ9_max_7cf53_10 : decode cJ9_max_7cf53 10 = .ok (.ireturn, 1) := by decide +kernel
theorem dJ9_max_f86c9_0 : decode cJ9_max_f86c9 0 = .ok (.lload_n 0, 1) := by decide +kernel
theorem dJ9_max_f86c9_1 : decode cJ9_max_f86c9 1 = .ok (.lload_n 2, 1) := by decide +kernel
theorem dJ9_max_f86c9_2 : decode cJ9_max_f86c9 2 = .ok (.lcmp, 1) := by decide +kernel
theorem dJ9_max_f86c9_3 : decode cJ9_max_f86c9 3 = .ok (.ifCond .lt 7, 3) := by decide +kernel
theorem dJ9_max_f86c9_6 : decode cJ9_max_f86c9 6 = .ok (.lload_n 0, 1) := by decide +kernel
theorem dJ9_max_f86c9_7 : decode cJ9_max_f86c9 7 = .ok (.goto 4, 3) := by decide +kernel
theorem dJ9_max_f86c9_10 : decode cJ9_max_f86c9 10 = .ok (.lload_n 2, 1) := by decide +kernel
theorem dJ9_max_f86c9_11 : decode cJ9_max_f86c9 11 = .ok (.lreturn, 1) := by decide +kernel
theorem dJ9_min_7cf53_0 : decode cJ9_min_7cf53 0 = .ok (.iload_n 0, 1) := by decide +kernel
theorem dJ9_min_7cf53_1 : decode cJ9_min_7cf53 1 = .ok (.iload_n 1, 1) := by decide +kernel
theorem dJ9_min_7cf53_2 : decode cJ9_min_7cf53 2 = .ok (.if_icmp .gt 7, 3) := by decide +kernel
theorem dJ9_min_7cf53_5 : decode cJ9_min_7cf53 5 = .ok (.iload_n 0, 1) := by decide +kernel
theorem dJ9_min_7cf53_6 : decode cJ9_min_7cf53 6 = .ok (.goto 4, 3) := by decide +kernel
theorem dJ9_min_7cf53_9 : decode cJ9_min_7cf53 9 = .ok (.iload_n 1, 1) := by decide +kernel
theorem dJ9_min_7cf53_10 : decode cJ9_min_7cf53 10 = .ok (.ireturn, 1) := by decide +kernel
theorem dJ9_min_f86c9_0 : decode cJ9_min_f86c9 0 = .ok (.lload_n 0, 1) := by decide +kernel
theorem dJ9_min_f86c9_1 : decode cJ9_min_f86c9 1 = .ok (.lload_n 2, 1) := by decide +kernel
theorem dJ9_min_f86c9_2 : decode cJ9_min_f86c9 2 = .ok (.lcmp, 1) := by decide +kernel
theorem dJ9_min_f86c9_3 : decode cJ9_min_f86c9 3 = .ok (.ifCond .gt 7, 3) := by decide +kernel
theorem dJ9_min_f86c9_6 : decode cJ9_min_f86c9 6 = .ok (.lload_n 0, 1) := by decide +kernel
theorem dJ9_min_f86c9_7 : decode cJ9_min_f86c9 7 = .ok (.goto 4, 3) := by decide +kernel
theorem dJ9_min_f86c9_10 : decode cJ9_min_f86c9 10 = .ok (.lload_n 2, 1) := by decide +kernel
theorem dJ9_min_f86c9_11 : decode cJ9_min_f86c9 11 = .ok (.lreturn, 1) := by decide +kernel
theorem dJ7_fill_53178_0 : decode cJ7_fill_53178 0 = .ok (.iconst 0, 1) := by decide +kernel
theorem dJ7_fill_53178_1 : decode cJ7_fill_53178 1 = .ok (.istore_n 2, 1) := by decide +kernel
theorem dJ7_fill_53178_2 : decode cJ7_fill_53178 2 = .ok (.aload_n 0, 1) := by decide +kernel
theorem dJ7_fill_53178_3 : decode cJ7_fill_53178 3 = .ok (.arraylength, 1) := by decide +kernel
theorem dJ7_fill_53178_4 : decode cJ7_fill_53178 4 = .ok (.istore_n 3, 1) := by decide +kernel
theorem dJ7_fill_53178_5 : decode cJ7_fill_53178 5 = .ok (.iload_n 2, 1) := by decide +kernel
theorem dJ7_fill_53178_6 : decode cJ7_fill_53178 6 = .ok (.iload_n 3, 1) := by decide +kernel
theorem dJ7_fill_53178_7 : decode cJ7_fill_53178 7 = .ok (.if_icmp .ge 13, 3) := by decide +kernel
theorem dJ7_fill_53178_10 : decode cJ7_fill_53178 10 = .ok (.aload_n 0, 1) := by decide +kernel
theorem dJ7_fill_53178_11 : decode cJ7_fill_53178 11 = .ok (.iload_n 2, 1) := by decide +kernel
theorem dJ7_fill_53178_12 : decode cJ7_fill_53178 12 = .ok (.iload_n 1, 1) := by decide +kernel
theorem dJ7_fill_53178_13 : decode cJ7_fill_53178 13 = .ok (.iastore, 1) := by decide +kernel
theorem dJ7_fill_53178_14 : decode cJ7_fill_53178 14 = .ok (.iinc 2 1, 3) := by decide +kernel
theorem dJ7_fill_53178_17 : decode cJ7_fill_53178 17 = .ok (.goto (-12), 3) := by decide +kernel
theorem dJ7_fill_53178_20 : decode cJ7_fill_53178 20 = .ok (.return_, 1) := by decide +kernel
set_option maxRecDepth 20000 in
theorem ggL_addMember_X4_addMember : GoodIn wsL_addMember wsX4_addMember := goodIn_ca (goodIn_ca (goodIn_r _ [7, 8, 9, 10, 11, 12, 13, 14, 15, 16, 17, 6, 18, 19, 20, 21, 22, 23, 24, 25, 26, 27, 28, 29, 30, 31, 32, 33, 34, 35, 36, 37, 38, 39, 40, 41] (by decide +kernel) (by decide +kernel)) (goodIn_sub (fun _ h => List.mem_cons_of_mem _ (List.mem_append_left _ (List.mem_append_right _ h))) (by decide +kernel))) (goodIn_sub (fun _ h => List.mem_cons_of_mem _ (List.mem_append_right _ h)) (by decide +kernel))
set_option maxRecDepth 20000 in
theorem gL_addMember_X4_addMember : GoodIn wsL_addMember (wsV RL 7 RX4 yX4_addMember wsX4_addMember) := goodIn_app (goodIn_of _ (by decide +kernel)) ggL_addMember_X4_addMember
theorem dL_addMember_0 : decode cL_addMember 0 = .ok (.aload_n 3, 1) := by decide +kernel
theorem dL_addMember_1 : decode cL_addMember 1 = .ok (.iconst 0, 1) := by decide +kernel
theorem dL_addMember_2 : decode cL_addMember 2 = .ok (.aload_n 0, 1) := by decide +kernel
theorem dL_addMember_3 : decode cL_addMember 3 = .ok (.iload_n 1, 1) := by decide +kernel
theorem dL_addMember_4 : decode cL_addMember 4 = .ok (.iload_n 2, 1) := by decide +kernel
theorem dL_addMember_5 : decode cL_addMember 5 = .ok (.invokevirtual 7, 3) := by decide +kernel
theorem dL_addMember_8 : decode cL_addMember 8 = .ok (.i2l, 1) := by decide +kernel
theorem dL_addMember_9 : decode cL_addMember 9 = .ok (.lastore, 1) := by decide +kernel
theorem dL_addMember_10 : decode cL_addMember 10 = .ok (.goto 11, 3) := by decide +kernel
theorem dL_addMember_13 : decode cL_addMember 13 = .ok (.astore 4, 2) := by decide +kernel
theorem dL_addMember_15 : decode cL_addMember 15 = .ok (.iconst 1, 1) := by decide +kernel
theorem dL_addMember_16 : decode cL_addMember 16 = .ok (.ireturn, 1) := by decide +kernel
theorem dL_addMember_17 : decode cL_addMember 17 = .ok (.astore 4, 2) := by decide +kernel
theorem dL_addMember_19 : decode cL_addMember 19 = .ok (.iconst 2, 1) := by decide +kernel
theorem dL_addMember_20 : decode cL_addMember 20 = .ok (.ireturn, 1) := by decide +kernel
theorem dL_addMember_21 : decode cL_addMember 21 = .ok (.iconst 0, 1) := by decide +kernel
theorem dL_addMember_22 : decode cL_addMember 22 = .ok (.ireturn, 1) := by decide +kernel
set_option maxRecDepth 20000 in
theorem ggL_move_X4_move : GoodIn wsL_move wsX4_move := goodIn_ca (goodIn_ca (goodIn_r _ [7, 8, 9, 10, 11, 12, 6, 13, 14, 15, 16, 17, 18, 19, 20, 21, 22, 23, 24, 25, 26, 27, 28, 29, 30, 31, 32, 33, 34, 35, 36, 37, 38, 39, 40, 41, 42] (by decide +kernel) (by decide +kernel)) (goodIn_sub (fun _ h => List.mem_cons_of_mem _ (List.mem_append_left _ (List.mem_append_right _ h))) (by decide +kernel))) (goodIn_sub (fun _ h => List.mem_cons_of_mem _ (List.mem_append_right _ h)) (by decide +kernel))
set_option maxRecDepth 20000 in
theorem gL_move_X4_move : GoodIn wsL_move (wsV RL 17 RX4 yX4_move wsX4_move) := goodIn_app (goodIn_of _ (by decide +kernel)) ggL_move_X4_move
theorem dL_move_0 : decode cL_move 0 = .ok (.aload_n 0, 1) := by decide +kernel
theorem dL_move_1 : decode cL_move 1 = .ok (.iload_n 1, 1) := by decide +kernel
theorem dL_move_2 : decode cL_move 2 = .ok (.iload_n 2, 1) := by decide +kernel
theorem dL_move_3 : decode cL_move 3 = .ok (.iload_n 3, 1) := by decide +kernel
theorem dL_move_4 : decode cL_move 4 = .ok (.invokevirtual 17, 3) := by decide +kernel
theorem dL_move_7 : decode cL_move 7 = .ok (.goto 11, 3) := by decide +kernel
theorem dL_move_10 : decode cL_move 10 = .ok (.astore 4, 2) := by decide +kernel
theorem dL_move_12 : decode cL_move 12 = .ok (.iconst 1, 1) := by decide +kernel
theorem dL_move_13 : decode cL_move 13 = .ok (.ireturn, 1) := by decide +kernel
theorem dL_move_14 : decode cL_move 14 = .ok (.astore 4, 2) := by decide +kernel
theorem dL_move_16 : decode cL_move 16 = .ok (.iconst 2, 1) := by decide +kernel
theorem dL_move_17 : decode cL_move 17 = .ok (.ireturn, 1) := by decide +kernel
theorem dL_move_18 : decode cL_move 18 = .ok (.iconst 0, 1) := by decide +kernel
theorem dL_move_19 : decode cL_move 19 = .ok (.ireturn, 1) := by decide +kernel
set_option maxRecDepth 20000 in
theorem ggL_toggle_X4_toggle : GoodIn wsL_toggle wsX4_toggle := goodIn_ca (goodIn_r _ [6, 7, 8, 9, 10, 5, 11, 12, 13, 14, 15, 16, 17, 18, 19, 20, 21, 22, 23, 24, 25, 26, 27, 28, 29, 30, 31, 32] (by decide +kernel) (by decide +kernel)) (goodIn_sub (fun _ h => List.mem_cons_of_mem _ (List.mem_append_right _ h)) (by decide +kernel))
set_option maxRecDepth 20000 in
theorem gL_toggle_X4_toggle : GoodIn wsL_toggle (wsV RL 23 RX4 yX4_toggle wsX4_toggle) := goodIn_app (goodIn_of _ (by decide +kernel)) ggL_toggle_X4_toggle
theorem dL_toggle_0 : decode cL_toggle 0 = .ok (.aload_n 2, 1) := by decide +kernel
theorem dL_toggle_1 : decode cL_toggle 1 = .ok (.iconst 0, 1) := by decide +kernel
theorem dL_toggle_2 : decode cL_toggle 2 = .ok (.aload_n 0, 1) := by decide +kernel
theorem dL_toggle_3 : decode cL_toggle 3 = .ok (.iload_n 1, 1) := by decide +kernel
theorem dL_toggle_4 : decode cL_toggle 4 = .ok (.invokevirtual 23, 3) := by decide +kernel
theorem dL_toggle_7 : decode cL_toggle 7 = .ok (.ifCond .eq 7, 3) := by decide +kernel
theorem dL_toggle_10 : decode cL_toggle 10 = .ok (.lconst 1, 1) := by decide +kernel
theorem dL_toggle_11 : decode cL_toggle 11 = .ok (.goto 4, 3) := by decide +kernel
theorem dL_toggle_14 : decode cL_toggle 14 = .ok (.lconst 0, 1) := by decide +kernel
theorem dL_toggle_15 : decode cL_toggle 15 = .ok (.lastore, 1) := by decide +kernel
theorem dL_toggle_16 : decode cL_toggle 16 = .ok (.goto 6, 3) := by decide +kernel
theorem dL_toggle_19 : decode cL_toggle 19 = .ok (.astore_n 3, 1) := by decide +kernel
theorem dL_toggle_20 : decode cL_toggle 20 = .ok (.iconst 1, 1) := by decide +kernel
theorem dL_toggle_21 : decode cL_toggle 21 = .ok (.ireturn, 1) := by decide +kernel
theorem dL_toggle_22 : decode cL_toggle 22 = .ok (.iconst 0, 1) := by decide +kernel
theorem dL_toggle_23 : decode cL_toggle 23 = .ok (.ireturn, 1) := by decide +kernel
set_option maxRecDepth 20000 in
theorem ggL_setPriority_X4_setPriority : GoodIn wsL_setPriority wsX4_setPriority := goodIn_ca (goodIn_ca (goodIn_r _ [7, 8, 9, 10, 11, 6, 12, 13, 14, 15, 16, 17, 18, 19, 20, 21, 22, 23, 24, 25, 26, 27, 28, 29, 30, 31, 32, 33, 34, 35, 36, 37, 38] (by decide +kernel) (by decide +kernel)) (goodIn_sub (fun _ h => List.mem_cons_of_mem _ (List.mem_append_left _ (List.mem_append_right _ h))) (by decide +kernel))) (goodIn_sub (fun _ h => List.mem_cons_of_mem _ (List.mem_append_right _ h)) (by decide +kernel))
set_option maxRecDepth 20000 in
theorem gL_setPriority_X4_setPriority : GoodIn wsL_setPriority (wsV RL 27 RX4 yX4_setPriority wsX4_setPriority) := goodIn_app (goodIn_of _ (by decide +kernel)) ggL_setPriority_X4_setPriority
theorem dL_setPriority_0 : decode cL_setPriority 0 = .ok (.aload_n 3, 1) := by decide +kernel
theorem dL_setPriority_1 : decode cL_setPriority 1 = .ok (.iconst 0, 1) := by decide +kernel
theorem dL_setPriority_2 : decode cL_setPriority 2 = .ok (.aload_n 0, 1) := by decide +kernel
theorem dL_setPriority_3 : decode cL_setPriority 3 = .ok (.iload_n 1, 1) := by decide +kernel
theorem dL_setPriority_4 : decode cL_setPriority 4 = .ok (.iload_n 2, 1) := by decide +kernel
theorem dL_setPriority_5 : decode cL_setPriority 5 = .ok (.invokevirtual 27, 3) := by decide +kernel
theorem dL_setPriority_8 : decode cL_setPriority 8 = .ok (.i2l, 1) := by decide +kernel
theorem dL_setPriority_9 : decode cL_setPriority 9 = .ok (.lastore, 1) := by decide +kernel
theorem dL_setPriority_10 : decode cL_setPriority 10 = .ok (.goto 11, 3) := by decide +kernel
theorem dL_setPriority_13 : decode cL_setPriority 13 = .ok (.astore 4, 2) := by decide +kernel
theorem dL_setPriority_15 : decode cL_setPriority 15 = .ok (.iconst 1, 1) := by decide +kernel
theorem dL_setPriority_16 : decode cL_setPriority 16 = .ok (.ireturn, 1) := by decide +kernel
theorem dL_setPriority_17 : decode cL_setPriority 17 = .ok (.astore 4, 2) := by decide +kernel
theorem dL_setPriority_19 : decode cL_setPriority 19 = .ok (.iconst 2, 1) := by decide +kernel
theorem dL_setPriority_20 : decode cL_setPriority 20 = .ok (.ireturn, 1) := by decide +kernel
theorem dL_setPriority_21 : decode cL_setPriority 21 = .ok (.iconst 0, 1) := by decide +kernel
theorem dL_setPriority_22 : decode cL_setPriority 22 = .ok (.ireturn, 1) := by decide +kernel
set_option maxRecDepth 20000 in
theorem ggL_setRange_X4_setRange : GoodIn wsL_setRange wsX4_setRange := goodIn_ca (goodIn_r _ [6, 7, 8, 9, 5, 10, 11, 12, 13, 14, 15, 16, 17, 18, 19, 20, 21, 22, 23, 24, 25, 26, 27, 28, 29, 30] (by decide +kernel) (by decide +kernel)) (goodIn_sub (fun _ h => List.mem_cons_of_mem _ (List.mem_append_right _ h)) (by decide +kernel))
set_option maxRecDepth 20000 in
theorem gL_setRange_X4_setRange : GoodIn wsL_setRange (wsV RL 30 RX4 yX4_setRange wsX4_setRange) := goodIn_app (goodIn_of _ (by decide +kernel)) ggL_setRange_X4_setRange
theorem dL_setRange_0 : decode cL_setRange 0 = .ok (.aload_n 2, 1) := by decide +kernel
theorem dL_setRange_1 : decode cL_setRange 1 = .ok (.iconst 0, 1) := by decide +kernel
theorem dL_setRange_2 : decode cL_setRange 2 = .ok (.aload_n 0, 1) := by decide +kernel
theorem dL_setRange_3 : decode cL_setRange 3 = .ok (.iload_n 1, 1) := by decide +kernel
theorem dL_setRange_4 : decode cL_setRange 4 = .ok (.invokevirtual 30, 3) := by decide +kernel
theorem dL_setRange_7 : decode cL_setRange 7 = .ok (.i2l, 1) := by decide +kernel
theorem dL_setRange_8 : decode cL_setRange 8 = .ok (.lastore, 1) := by decide +kernel
theorem dL_setRange_9 : decode cL_setRange 9 = .ok (.goto 6, 3) := by decide +kernel
theorem dL_setRange_12 : decode cL_setRange 12 = .ok (.astore_n 3, 1) := by decide +kernel
theorem dL_setRange_13 : decode cL_setRange 13 = .ok (.iconst 1, 1) := by decide +kernel
theorem dL_setRange_14 : decode cL_setRange 14 = .ok (.ireturn, 1) := by decide +kernel
theorem dL_setRange_15 : decode cL_setRange 15 = .ok (.iconst 0, 1) := by decide +kernel
theorem dL_setRange_16 : decode cL_setRange 16 = .ok (.ireturn, 1) := by decide +kernel
set_option maxRecDepth 20000 in
theorem ggL_block_X4_block : GoodIn wsL_block wsX4_block := goodIn_ca (goodIn_ca (goodIn_r _ [7, 8, 9, 10, 11, 6, 12, 13, 14, 15, 16, 17, 18, 19, 20, 21, 22, 23, 24, 25, 26, 27, 28, 29, 30, 31, 32, 33, 34, 35, 36, 37, 38, 39, 40, 41, 42, 43, 44, 45, 46, 47, 48, 49, 50, 51, 52, 53, 54, 55, 56, 57, 58, 59, 60] (by decide +kernel) (by decide +kernel)) (goodIn_sub (fun _ h => List.mem_cons_of_mem _ (List.mem_append_left _ (List.mem_append_right _ h))) (by decide +kernel))) (goodIn_sub (fun _ h => List.mem_cons_of_mem _ (List.mem_append_right _ h)) (by decide +kernel))
set_option maxRecDepth 20000 in
theorem gL_block_X4_block : GoodIn wsL_block (wsV RL 34 RX4 yX4_block wsX4_block) := goodIn_app (goodIn_of _ (by decide +kernel)) ggL_block_X4_block
theorem dL_block_0 : decode cL_block 0 = .ok (.aload_n 3, 1) := by decide +kernel
theorem dL_block_1 : decode cL_block 1 = .ok (.iconst 0, 1) := by decide +kernel
theorem dL_block_2 : decode cL_block 2 = .ok (.aload_n 0, 1) := by decide +kernel
theorem dL_block_3 : decode cL_block 3 = .ok (.iload_n 1, 1) := by decide +kernel
theorem dL_block_4 : decode cL_block 4 = .ok (.iload_n 2, 1) := by decide +kernel
theorem dL_block_5 : decode cL_block 5 = .ok (.invokevirtual 34, 3) := by decide +kernel
theorem dL_block_8 : decode cL_block 8 = .ok (.ifCond .eq 7, 3) := by decide +kernel
theorem dL_block_11 : decode cL_block 11 = .ok (.lconst 1, 1) := by decide +kernel
theorem dL_block_12 : decode cL_block 12 = .ok (.goto 4, 3) := by decide +kernel
theorem dL_block_15 : decode cL_block 15 = .ok (.lconst 0, 1) := by decide +kernel
theorem dL_block_16 : decode cL_block 16 = .ok (.lastore, 1) := by decide +kernel
theorem dL_block_17 : decode cL_block 17 = .ok (.goto 11, 3) := by decide +kernel
theorem dL_block_20 : decode cL_block 20 = .ok (.astore 4, 2) := by decide +kernel
theorem dL_block_22 : decode cL_block 22 = .ok (.iconst 1, 1) := by decide +kernel
theorem dL_block_23 : decode cL_block 23 = .ok (.ireturn, 1) := by decide +kernel
theorem dL_block_24 : decode cL_block 24 = .ok (.astore 4, 2) := by decide +kernel
theorem dL_block_26 : decode cL_block 26 = .ok (.iconst 2, 1) := by decide +kernel
theorem dL_block_27 : decode cL_block 27 = .ok (.ireturn, 1) := by decide +kernel
theorem dL_block_28 : decode cL_block 28 = .ok (.iconst 0, 1) := by decide +kernel
theorem dL_block_29 : decode cL_block 29 = .ok (.ireturn, 1) := by decide +kernel
set_option maxRecDepth 20000 in
theorem ggL_xOf_X4_xOf : GoodIn wsL_xOf wsX4_xOf := goodIn_ca (goodIn_r _ [6, 7, 8, 9, 10, 5, 11, 12, 13, 14, 15, 16, 17, 18, 19, 20, 21, 22, 23, 24, 25, 26, 27, 28, 29, 30, 31, 32] (by decide +kernel) (by decide +kernel)) (goodIn_sub (fun _ h => List.mem_cons_of_mem _ (List.mem_append_right _ h)) (by decide +kernel))
set_option maxRecDepth 20000 in
theorem gL_xOf_X4_xOf : GoodIn wsL_xOf (wsV RL 38 RX4 yX4_xOf wsX4_xOf) := goodIn_app (goodIn_of _ (by decide +kernel)) ggL_xOf_X4_xOf
theorem dL_xOf_0 : decode cL_xOf 0 = .ok (.aload_n 2, 1) := by decide +kernel
theorem dL_xOf_1 : decode cL_xOf 1 = .ok (.iconst 0, 1) := by decide +kernel
theorem dL_xOf_2 : decode cL_xOf 2 = .ok (.aload_n 0, 1) := by decide +kernel
theorem dL_xOf_3 : decode cL_xOf 3 = .ok (.iload_n 1, 1) := by decide +kernel
theorem dL_xOf_4 : decode cL_xOf 4 = .ok (.invokevirtual 38, 3) := by decide +kernel
theorem dL_xOf_7 : decode cL_xOf 7 = .ok (.i2l, 1) := by decide +kernel
theorem dL_xOf_8 : decode cL_xOf 8 = .ok (.lastore, 1) := by decide +kernel
theorem dL_xOf_9 : decode cL_xOf 9 = .ok (.goto 6, 3) := by decide +kernel
theorem dL_xOf_12 : decode cL_xOf 12 = .ok (.astore_n 3, 1) := by decide +kernel
theorem dL_xOf_13 : decode cL_xOf 13 = .ok (.iconst 1, 1) := by decide +kernel
theorem dL_xOf_14 : decode cL_xOf 14 = .ok (.ireturn, 1) := by decide +kernel
theorem dL_xOf_15 : decode cL_xOf 15 = .ok (.iconst 0, 1) := by decide +kernel
theorem dL_xOf_16 : decode cL_xOf 16 = .ok (.ireturn, 1) := by decide +kernel
set_option maxRecDepth 20000 in
theorem ggL_yOf_X4_yOf : GoodIn wsL_yOf wsX4_yOf := goodIn_ca (goodIn_r _ [6, 7, 8, 9, 10, 5, 11, 12, 13, 14, 15, 16, 17, 18, 19, 20, 21, 22, 23, 24, 25, 26, 27, 28, 29, 30, 31, 32] (by decide +kernel) (by decide +kernel)) (goodIn_sub (fun _ h => List.mem_cons_of_mem _ (List.mem_append_right _ h)) (by decide +kernel))
set_option maxRecDepth 20000 in
theorem gL_yOf_X4_yOf : GoodIn wsL_yOf (wsV RL 41 RX4 yX4_yOf wsX4_yOf) := goodIn_app (goodIn_of _ (by decide +kernel)) ggL_yOf_X4_yOf
theorem dL_yOf_0 : decode cL_yOf 0 = .ok (.aload_n 2, 1) := by decide +kernel
theorem dL_yOf_1 : decode cL_yOf 1 = .ok (.iconst 0, 1) := by decide +kernel
theorem dL_yOf_2 : decode cL_yOf 2 = .ok (.aload_n 0, 1) := by decide +kernel
theorem dL_yOf_3 : decode cL_yOf 3 = .ok (.iload_n 1, 1) := by decide +kernel
theorem dL_yOf_4 : decode cL_yOf 4 = .ok (.invokevirtual 41, 3) := by decide +kernel
theorem dL_yOf_7 : decode cL_yOf 7 = .ok (.i2l, 1) := by decide +kernel
theorem dL_yOf_8 : decode cL_yOf 8 = .ok (.lastore, 1) := by decide +kernel
theorem dL_yOf_9 : decode cL_yOf 9 = .ok (.goto 6, 3) := by decide +kernel
theorem dL_yOf_12 : decode cL_yOf 12 = .ok (.astore_n 3, 1) := by decide +kernel
theorem dL_yOf_13 : decode cL_yOf 13 = .ok (.iconst 1, 1) := by decide +kernel
theorem dL_yOf_14 : decode cL_yOf 14 = .ok (.ireturn, 1) := by decide +kernel
theorem dL_yOf_15 : decode cL_yOf 15 = .ok (.iconst 0, 1) := by decide +kernel
theorem dL_yOf_16 : decode cL_yOf 16 = .ok (.ireturn, 1) := by decide +kernel
set_option maxRecDepth 20000 in
theorem ggL_areLinked_X4_areLinked : GoodIn wsL_areLinked wsX4_areLinked := goodIn_ca (goodIn_r _ [6, 7, 8, 9, 5, 10, 11, 12, 13, 14, 15, 16, 17, 18, 19, 20, 21, 22, 23, 24, 25, 26, 27, 28, 29, 30, 31, 32, 33, 34, 35, 36, 37, 38, 39, 40, 41, 42, 43, 44, 45, 46, 47, 48, 49, 50, 51, 52, 53] (by decide +kernel) (by decide +kernel)) (goodIn_sub (fun _ h => List.mem_cons_of_mem _ (List.mem_append_right _ h)) (by decide +kernel))
set_option maxRecDepth 20000 in
theorem gL_areLinked_X4_areLinked : GoodIn wsL_areLinked (wsV RL 44 RX4 yX4_areLinked wsX4_areLinked) := goodIn_app (goodIn_of _ (by decide +kernel)) ggL_areLinked_X4_areLinked
theorem dL_areLinked_0 : decode cL_areLinked 0 = .ok (.aload_n 3, 1) := by decide +kernel
theorem dL_areLinked_1 : decode cL_areLinked 1 = .ok (.iconst 0, 1) := by decide +kernel
theorem dL_areLinked_2 : decode cL_areLinked 2 = .ok (.aload_n 0, 1) := by decide +kernel
theorem dL_areLinked_3 : decode cL_areLinked 3 = .ok (.iload_n 1, 1) := by decide +kernel
theorem dL_areLinked_4 : decode cL_areLinked 4 = .ok (.iload_n 2, 1) := by decide +kernel
theorem dL_areLinked_5 : decode cL_areLinked 5 = .ok (.invokevirtual 44, 3) := by decide +kernel
theorem dL_areLinked_8 : decode cL_areLinked 8 = .ok (.ifCond .eq 7, 3) := by decide +kernel
theorem dL_areLinked_11 : decode cL_areLinked 11 = .ok (.lconst 1, 1) := by decide +kernel
theorem dL_areLinked_12 : decode cL_areLinked 12 = .ok (.goto 4, 3) := by decide +kernel
theorem dL_areLinked_15 : decode cL_areLinked 15 = .ok (.lconst 0, 1) := by decide +kernel
theorem dL_areLinked_16 : decode cL_areLinked 16 = .ok (.lastore, 1) := by decide +kernel
theorem dL_areLinked_17 : decode cL_areLinked 17 = .ok (.goto 7, 3) := by decide +kernel
theorem dL_areLinked_20 : decode cL_areLinked 20 = .ok (.astore 4, 2) := by decide +kernel
theorem dL_areLinked_22 : decode cL_areLinked 22 = .ok (.iconst 1, 1) := by decide +kernel
theorem dL_areLinked_23 : decode cL_areLinked 23 = .ok (.ireturn, 1) := by decide +kernel
theorem dL_areLinked_24 : decode cL_areLinked 24 = .ok (.iconst 0, 1) := by decide +kernel
theorem dL_areLinked_25 : decode cL_areLinked 25 = .ok (.ireturn, 1) := by decide +kernel
set_option maxRecDepth 20000 in
theorem ggL_degree_X4_degree : GoodIn wsL_degree wsX4_degree := goodIn_ca (goodIn_r _ [6, 7, 8, 9, 10, 5, 11, 12, 13, 14, 15, 16, 17, 18, 19, 20, 21, 22, 23, 24, 25, 26, 27, 28, 29, 30, 31, 32, 33, 34, 35, 36, 37, 38, 39, 40, 41, 42, 43, 44, 45, 46, 47, 48, 49, 50, 51, 52, 53, 54, 55, 56, 57, 58, 59, 60, 61, 62, 63, 64, 65, 66, 67, 68, 69, 70, 71, 72, 73, 74, 75, 76, 77, 78, 79, 80, 81] (by decide +kernel) (by decide +kernel)) (goodIn_sub (fun _ h => List.mem_cons_of_mem _ (List.mem_append_right _ h)) (by decide +kernel))
set_option maxRecDepth 20000 in
theorem gL_degree_X4_degree : GoodIn wsL_degree (wsV RL 47 RX4 yX4_degree wsX4_degree) := goodIn_app (goodIn_of _ (by decide +kernel)) ggL_degree_X4_degree
theorem dL_degree_0 : decode cL_degree 0 = .ok (.aload_n 2, 1) := by decide +kernel
theorem dL_degree_1 : decode cL_degree 1 = .ok (.iconst 0, 1) := by decide +kernel
theorem dL_degree_2 : decode cL_degree 2 = .ok (.aload_n 0, 1) := by decide +kernel
theorem dL_degree_3 : decode cL_degree 3 = .ok (.iload_n 1, 1) := by decide +kernel
theorem dL_degree_4 : decode cL_degree 4 = .ok (.invokevirtual 47, 3) := by decide +kernel
theorem dL_degree_7 : decode cL_degree 7 = .ok (.i2l, 1) := by decide +kernel
theorem dL_degree_8 : decode cL_degree 8 = .ok (.lastore, 1) := by decide +kernel
theorem dL_degree_9 : decode cL_degree 9 = .ok (.goto 6, 3) := by decide +kernel
theorem dL_degree_12 : decode cL_degree 12 = .ok (.astore_n 3, 1) := by decide +kernel
theorem dL_degree_13 : decode cL_degree 13 = .ok (.iconst 1, 1) := by decide +kernel
theorem dL_degree_14 : decode cL_degree 14 = .ok (.ireturn, 1) := by decide +kernel
theorem dL_degree_15 : decode cL_degree 15 = .ok (.iconst 0, 1) := by decide +kernel
theorem dL_degree_16 : decode cL_degree 16 = .ok (.ireturn, 1) := by decide +kernel
set_option maxRecDepth 20000 in
theorem ggL_leader_X4_leader : GoodIn wsL_leader wsX4_leader := goodIn_ca (goodIn_r _ [6, 7, 8, 9, 10, 11, 12, 5, 13, 14, 15, 16, 17, 18, 19, 20, 21, 22, 23, 24, 25, 26, 27, 28, 29, 30, 31, 32, 33, 34, 35, 36, 37, 38, 39, 40, 41, 42, 43, 44, 45, 46, 47, 48, 49, 50, 51, 52, 53, 54, 55, 56, 57, 58, 59, 60, 61, 62, 63, 64, 65, 66, 67, 68, 69, 70, 71, 72, 73, 74, 75, 76, 77, 78, 79] (by decide +kernel) (by decide +kernel)) (goodIn_sub (fun _ h => List.mem_cons_of_mem _ (List.mem_append_right _ h)) (by decide +kernel))
set_option maxRecDepth 20000 in
theorem gL_leader_X4_leader : GoodIn wsL_leader (wsV RL 50 RX4 yX4_leader wsX4_leader) := goodIn_app (goodIn_of _ (by decide +kernel)) ggL_leader_X4_leader
theorem dL_leader_0 : decode cL_leader 0 = .ok (.aload_n 2, 1) := by decide +kernel
theorem dL_leader_1 : decode cL_leader 1 = .ok (.iconst 0, 1) := by decide +kernel
theorem dL_leader_2 : decode cL_leader 2 = .ok (.aload_n 0, 1) := by decide +kernel
theorem dL_leader_3 : decode cL_leader 3 = .ok (.iload_n 1, 1) := by decide +kernel
theorem dL_leader_4 : decode cL_leader 4 = .ok (.invokevirtual 50, 3) := by decide +kernel
theorem dL_leader_7 : decode cL_leader 7 = .ok (.i2l, 1) := by decide +kernel
theorem dL_leader_8 : decode cL_leader 8 = .ok (.lastore, 1) := by decide +kernel
theorem dL_leader_9 : decode cL_leader 9 = .ok (.goto 6, 3) := by decide +kernel
theorem dL_leader_12 : decode cL_leader 12 = .ok (.astore_n 3, 1) := by decide +kernel
theorem dL_leader_13 : decode cL_leader 13 = .ok (.iconst 1, 1) := by decide +kernel
theorem dL_leader_14 : decode cL_leader 14 = .ok (.ireturn, 1) := by decide +kernel
theorem dL_leader_15 : decode cL_leader 15 = .ok (.iconst 0, 1) := by decide +kernel
theorem dL_leader_16 : decode cL_leader 16 = .ok (.ireturn, 1) := by decide +kernel
set_option maxRecDepth 20000 in
theorem ggL_setEstimate_X4_setEstimate : GoodIn wsL_setEstimate wsX4_setEstimate := goodIn_ca (goodIn_ca (goodIn_r _ [7, 8, 9, 10, 11, 6, 12, 13, 14, 15, 16, 17, 18, 19, 20, 21, 22, 23, 24, 25, 26, 27, 28, 29, 30, 31, 32, 33, 34, 35, 36, 37, 38, 39, 40, 41, 42, 43] (by decide +kernel) (by decide +kernel)) (goodIn_sub (fun _ h => List.mem_cons_of_mem _ (List.mem_append_left _ (List.mem_append_right _ h))) (by decide +kernel))) (goodIn_sub (fun _ h => List.mem_cons_of_mem _ (List.mem_append_right _ h)) (by decide +kernel))
set_option maxRecDepth 20000 in
theorem gL_setEstimate_X4_setEstimate : GoodIn wsL_setEstimate (wsV RL 53 RX4 yX4_setEstimate wsX4_setEstimate) := goodIn_app (goodIn_of _ (by decide +kernel)) ggL_setEstimate_X4_setEstimate
theorem dL_setEstimate_0 : decode cL_setEstimate 0 = .ok (.aload_n 3, 1) := by decide +kernel
theorem dL_setEstimate_1 : decode cL_setEstimate 1 = .ok (.iconst 0, 1) := by decide +kernel
theorem dL_setEstimate_2 : decode cL_setEstimate 2 = .ok (.aload_n 0, 1) := by decide +kernel
theorem dL_setEstimate_3 : decode cL_setEstimate 3 = .ok (.iload_n 1, 1) := by decide +kernel
theorem dL_setEstimate_4 : decode cL_setEstimate 4 = .ok (.iload_n 2, 1) := by decide +kernel
theorem dL_setEstimate_5 : decode cL_setEstimate 5 = .ok (.invokevirtual 53, 3) := by decide +kernel
theorem dL_setEstimate_8 : decode cL_setEstimate 8 = .ok (.i2l, 1) := by decide +kernel
theorem dL_setEstimate_9 : decode cL_setEstimate 9 = .ok (.lastore, 1) := by decide +kernel
theorem dL_setEstimate_10 : decode cL_setEstimate 10 = .ok (.goto 11, 3) := by decide +kernel
theorem dL_setEstimate_13 : decode cL_setEstimate 13 = .ok (.astore 4, 2) := by decide +kernel
theorem dL_setEstimate_15 : decode cL_setEstimate 15 = .ok (.iconst 1, 1) := by decide +kernel
theorem dL_setEstimate_16 : decode cL_setEstimate 16 = .ok (.ireturn, 1) := by decide +kernel
theorem dL_setEstimate_17 : decode cL_setEstimate 17 = .ok (.astore 4, 2) := by decide +kernel
theorem dL_setEstimate_19 : decode cL_setEstimate 19 = .ok (.iconst 2, 1) := by decide +kernel
theorem dL_setEstimate_20 : decode cL_setEstimate 20 = .ok (.ireturn, 1) := by decide +kernel
theorem dL_setEstimate_21 : decode cL_setEstimate 21 = .ok (.iconst 0, 1) := by decide +kernel
theorem dL_setEstimate_22 : decode cL_setEstimate 22 = .ok (.ireturn, 1) := by decide +kernel
set_option maxRecDepth 20000 in
theorem ggL_estimate_X4_estimate : GoodIn wsL_estimate wsX4_estimate := goodIn_ca (goodIn_r _ [6, 7, 8, 9, 10, 5, 11, 12, 13, 14, 15, 16, 17, 18, 19, 20, 21, 22, 23, 24, 25, 26, 27, 28, 29, 30, 31, 32] (by decide +kernel) (by decide +kernel)) (goodIn_sub (fun _ h => List.mem_cons_of_mem _ (List.mem_append_right _ h)) (by decide +kernel))
set_option maxRecDepth 20000 in
theorem gL_estimate_X4_estimate : GoodIn wsL_estimate (wsV RL 56 RX4 yX4_estimate wsX4_estimate) := goodIn_app (goodIn_of _ (by decide +kernel)) ggL_estimate_X4_estimate
theorem dL_estimate_0 : decode cL_estimate 0 = .ok (.aload_n 2, 1) := by decide +kernel
theorem dL_estimate_1 : decode cL_estimate 1 = .ok (.iconst 0, 1) := by decide +kernel
theorem dL_estimate_2 : decode cL_estimate 2 = .ok (.aload_n 0, 1) := by decide +kernel
theorem dL_estimate_3 : decode cL_estimate 3 = .ok (.iload_n 1, 1) := by decide +kernel
theorem dL_estimate_4 : decode cL_estimate 4 = .ok (.invokevirtual 56, 3) := by decide +kernel
theorem dL_estimate_7 : decode cL_estimate 7 = .ok (.i2l, 1) := by decide +kernel
theorem dL_estimate_8 : decode cL_estimate 8 = .ok (.lastore, 1) := by decide +kernel
theorem dL_estimate_9 : decode cL_estimate 9 = .ok (.goto 6, 3) := by decide +kernel
theorem dL_estimate_12 : decode cL_estimate 12 = .ok (.astore_n 3, 1) := by decide +kernel
theorem dL_estimate_13 : decode cL_estimate 13 = .ok (.iconst 1, 1) := by decide +kernel
theorem dL_estimate_14 : decode cL_estimate 14 = .ok (.ireturn, 1) := by decide +kernel
theorem dL_estimate_15 : decode cL_estimate 15 = .ok (.iconst 0, 1) := by decide +kernel
theorem dL_estimate_16 : decode cL_estimate 16 = .ok (.ireturn, 1) := by decide +kernel
set_option maxRecDepth 20000 in
theorem ggL_agree_X4_agree : GoodIn wsL_agree wsX4_agree := goodIn_ca (goodIn_r _ [6, 7, 8, 5, 9, 10, 11, 12, 13, 14, 15, 16, 17, 18, 19, 20, 21, 22, 23, 24, 25, 26, 27, 28, 29, 30, 31, 32, 33, 34, 35, 36, 37, 38, 39, 40, 41, 42, 43, 44, 45, 46, 47, 48, 49, 50, 51, 52, 53, 54, 55, 56, 57, 58, 59, 60, 61, 62, 63, 64, 65, 66, 67, 68, 69, 70, 71, 72, 73, 74, 75, 76, 77, 78, 79, 80, 81, 82, 83, 84, 85, 86, 87, 88, 89, 90, 91, 92, 93, 94, 95, 96, 97, 98, 99, 100, 101, 102, 103, 104, 105, 106, 107, 108, 109] (by decide +kernel) (by decide +kernel)) (goodIn_sub (fun _ h => List.mem_cons_of_mem _ (List.mem_append_right _ h)) (by decide +kernel))
set_option maxRecDepth 20000 in
theorem gL_agree_X4_agree : GoodIn wsL_agree (wsV RL 59 RX4 yX4_agree wsX4_agree) := goodIn_app (goodIn_of _ (by decide +kernel)) ggL_agree_X4_agree
theorem dL_agree_0 : decode cL_agree 0 = .ok (.aload_n 2, 1) := by decide +kernel
theorem dL_agree_1 : decode cL_agree 1 = .ok (.iconst 0, 1) := by decide +kernel
theorem dL_agree_2 : decode cL_agree 2 = .ok (.aload_n 0, 1) := by decide +kernel
theorem dL_agree_3 : decode cL_agree 3 = .ok (.iload_n 1, 1) := by decide +kernel
theorem dL_agree_4 : decode cL_agree 4 = .ok (.invokevirtual 59, 3) := by decide +kernel
theorem dL_agree_7 : decode cL_agree 7 = .ok (.i2l, 1) := by decide +kernel
theorem dL_agree_8 : decode cL_agree 8 = .ok (.lastore, 1) := by decide +kernel
theorem dL_agree_9 : decode cL_agree 9 = .ok (.goto 6, 3) := by decide +kernel
theorem dL_agree_12 : decode cL_agree 12 = .ok (.astore_n 3, 1) := by decide +kernel
theorem dL_agree_13 : decode cL_agree 13 = .ok (.iconst 1, 1) := by decide +kernel
theorem dL_agree_14 : decode cL_agree 14 = .ok (.ireturn, 1) := by decide +kernel
theorem dL_agree_15 : decode cL_agree 15 = .ok (.iconst 0, 1) := by decide +kernel
theorem dL_agree_16 : decode cL_agree 16 = .ok (.ireturn, 1) := by decide +kernel
set_option maxRecDepth 20000 in
theorem ggL_setSum_X4_setSum : GoodIn wsL_setSum wsX4_setSum := goodIn_ca (goodIn_ca (goodIn_r _ [7, 8, 9, 10, 11, 6, 12, 13, 14, 15, 16, 17, 18, 19, 20, 21, 22, 23, 24, 25, 26, 27, 28, 29, 30, 31, 32, 33, 34, 35, 36, 37, 38, 39, 40, 41, 42, 43] (by decide +kernel) (by decide +kernel)) (goodIn_sub (fun _ h => List.mem_cons_of_mem _ (List.mem_append_left _ (List.mem_append_right _ h))) (by decide +kernel))) (goodIn_sub (fun _ h => List.mem_cons_of_mem _ (List.mem_append_right _ h)) (by decide +kernel))
set_option maxRecDepth 20000 in
theorem gL_setSum_X4_setSum : GoodIn wsL_setSum (wsV RL 62 RX4 yX4_setSum wsX4_setSum) := goodIn_app (goodIn_of _ (by decide +kernel)) ggL_setSum_X4_setSum
theorem dL_setSum_0 : decode cL_setSum 0 = .ok (.aload_n 3, 1) := by decide +kernel
theorem dL_setSum_1 : decode cL_setSum 1 = .ok (.iconst 0, 1) := by decide +kernel
theorem dL_setSum_2 : decode cL_setSum 2 = .ok (.aload_n 0, 1) := by decide +kernel
theorem dL_setSum_3 : decode cL_setSum 3 = .ok (.iload_n 1, 1) := by decide +kernel
theorem dL_setSum_4 : decode cL_setSum 4 = .ok (.iload_n 2, 1) := by decide +kernel
theorem dL_setSum_5 : decode cL_setSum 5 = .ok (.invokevirtual 62, 3) := by decide +kernel
theorem dL_setSum_8 : decode cL_setSum 8 = .ok (.i2l, 1) := by decide +kernel
theorem dL_setSum_9 : decode cL_setSum 9 = .ok (.lastore, 1) := by decide +kernel
theorem dL_setSum_10 : decode cL_setSum 10 = .ok (.goto 11, 3) := by decide +kernel
theorem dL_setSum_13 : decode cL_setSum 13 = .ok (.astore 4, 2) := by decide +kernel
theorem dL_setSum_15 : decode cL_setSum 15 = .ok (.iconst 1, 1) := by decide +kernel
theorem dL_setSum_16 : decode cL_setSum 16 = .ok (.ireturn, 1) := by decide +kernel
theorem dL_setSum_17 : decode cL_setSum 17 = .ok (.astore 4, 2) := by decide +kernel
theorem dL_setSum_19 : decode cL_setSum 19 = .ok (.iconst 2, 1) := by decide +kernel
theorem dL_setSum_20 : decode cL_setSum 20 = .ok (.ireturn, 1) := by decide +kernel
theorem dL_setSum_21 : decode cL_setSum 21 = .ok (.iconst 0, 1) := by decide +kernel
theorem dL_setSum_22 : decode cL_setSum 22 = .ok (.ireturn, 1) := by decide +kernel
set_option maxRecDepth 20000 in
theorem ggL_sum_X4_sum : GoodIn wsL_sum wsX4_sum := goodIn_ca (goodIn_r _ [6, 7, 8, 9, 10, 5, 11, 12, 13, 14, 15, 16, 17, 18, 19, 20, 21, 22, 23, 24, 25, 26, 27, 28, 29, 30, 31, 32] (by decide +kernel) (by decide +kernel)) (goodIn_sub (fun _ h => List.mem_cons_of_mem _ (List.mem_append_right _ h)) (by decide +kernel))
set_option maxRecDepth 20000 in
theorem gL_sum_X4_sum : GoodIn wsL_sum (wsV RL 65 RX4 yX4_sum wsX4_sum) := goodIn_app (goodIn_of _ (by decide +kernel)) ggL_sum_X4_sum
theorem dL_sum_0 : decode cL_sum 0 = .ok (.aload_n 2, 1) := by decide +kernel
theorem dL_sum_1 : decode cL_sum 1 = .ok (.iconst 0, 1) := by decide +kernel
theorem dL_sum_2 : decode cL_sum 2 = .ok (.aload_n 0, 1) := by decide +kernel
theorem dL_sum_3 : decode cL_sum 3 = .ok (.iload_n 1, 1) := by decide +kernel
theorem dL_sum_4 : decode cL_sum 4 = .ok (.invokevirtual 65, 3) := by decide +kernel
theorem dL_sum_7 : decode cL_sum 7 = .ok (.i2l, 1) := by decide +kernel
theorem dL_sum_8 : decode cL_sum 8 = .ok (.lastore, 1) := by decide +kernel
theorem dL_sum_9 : decode cL_sum 9 = .ok (.goto 6, 3) := by decide +kernel
theorem dL_sum_12 : decode cL_sum 12 = .ok (.astore_n 3, 1) := by decide +kernel
theorem dL_sum_13 : decode cL_sum 13 = .ok (.iconst 1, 1) := by decide +kernel
theorem dL_sum_14 : decode cL_sum 14 = .ok (.ireturn, 1) := by decide +kernel
theorem dL_sum_15 : decode cL_sum 15 = .ok (.iconst 0, 1) := by decide +kernel
theorem dL_sum_16 : decode cL_sum 16 = .ok (.ireturn, 1) := by decide +kernel
set_option maxRecDepth 20000 in
theorem ggL_weight_X4_weight : GoodIn wsL_weight wsX4_weight := goodIn_ca (goodIn_r _ [6, 7, 8, 9, 10, 5, 11, 12, 13, 14, 15, 16, 17, 18, 19, 20, 21, 22, 23, 24, 25, 26, 27, 28, 29, 30, 31, 32] (by decide +kernel) (by decide +kernel)) (goodIn_sub (fun _ h => List.mem_cons_of_mem _ (List.mem_append_right _ h)) (by decide +kernel))
set_option maxRecDepth 20000 in
theorem gL_weight_X4_weight : GoodIn wsL_weight (wsV RL 68 RX4 yX4_weight wsX4_weight) := goodIn_app (goodIn_of _ (by decide +kernel)) ggL_weight_X4_weight
theorem dL_weight_0 : decode cL_weight 0 = .ok (.aload_n 2, 1) := by decide +kernel
theorem dL_weight_1 : decode cL_weight 1 = .ok (.iconst 0, 1) := by decide +kernel
theorem dL_weight_2 : decode cL_weight 2 = .ok (.aload_n 0, 1) := by decide +kernel
theorem dL_weight_3 : decode cL_weight 3 = .ok (.iload_n 1, 1) := by decide +kernel
theorem dL_weight_4 : decode cL_weight 4 = .ok (.invokevirtual 68, 3) := by decide +kernel
theorem dL_weight_7 : decode cL_weight 7 = .ok (.i2l, 1) := by decide +kernel
theorem dL_weight_8 : decode cL_weight 8 = .ok (.lastore, 1) := by decide +kernel
theorem dL_weight_9 : decode cL_weight 9 = .ok (.goto 6, 3) := by decide +kernel
theorem dL_weight_12 : decode cL_weight 12 = .ok (.astore_n 3, 1) := by decide +kernel
theorem dL_weight_13 : decode cL_weight 13 = .ok (.iconst 1, 1) := by decide +kernel
theorem dL_weight_14 : decode cL_weight 14 = .ok (.ireturn, 1) := by decide +kernel
theorem dL_weight_15 : decode cL_weight 15 = .ok (.iconst 0, 1) := by decide +kernel
theorem dL_weight_16 : decode cL_weight 16 = .ok (.ireturn, 1) := by decide +kernel
set_option maxRecDepth 20000 in
theorem ggL_spread_X4_spread : GoodIn wsL_spread wsX4_spread := goodIn_ca (goodIn_r _ [6, 7, 8, 5, 9, 10, 11, 12, 13, 14, 15, 16, 17, 18, 19, 20, 21, 22, 23, 24, 25, 26, 27, 28, 29, 30, 31, 32, 33, 34, 35, 36, 37, 38, 39, 40, 41, 42, 43, 44, 45, 46, 47, 48, 49, 50, 51, 52, 53, 54, 55, 56, 57, 58, 59, 60, 61, 62, 63, 64, 65, 66, 67, 68, 69, 70, 71, 72, 73, 74, 75, 76, 77, 78, 79, 80, 81, 82, 83, 84, 85, 86, 87, 88, 89, 90, 91, 92, 93, 94] (by decide +kernel) (by decide +kernel)) (goodIn_sub (fun _ h => List.mem_cons_of_mem _ (List.mem_append_right _ h)) (by decide +kernel))
set_option maxRecDepth 20000 in
theorem gL_spread_X4_spread : GoodIn wsL_spread (wsV RL 71 RX4 yX4_spread wsX4_spread) := goodIn_app (goodIn_of _ (by decide +kernel)) ggL_spread_X4_spread
theorem dL_spread_0 : decode cL_spread 0 = .ok (.aload_n 2, 1) := by decide +kernel
theorem dL_spread_1 : decode cL_spread 1 = .ok (.iconst 0, 1) := by decide +kernel
theorem dL_spread_2 : decode cL_spread 2 = .ok (.aload_n 0, 1) := by decide +kernel
theorem dL_spread_3 : decode cL_spread 3 = .ok (.iload_n 1, 1) := by decide +kernel
theorem dL_spread_4 : decode cL_spread 4 = .ok (.invokevirtual 71, 3) := by decide +kernel
theorem dL_spread_7 : decode cL_spread 7 = .ok (.i2l, 1) := by decide +kernel
theorem dL_spread_8 : decode cL_spread 8 = .ok (.lastore, 1) := by decide +kernel
theorem dL_spread_9 : decode cL_spread 9 = .ok (.goto 6, 3) := by decide +kernel
theorem dL_spread_12 : decode cL_spread 12 = .ok (.astore_n 3, 1) := by decide +kernel
theorem dL_spread_13 : decode cL_spread 13 = .ok (.iconst 1, 1) := by decide +kernel
theorem dL_spread_14 : decode cL_spread 14 = .ok (.ireturn, 1) := by decide +kernel
theorem dL_spread_15 : decode cL_spread 15 = .ok (.iconst 0, 1) := by decide +kernel
theorem dL_spread_16 : decode cL_spread 16 = .ok (.ireturn, 1) := by decide +kernel
set_option maxRecDepth 20000 in
theorem ggL_want_X4_want : GoodIn wsL_want wsX4_want := goodIn_ca (goodIn_ca (goodIn_r _ [7, 8, 9, 10, 11, 12, 6, 13, 14, 15, 16, 17, 18, 19, 20, 21, 22, 23, 24, 25, 26, 27, 28, 29, 30, 31, 32, 33, 34, 35, 36, 37, 38, 39, 40, 41, 42, 43] (by decide +kernel) (by decide +kernel)) (goodIn_sub (fun _ h => List.mem_cons_of_mem _ (List.mem_append_left _ (List.mem_append_right _ h))) (by decide +kernel))) (goodIn_sub (fun _ h => List.mem_cons_of_mem _ (List.mem_append_right _ h)) (by decide +kernel))
set_option maxRecDepth 20000 in
theorem gL_want_X4_want : GoodIn wsL_want (wsV RL 74 RX4 yX4_want wsX4_want) := goodIn_app (goodIn_of _ (by decide +kernel)) ggL_want_X4_want
theorem dL_want_0 : decode cL_want 0 = .ok (.aload 4, 2) := by decide +kernel
theorem dL_want_2 : decode cL_want 2 = .ok (.iconst 0, 1) := by decide +kernel
theorem dL_want_3 : decode cL_want 3 = .ok (.aload_n 0, 1) := by decide +kernel
theorem dL_want_4 : decode cL_want 4 = .ok (.iload_n 1, 1) := by decide +kernel
theorem dL_want_5 : decode cL_want 5 = .ok (.iload_n 2, 1) := by decide +kernel
theorem dL_want_6 : decode cL_want 6 = .ok (.iload_n 3, 1) := by decide +kernel
theorem dL_want_7 : decode cL_want 7 = .ok (.invokevirtual 74, 3) := by decide +kernel
theorem dL_want_10 : decode cL_want 10 = .ok (.i2l, 1) := by decide +kernel
theorem dL_want_11 : decode cL_want 11 = .ok (.lastore, 1) := by decide +kernel
theorem dL_want_12 : decode cL_want 12 = .ok (.goto 11, 3) := by decide +kernel
theorem dL_want_15 : decode cL_want 15 = .ok (.astore 5, 2) := by decide +kernel
theorem dL_want_17 : decode cL_want 17 = .ok (.iconst 1, 1) := by decide +kernel
theorem dL_want_18 : decode cL_want 18 = .ok (.ireturn, 1) := by decide +kernel
theorem dL_want_19 : decode cL_want 19 = .ok (.astore 5, 2) := by decide +kernel
theorem dL_want_21 : decode cL_want 21 = .ok (.iconst 2, 1) := by decide +kernel
theorem dL_want_22 : decode cL_want 22 = .ok (.ireturn, 1) := by decide +kernel
theorem dL_want_23 : decode cL_want 23 = .ok (.iconst 0, 1) := by decide +kernel
theorem dL_want_24 : decode cL_want 24 = .ok (.ireturn, 1) := by decide +kernel
set_option maxRecDepth 20000 in
theorem ggL_settle_X4_settle : GoodIn wsL_settle wsX4_settle := goodIn_ca (goodIn_r _ [6, 7, 8, 5, 9, 10, 11, 12, 13, 14, 15, 16, 17, 18, 19, 20, 21, 22, 23, 24, 25, 26, 27, 28, 29, 30, 31, 32, 33, 34, 35, 36, 37, 38, 39, 40, 41, 42, 43, 44, 45, 46, 47, 48, 49, 50, 51, 52, 53, 54, 55, 56, 57, 58, 59, 60, 61, 62, 63, 64, 65, 66, 67, 68, 69, 70, 71, 72, 73, 74, 75, 76, 77, 78, 79, 80, 81, 82, 83, 84, 85, 86, 87, 88, 89, 90, 91, 92, 93, 94, 95, 96, 97, 98, 99, 100, 101, 102, 103, 104, 105, 106, 107, 108, 109, 110, 111, 112, 113, 114] (by decide +kernel) (by decide +kernel)) (goodIn_sub (fun _ h => List.mem_cons_of_mem _ (List.mem_append_right _ h)) (by decide +kernel))
set_option maxRecDepth 20000 in
theorem gL_settle_X4_settle : GoodIn wsL_settle (wsV RL 78 RX4 yX4_settle wsX4_settle) := goodIn_app (goodIn_of _ (by decide +kernel)) ggL_settle_X4_settle
theorem dL_settle_0 : decode cL_settle 0 = .ok (.aload_n 2, 1) := by decide +kernel
theorem dL_settle_1 : decode cL_settle 1 = .ok (.iconst 0, 1) := by decide +kernel
theorem dL_settle_2 : decode cL_settle 2 = .ok (.aload_n 0, 1) := by decide +kernel
theorem dL_settle_3 : decode cL_settle 3 = .ok (.iload_n 1, 1) := by decide +kernel
theorem dL_settle_4 : decode cL_settle 4 = .ok (.invokevirtual 78, 3) := by decide +kernel
theorem dL_settle_7 : decode cL_settle 7 = .ok (.i2l, 1) := by decide +kernel
theorem dL_settle_8 : decode cL_settle 8 = .ok (.lastore, 1) := by decide +kernel
theorem dL_settle_9 : decode cL_settle 9 = .ok (.goto 6, 3) := by decide +kernel
theorem dL_settle_12 : decode cL_settle 12 = .ok (.astore_n 3, 1) := by decide +kernel
theorem dL_settle_13 : decode cL_settle 13 = .ok (.iconst 1, 1) := by decide +kernel
theorem dL_settle_14 : decode cL_settle 14 = .ok (.ireturn, 1) := by decide +kernel
theorem dL_settle_15 : decode cL_settle 15 = .ok (.iconst 0, 1) := by decide +kernel
theorem dL_settle_16 : decode cL_settle 16 = .ok (.ireturn, 1) := by decide +kernel
set_option maxRecDepth 20000 in
theorem ggL_isSpare_X4_isSpare : GoodIn wsL_isSpare wsX4_isSpare := goodIn_ca (goodIn_ca (goodIn_r _ [7, 8, 9, 10, 11, 12, 13, 14, 6, 15, 16, 17, 18, 19, 20, 21, 22, 23, 24, 25, 26, 27, 28, 29, 30, 31, 32, 33, 34, 35, 36, 37, 38, 39, 40, 41, 42, 43, 44, 45, 46, 47, 48, 49, 50, 51, 52, 53, 54, 55, 56, 57, 58, 59, 60, 61, 62, 63, 64, 65, 66, 67, 68, 69, 70, 71, 72, 73, 74, 75, 76, 77, 78, 79, 80, 81, 82, 83, 84, 85, 86, 87, 88, 89, 90, 91, 92, 93, 94, 95, 96, 97, 98, 99, 100, 101, 102, 103, 104, 105, 106, 107, 108, 109, 110, 111, 112, 113, 114, 115, 116] (by decide +kernel) (by decide +kernel)) (goodIn_sub (fun _ h => List.mem_cons_of_mem _ (List.mem_append_left _ (List.mem_append_right _ h))) (by decide +kernel))) (goodIn_sub (fun _ h => List.mem_cons_of_mem _ (List.mem_append_right _ h)) (by decide +kernel))
set_option maxRecDepth 20000 in
theorem gL_isSpare_X4_isSpare : GoodIn wsL_isSpare (wsV RL 81 RX4 yX4_isSpare wsX4_isSpare) := goodIn_app (goodIn_of _ (by decide +kernel)) ggL_isSpare_X4_isSpare
theorem dL_isSpare_0 : decode cL_isSpare 0 = .ok (.aload_n 3, 1) := by decide +kernel
theorem dL_isSpare_1 : decode cL_isSpare 1 = .ok (.iconst 0, 1) := by decide +kernel
theorem dL_isSpare_2 : decode cL_isSpare 2 = .ok (.aload_n 0, 1) := by decide +kernel
theorem dL_isSpare_3 : decode cL_isSpare 3 = .ok (.iload_n 1, 1) := by decide +kernel
theorem dL_isSpare_4 : decode cL_isSpare 4 = .ok (.iload_n 2, 1) := by decide +kernel
theorem dL_isSpare_5 : decode cL_isSpare 5 = .ok (.invokevirtual 81, 3) := by decide +kernel
theorem dL_isSpare_8 : decode cL_isSpare 8 = .ok (.ifCond .eq 7, 3) := by decide +kernel
theorem dL_isSpare_11 : decode cL_isSpare 11 = .ok (.lconst 1, 1) := by decide +kernel
theorem dL_isSpare_12 : decode cL_isSpare 12 = .ok (.goto 4, 3) := by decide +kernel
theorem dL_isSpare_15 : decode cL_isSpare 15 = .ok (.lconst 0, 1) := by decide +kernel
theorem dL_isSpare_16 : decode cL_isSpare 16 = .ok (.lastore, 1) := by decide +kernel
