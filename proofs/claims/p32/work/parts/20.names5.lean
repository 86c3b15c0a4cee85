theorem dL_from_0 : decode cL_from 0 = .ok (.aload_n 0, 1) := by decide +kernel
theorem dL_from_1 : decode cL_from 1 = .ok (.arraylength, 1) := by decide +kernel
theorem dL_from_2 : decode cL_from 2 = .ok (.ifCond .ne 13, 3) := by decide +kernel
theorem dL_from_5 : decode cL_from 5 = .ok (.bipush 97, 2) := by decide +kernel
theorem dL_from_7 : decode cL_from 7 = .ok (.iload_n 1, 1) := by decide +kernel
theorem dL_from_8 : decode cL_from 8 = .ok (.imul, 1) := by decide +kernel
theorem dL_from_9 : decode cL_from 9 = .ok (.bipush 71, 2) := by decide +kernel
theorem dL_from_11 : decode cL_from 11 = .ok (.iadd, 1) := by decide +kernel
theorem dL_from_12 : decode cL_from 12 = .ok (.goto 14, 3) := by decide +kernel
theorem dL_from_15 : decode cL_from 15 = .ok (.aload_n 0, 1) := by decide +kernel
theorem dL_from_16 : decode cL_from 16 = .ok (.iload_n 1, 1) := by decide +kernel
theorem dL_from_17 : decode cL_from 17 = .ok (.aload_n 0, 1) := by decide +kernel
theorem dL_from_18 : decode cL_from 18 = .ok (.arraylength, 1) := by decide +kernel
theorem dL_from_19 : decode cL_from 19 = .ok (.irem, 1) := by decide +kernel
theorem dL_from_20 : decode cL_from 20 = .ok (.iaload, 1) := by decide +kernel
theorem dL_from_21 : decode cL_from 21 = .ok (.ldc 7, 2) := by decide +kernel
theorem dL_from_23 : decode cL_from 23 = .ok (.iload_n 1, 1) := by decide +kernel
theorem dL_from_24 : decode cL_from 24 = .ok (.imul, 1) := by decide +kernel
theorem dL_from_25 : decode cL_from 25 = .ok (.ixor, 1) := by decide +kernel
theorem dL_from_26 : decode cL_from 26 = .ok (.istore_n 3, 1) := by decide +kernel
theorem dL_from_27 : decode cL_from 27 = .ok (.iload_n 3, 1) := by decide +kernel
theorem dL_from_28 : decode cL_from 28 = .ok (.ldc 8, 2) := by decide +kernel
theorem dL_from_30 : decode cL_from 30 = .ok (.iand, 1) := by decide +kernel
theorem dL_from_31 : decode cL_from 31 = .ok (.iload_n 2, 1) := by decide +kernel
theorem dL_from_32 : decode cL_from 32 = .ok (.irem, 1) := by decide +kernel
theorem dL_from_33 : decode cL_from 33 = .ok (.ireturn, 1) := by decide +kernel
theorem dL_pair_0 : decode cL_pair 0 = .ok (.iload_n 0, 1) := by decide +kernel
theorem dL_pair_1 : decode cL_pair 1 = .ok (.iload_n 1, 1) := by decide +kernel
theorem dL_pair_2 : decode cL_pair 2 = .ok (.if_icmp .ge 11, 3) := by decide +kernel
theorem dL_pair_5 : decode cL_pair 5 = .ok (.iconst 5, 1) := by decide +kernel
theorem dL_pair_6 : decode cL_pair 6 = .ok (.iload_n 0, 1) := by decide +kernel
theorem dL_pair_7 : decode cL_pair 7 = .ok (.imul, 1) := by decide +kernel
theorem dL_pair_8 : decode cL_pair 8 = .ok (.iload_n 1, 1) := by decide +kernel
theorem dL_pair_9 : decode cL_pair 9 = .ok (.iadd, 1) := by decide +kernel
theorem dL_pair_10 : decode cL_pair 10 = .ok (.goto 8, 3) := by decide +kernel
theorem dL_pair_13 : decode cL_pair 13 = .ok (.iconst 5, 1) := by decide +kernel
theorem dL_pair_14 : decode cL_pair 14 = .ok (.iload_n 1, 1) := by decide +kernel
theorem dL_pair_15 : decode cL_pair 15 = .ok (.imul, 1) := by decide +kernel
theorem dL_pair_16 : decode cL_pair 16 = .ok (.iload_n 0, 1) := by decide +kernel
theorem dL_pair_17 : decode cL_pair 17 = .ok (.iadd, 1) := by decide +kernel
theorem dL_pair_18 : decode cL_pair 18 = .ok (.ireturn, 1) := by decide +kernel
theorem dL_square_0 : decode cL_square 0 = .ok (.aload_n 0, 1) := by decide +kernel
theorem dL_square_1 : decode cL_square 1 = .ok (.bipush 8, 2) := by decide +kernel
theorem dL_square_3 : decode cL_square 3 = .ok (.iload_n 1, 1) := by decide +kernel
theorem dL_square_4 : decode cL_square 4 = .ok (.imul, 1) := by decide +kernel
theorem dL_square_5 : decode cL_square 5 = .ok (.iaload, 1) := by decide +kernel
theorem dL_square_6 : decode cL_square 6 = .ok (.aload_n 0, 1) := by decide +kernel
theorem dL_square_7 : decode cL_square 7 = .ok (.bipush 8, 2) := by decide +kernel
theorem dL_square_9 : decode cL_square 9 = .ok (.iload_n 2, 1) := by decide +kernel
theorem dL_square_10 : decode cL_square 10 = .ok (.imul, 1) := by decide +kernel
theorem dL_square_11 : decode cL_square 11 = .ok (.iaload, 1) := by decide +kernel
theorem dL_square_12 : decode cL_square 12 = .ok (.isub, 1) := by decide +kernel
theorem dL_square_13 : decode cL_square 13 = .ok (.istore_n 3, 1) := by decide +kernel
theorem dL_square_14 : decode cL_square 14 = .ok (.aload_n 0, 1) := by decide +kernel
theorem dL_square_15 : decode cL_square 15 = .ok (.bipush 8, 2) := by decide +kernel
theorem dL_square_17 : decode cL_square 17 = .ok (.iload_n 1, 1) := by decide +kernel
theorem dL_square_18 : decode cL_square 18 = .ok (.imul, 1) := by decide +kernel
theorem dL_square_19 : decode cL_square 19 = .ok (.iconst 1, 1) := by decide +kernel
theorem dL_square_20 : decode cL_square 20 = .ok (.iadd, 1) := by decide +kernel
theorem dL_square_21 : decode cL_square 21 = .ok (.iaload, 1) := by decide +kernel
theorem dL_square_22 : decode cL_square 22 = .ok (.aload_n 0, 1) := by decide +kernel
theorem dL_square_23 : decode cL_square 23 = .ok (.bipush 8, 2) := by decide +kernel
theorem dL_square_25 : decode cL_square 25 = .ok (.iload_n 2, 1) := by decide +kernel
theorem dL_square_26 : decode cL_square 26 = .ok (.imul, 1) := by decide +kernel
theorem dL_square_27 : decode cL_square 27 = .ok (.iconst 1, 1) := by decide +kernel
theorem dL_square_28 : decode cL_square 28 = .ok (.iadd, 1) := by decide +kernel
theorem dL_square_29 : decode cL_square 29 = .ok (.iaload, 1) := by decide +kernel
theorem dL_square_30 : decode cL_square 30 = .ok (.isub, 1) := by decide +kernel
theorem dL_square_31 : decode cL_square 31 = .ok (.istore 4, 2) := by decide +kernel
theorem dL_square_33 : decode cL_square 33 = .ok (.iload_n 3, 1) := by decide +kernel
theorem dL_square_34 : decode cL_square 34 = .ok (.iload_n 3, 1) := by decide +kernel
theorem dL_square_35 : decode cL_square 35 = .ok (.imul, 1) := by decide +kernel
theorem dL_square_36 : decode cL_square 36 = .ok (.iload 4, 2) := by decide +kernel
theorem dL_square_38 : decode cL_square 38 = .ok (.iload 4, 2) := by decide +kernel
theorem dL_square_40 : decode cL_square 40 = .ok (.imul, 1) := by decide +kernel
theorem dL_square_41 : decode cL_square 41 = .ok (.iadd, 1) := by decide +kernel
theorem dL_square_42 : decode cL_square 42 = .ok (.ireturn, 1) := by decide +kernel
set_option maxRecDepth 20000 in
theorem ggL_heard_L_pair : GoodIn wsL_heard wsL_pair := goodIn_r _ [4] (by decide +kernel) (by decide +kernel)
set_option maxRecDepth 20000 in
theorem gL_heard_L_pair : GoodIn wsL_heard (va_wsS RL 9 yL_pair wsL_pair) := goodIn_app (goodIn_of _ (by decide +kernel)) ggL_heard_L_pair
set_option maxRecDepth 20000 in
theorem ggL_heard_L_square : GoodIn wsL_heard wsL_square := goodIn_r _ [7] (by decide +kernel) (by decide +kernel)
set_option maxRecDepth 20000 in
theorem gL_heard_L_square : GoodIn wsL_heard (va_wsS RL 15 yL_square wsL_square) := goodIn_app (goodIn_of _ (by decide +kernel)) ggL_heard_L_square
theorem dL_heard_0 : decode cL_heard 0 = .ok (.iconst 0, 1) := by decide +kernel
theorem dL_heard_1 : decode cL_heard 1 = .ok (.istore_n 3, 1) := by decide +kernel
theorem dL_heard_2 : decode cL_heard 2 = .ok (.iconst 0, 1) := by decide +kernel
theorem dL_heard_3 : decode cL_heard 3 = .ok (.istore 4, 2) := by decide +kernel
theorem dL_heard_5 : decode cL_heard 5 = .ok (.iload 4, 2) := by decide +kernel
theorem dL_heard_7 : decode cL_heard 7 = .ok (.aload_n 0, 1) := by decide +kernel
theorem dL_heard_8 : decode cL_heard 8 = .ok (.bipush 40, 2) := by decide +kernel
theorem dL_heard_10 : decode cL_heard 10 = .ok (.iaload, 1) := by decide +kernel
theorem dL_heard_11 : decode cL_heard 11 = .ok (.if_icmp .ge 89, 3) := by decide +kernel
theorem dL_heard_14 : decode cL_heard 14 = .ok (.iload 4, 2) := by decide +kernel
theorem dL_heard_16 : decode cL_heard 16 = .ok (.iload_n 2, 1) := by decide +kernel
theorem dL_heard_17 : decode cL_heard 17 = .ok (.if_icmp .eq 58, 3) := by decide +kernel
theorem dL_heard_20 : decode cL_heard 20 = .ok (.aload_n 0, 1) := by decide +kernel
theorem dL_heard_21 : decode cL_heard 21 = .ok (.bipush 8, 2) := by decide +kernel
theorem dL_heard_23 : decode cL_heard 23 = .ok (.iload 4, 2) := by decide +kernel
theorem dL_heard_25 : decode cL_heard 25 = .ok (.imul, 1) := by decide +kernel
theorem dL_heard_26 : decode cL_heard 26 = .ok (.iconst 2, 1) := by decide +kernel
theorem dL_heard_27 : decode cL_heard 27 = .ok (.iadd, 1) := by decide +kernel
theorem dL_heard_28 : decode cL_heard 28 = .ok (.iaload, 1) := by decide +kernel
theorem dL_heard_29 : decode cL_heard 29 = .ok (.aload_n 0, 1) := by decide +kernel
theorem dL_heard_30 : decode cL_heard 30 = .ok (.bipush 8, 2) := by decide +kernel
theorem dL_heard_32 : decode cL_heard 32 = .ok (.iload_n 2, 1) := by decide +kernel
theorem dL_heard_33 : decode cL_heard 33 = .ok (.imul, 1) := by decide +kernel
theorem dL_heard_34 : decode cL_heard 34 = .ok (.iconst 2, 1) := by decide +kernel
theorem dL_heard_35 : decode cL_heard 35 = .ok (.iadd, 1) := by decide +kernel
theorem dL_heard_36 : decode cL_heard 36 = .ok (.iaload, 1) := by decide +kernel
theorem dL_heard_37 : decode cL_heard 37 = .ok (.iadd, 1) := by decide +kernel
theorem dL_heard_38 : decode cL_heard 38 = .ok (.ifCond .ne 37, 3) := by decide +kernel
theorem dL_heard_41 : decode cL_heard 41 = .ok (.aload_n 1, 1) := by decide +kernel
theorem dL_heard_42 : decode cL_heard 42 = .ok (.iload 4, 2) := by decide +kernel
theorem dL_heard_44 : decode cL_heard 44 = .ok (.iload_n 2, 1) := by decide +kernel
theorem dL_heard_45 : decode cL_heard 45 = .ok (.invokestatic 9, 3) := by decide +kernel
theorem dL_heard_48 : decode cL_heard 48 = .ok (.iaload, 1) := by decide +kernel
theorem dL_heard_49 : decode cL_heard 49 = .ok (.ifCond .ne 26, 3) := by decide +kernel
theorem dL_heard_52 : decode cL_heard 52 = .ok (.aload_n 0, 1) := by decide +kernel
theorem dL_heard_53 : decode cL_heard 53 = .ok (.iload 4, 2) := by decide +kernel
theorem dL_heard_55 : decode cL_heard 55 = .ok (.iload_n 2, 1) := by decide +kernel
theorem dL_heard_56 : decode cL_heard 56 = .ok (.invokestatic 15, 3) := by decide +kernel
theorem dL_heard_59 : decode cL_heard 59 = .ok (.aload_n 0, 1) := by decide +kernel
theorem dL_heard_60 : decode cL_heard 60 = .ok (.bipush 41, 2) := by decide +kernel
theorem dL_heard_62 : decode cL_heard 62 = .ok (.iaload, 1) := by decide +kernel
theorem dL_heard_63 : decode cL_heard 63 = .ok (.aload_n 0, 1) := by decide +kernel
theorem dL_heard_64 : decode cL_heard 64 = .ok (.bipush 41, 2) := by decide +kernel
theorem dL_heard_66 : decode cL_heard 66 = .ok (.iaload, 1) := by decide +kernel
theorem dL_heard_67 : decode cL_heard 67 = .ok (.imul, 1) := by decide +kernel
theorem dL_heard_68 : decode cL_heard 68 = .ok (.if_icmp .gt 7, 3) := by decide +kernel
theorem dL_heard_71 : decode cL_heard 71 = .ok (.iconst 1, 1) := by decide +kernel
theorem dL_heard_72 : decode cL_heard 72 = .ok (.goto 4, 3) := by decide +kernel
theorem dL_heard_75 : decode cL_heard 75 = .ok (.iconst 0, 1) := by decide +kernel
theorem dL_heard_76 : decode cL_heard 76 = .ok (.istore 5, 2) := by decide +kernel
theorem dL_heard_78 : decode cL_heard 78 = .ok (.iload_n 3, 1) := by decide +kernel
theorem dL_heard_79 : decode cL_heard 79 = .ok (.iload 5, 2) := by decide +kernel
theorem dL_heard_81 : decode cL_heard 81 = .ok (.ifCond .eq 10, 3) := by decide +kernel
theorem dL_heard_84 : decode cL_heard 84 = .ok (.iconst 1, 1) := by decide +kernel
theorem dL_heard_85 : decode cL_heard 85 = .ok (.iload 4, 2) := by decide +kernel
theorem dL_heard_87 : decode cL_heard 87 = .ok (.ishl, 1) := by decide +kernel
theorem dL_heard_88 : decode cL_heard 88 = .ok (.goto 4, 3) := by decide +kernel
theorem dL_heard_91 : decode cL_heard 91 = .ok (.iconst 0, 1) := by decide +kernel
theorem dL_heard_92 : decode cL_heard 92 = .ok (.ior, 1) := by decide +kernel
theorem dL_heard_93 : decode cL_heard 93 = .ok (.istore_n 3, 1) := by decide +kernel
theorem dL_heard_94 : decode cL_heard 94 = .ok (.iinc 4 1, 3) := by decide +kernel
theorem dL_heard_97 : decode cL_heard 97 = .ok (.goto (-92), 3) := by decide +kernel
theorem dL_heard_100 : decode cL_heard 100 = .ok (.iload_n 3, 1) := by decide +kernel
theorem dL_heard_101 : decode cL_heard 101 = .ok (.ireturn, 1) := by decide +kernel
theorem dL_ones_0 : decode cL_ones 0 = .ok (.iconst 0, 1) := by decide +kernel
theorem dL_ones_1 : decode cL_ones 1 = .ok (.istore_n 1, 1) := by decide +kernel
theorem dL_ones_2 : decode cL_ones 2 = .ok (.iload_n 0, 1) := by decide +kernel
theorem dL_ones_3 : decode cL_ones 3 = .ok (.istore_n 2, 1) := by decide +kernel
theorem dL_ones_4 : decode cL_ones 4 = .ok (.iload_n 2, 1) := by decide +kernel
theorem dL_ones_5 : decode cL_ones 5 = .ok (.ifCond .eq 15, 3) := by decide +kernel
theorem dL_ones_8 : decode cL_ones 8 = .ok (.iinc 1 1, 3) := by decide +kernel
theorem dL_ones_11 : decode cL_ones 11 = .ok (.iload_n 2, 1) := by decide +kernel
theorem dL_ones_12 : decode cL_ones 12 = .ok (.iload_n 2, 1) := by decide +kernel
theorem dL_ones_13 : decode cL_ones 13 = .ok (.iconst 1, 1) := by decide +kernel
theorem dL_ones_14 : decode cL_ones 14 = .ok (.isub, 1) := by decide +kernel
theorem dL_ones_15 : decode cL_ones 15 = .ok (.iand, 1) := by decide +kernel
theorem dL_ones_16 : decode cL_ones 16 = .ok (.istore_n 2, 1) := by decide +kernel
theorem dL_ones_17 : decode cL_ones 17 = .ok (.goto (-13), 3) := by decide +kernel
theorem dL_ones_20 : decode cL_ones 20 = .ok (.iload_n 1, 1) := by decide +kernel
theorem dL_ones_21 : decode cL_ones 21 = .ok (.ireturn, 1) := by decide +kernel
theorem dL_up_0 : decode cL_up 0 = .ok (.iconst 0, 1) := by decide +kernel
theorem dL_up_1 : decode cL_up 1 = .ok (.istore_n 1, 1) := by decide +kernel
theorem dL_up_2 : decode cL_up 2 = .ok (.iconst 0, 1) := by decide +kernel
theorem dL_up_3 : decode cL_up 3 = .ok (.istore_n 2, 1) := by decide +kernel
theorem dL_up_4 : decode cL_up 4 = .ok (.iload_n 2, 1) := by decide +kernel
theorem dL_up_5 : decode cL_up 5 = .ok (.aload_n 0, 1) := by decide +kernel
theorem dL_up_6 : decode cL_up 6 = .ok (.bipush 40, 2) := by decide +kernel
theorem dL_up_8 : decode cL_up 8 = .ok (.iaload, 1) := by decide +kernel
theorem dL_up_9 : decode cL_up 9 = .ok (.if_icmp .ge 30, 3) := by decide +kernel
theorem dL_up_12 : decode cL_up 12 = .ok (.iload_n 1, 1) := by decide +kernel
theorem dL_up_13 : decode cL_up 13 = .ok (.aload_n 0, 1) := by decide +kernel
theorem dL_up_14 : decode cL_up 14 = .ok (.bipush 8, 2) := by decide +kernel
theorem dL_up_16 : decode cL_up 16 = .ok (.iload_n 2, 1) := by decide +kernel
theorem dL_up_17 : decode cL_up 17 = .ok (.imul, 1) := by decide +kernel
theorem dL_up_18 : decode cL_up 18 = .ok (.iconst 2, 1) := by decide +kernel
theorem dL_up_19 : decode cL_up 19 = .ok (.iadd, 1) := by decide +kernel
theorem dL_up_20 : decode cL_up 20 = .ok (.iaload, 1) := by decide +kernel
theorem dL_up_21 : decode cL_up 21 = .ok (.ifCond .ne 9, 3) := by decide +kernel
theorem dL_up_24 : decode cL_up 24 = .ok (.iconst 1, 1) := by decide +kernel
theorem dL_up_25 : decode cL_up 25 = .ok (.iload_n 2, 1) := by decide +kernel
theorem dL_up_26 : decode cL_up 26 = .ok (.ishl, 1) := by decide +kernel
theorem dL_up_27 : decode cL_up 27 = .ok (.goto 4, 3) := by decide +kernel
theorem dL_up_30 : decode cL_up 30 = .ok (.iconst 0, 1) := by decide +kernel
theorem dL_up_31 : decode cL_up 31 = .ok (.ior, 1) := by decide +kernel
theorem dL_up_32 : decode cL_up 32 = .ok (.istore_n 1, 1) := by decide +kernel
theorem dL_up_33 : decode cL_up 33 = .ok (.iinc 2 1, 3) := by decide +kernel
theorem dL_up_36 : decode cL_up 36 = .ok (.goto (-32), 3) := by decide +kernel
theorem dL_up_39 : decode cL_up 39 = .ok (.iload_n 1, 1) := by decide +kernel
theorem dL_up_40 : decode cL_up 40 = .ok (.ireturn, 1) := by decide +kernel
theorem dL_group_0 : decode cL_group 0 = .ok (.iconst 1, 1) := by decide +kernel
theorem dL_group_1 : decode cL_group 1 = .ok (.iload_n 1, 1) := by decide +kernel
theorem dL_group_2 : decode cL_group 2 = .ok (.ishl, 1) := by decide +kernel
theorem dL_group_3 : decode cL_group 3 = .ok (.istore_n 2, 1) := by decide +kernel
theorem dL_group_4 : decode cL_group 4 = .ok (.iconst 0, 1) := by decide +kernel
theorem dL_group_5 : decode cL_group 5 = .ok (.istore_n 3, 1) := by decide +kernel
theorem dL_group_6 : decode cL_group 6 = .ok (.iload_n 3, 1) := by decide +kernel
theorem dL_group_7 : decode cL_group 7 = .ok (.iconst 4, 1) := by decide +kernel
theorem dL_group_8 : decode cL_group 8 = .ok (.if_icmp .ge 88, 3) := by decide +kernel
theorem dL_group_11 : decode cL_group 11 = .ok (.iconst 0, 1) := by decide +kernel
theorem dL_group_12 : decode cL_group 12 = .ok (.istore 4, 2) := by decide +kernel
theorem dL_group_14 : decode cL_group 14 = .ok (.iload 4, 2) := by decide +kernel
theorem dL_group_16 : decode cL_group 16 = .ok (.bipush 25, 2) := by decide +kernel
theorem dL_group_18 : decode cL_group 18 = .ok (.if_icmp .ge 72, 3) := by decide +kernel
theorem dL_group_21 : decode cL_group 21 = .ok (.iload_n 0, 1) := by decide +kernel
theorem dL_group_22 : decode cL_group 22 = .ok (.iload 4, 2) := by decide +kernel
theorem dL_group_24 : decode cL_group 24 = .ok (.ishr, 1) := by decide +kernel
theorem dL_group_25 : decode cL_group 25 = .ok (.iconst 1, 1) := by decide +kernel
theorem dL_group_26 : decode cL_group 26 = .ok (.iand, 1) := by decide +kernel
theorem dL_group_27 : decode cL_group 27 = .ok (.iconst 1, 1) := by decide +kernel
theorem dL_group_28 : decode cL_group 28 = .ok (.if_icmp .ne 28, 3) := by decide +kernel
theorem dL_group_31 : decode cL_group 31 = .ok (.iload_n 2, 1) := by decide +kernel
theorem dL_group_32 : decode cL_group 32 = .ok (.iload 4, 2) := by decide +kernel
theorem dL_group_34 : decode cL_group 34 = .ok (.iconst 5, 1) := by decide +kernel
theorem dL_group_35 : decode cL_group 35 = .ok (.idiv, 1) := by decide +kernel
theorem dL_group_36 : decode cL_group 36 = .ok (.ishr, 1) := by decide +kernel
theorem dL_group_37 : decode cL_group 37 = .ok (.iconst 1, 1) := by decide +kernel
theorem dL_group_38 : decode cL_group 38 = .ok (.iand, 1) := by decide +kernel
theorem dL_group_39 : decode cL_group 39 = .ok (.iload_n 2, 1) := by decide +kernel
theorem dL_group_40 : decode cL_group 40 = .ok (.iload 4, 2) := by decide +kernel
theorem dL_group_42 : decode cL_group 42 = .ok (.iconst 5, 1) := by decide +kernel
theorem dL_group_43 : decode cL_group 43 = .ok (.irem, 1) := by decide +kernel
theorem dL_group_44 : decode cL_group 44 = .ok (.ishr, 1) := by decide +kernel
theorem dL_group_45 : decode cL_group 45 = .ok (.iconst 1, 1) := by decide +kernel
theorem dL_group_46 : decode cL_group 46 = .ok (.iand, 1) := by decide +kernel
theorem dL_group_47 : decode cL_group 47 = .ok (.iadd, 1) := by decide +kernel
theorem dL_group_48 : decode cL_group 48 = .ok (.iconst 1, 1) := by decide +kernel
theorem dL_group_49 : decode cL_group 49 = .ok (.if_icmp .ne 7, 3) := by decide +kernel
theorem dL_group_52 : decode cL_group 52 = .ok (.iconst 1, 1) := by decide +kernel
theorem dL_group_53 : decode cL_group 53 = .ok (.goto 4, 3) := by decide +kernel
theorem dL_group_56 : decode cL_group 56 = .ok (.iconst 0, 1) := by decide +kernel
theorem dL_group_57 : decode cL_group 57 = .ok (.istore 5, 2) := by decide +kernel
theorem dL_group_59 : decode cL_group 59 = .ok (.iload_n 2, 1) := by decide +kernel
theorem dL_group_60 : decode cL_group 60 = .ok (.iload 5, 2) := by decide +kernel
theorem dL_group_62 : decode cL_group 62 = .ok (.ifCond .eq 19, 3) := by decide +kernel
theorem dL_group_65 : decode cL_group 65 = .ok (.iconst 1, 1) := by decide +kernel
theorem dL_group_66 : decode cL_group 66 = .ok (.iload 4, 2) := by decide +kernel
theorem dL_group_68 : decode cL_group 68 = .ok (.iconst 5, 1) := by decide +kernel
theorem dL_group_69 : decode cL_group 69 = .ok (.idiv, 1) := by decide +kernel
theorem dL_group_70 : decode cL_group 70 = .ok (.ishl, 1) := by decide +kernel
theorem dL_group_71 : decode cL_group 71 = .ok (.iconst 1, 1) := by decide +kernel
theorem dL_group_72 : decode cL_group 72 = .ok (.iload 4, 2) := by decide +kernel
theorem dL_group_74 : decode cL_group 74 = .ok (.iconst 5, 1) := by decide +kernel
theorem dL_group_75 : decode cL_group 75 = .ok (.irem, 1) := by decide +kernel
theorem dL_group_76 : decode cL_group 76 = .ok (.ishl, 1) := by decide +kernel
theorem dL_group_77 : decode cL_group 77 = .ok (.ior, 1) := by decide +kernel
theorem dL_group_78 : decode cL_group 78 = .ok (.goto 4, 3) := by decide +kernel
theorem dL_group_81 : decode cL_group 81 = .ok (.iconst 0, 1) := by decide +kernel
theorem dL_group_82 : decode cL_group 82 = .ok (.ior, 1) := by decide +kernel
theorem dL_group_83 : decode cL_group 83 = .ok (.istore_n 2, 1) := by decide +kernel
theorem dL_group_84 : decode cL_group 84 = .ok (.iinc 4 1, 3) := by decide +kernel
theorem dL_group_87 : decode cL_group 87 = .ok (.goto (-73), 3) := by decide +kernel
theorem dL_group_90 : decode cL_group 90 = .ok (.iinc 3 1, 3) := by decide +kernel
theorem dL_group_93 : decode cL_group 93 = .ok (.goto (-87), 3) := by decide +kernel
theorem dL_group_96 : decode cL_group 96 = .ok (.iload_n 2, 1) := by decide +kernel
theorem dL_group_97 : decode cL_group 97 = .ok (.ireturn, 1) := by decide +kernel
set_option maxRecDepth 20000 in
theorem ggL_links_L_heard : GoodIn wsL_links wsL_heard := goodIn_r _ [4, 5, 6, 3, 7, 8, 9, 10] (by decide +kernel) (by decide +kernel)
set_option maxRecDepth 20000 in
theorem gL_links_L_heard : GoodIn wsL_links (va_wsS RL 19 yL_heard wsL_heard) := goodIn_app (goodIn_of _ (by decide +kernel)) ggL_links_L_heard
set_option maxRecDepth 20000 in
theorem ggL_links_L_pair : GoodIn wsL_links wsL_pair := goodIn_r _ [7] (by decide +kernel) (by decide +kernel)
set_option maxRecDepth 20000 in
theorem gL_links_L_pair : GoodIn wsL_links (va_wsS RL 9 yL_pair wsL_pair) := goodIn_app (goodIn_of _ (by decide +kernel)) ggL_links_L_pair
theorem dL_links_0 : decode cL_links 0 = .ok (.iconst 0, 1) := by decide +kernel
theorem dL_links_1 : decode cL_links 1 = .ok (.istore_n 2, 1) := by decide +kernel
theorem dL_links_2 : decode cL_links 2 = .ok (.iconst 0, 1) := by decide +kernel
theorem dL_links_3 : decode cL_links 3 = .ok (.istore_n 3, 1) := by decide +kernel
theorem dL_links_4 : decode cL_links 4 = .ok (.iload_n 3, 1) := by decide +kernel
theorem dL_links_5 : decode cL_links 5 = .ok (.aload_n 0, 1) := by decide +kernel
theorem dL_links_6 : decode cL_links 6 = .ok (.bipush 40, 2) := by decide +kernel
theorem dL_links_8 : decode cL_links 8 = .ok (.iaload, 1) := by decide +kernel
theorem dL_links_9 : decode cL_links 9 = .ok (.if_icmp .ge 54, 3) := by decide +kernel
theorem dL_links_12 : decode cL_links 12 = .ok (.iconst 0, 1) := by decide +kernel
theorem dL_links_13 : decode cL_links 13 = .ok (.istore 4, 2) := by decide +kernel
theorem dL_links_15 : decode cL_links 15 = .ok (.iload 4, 2) := by decide +kernel
theorem dL_links_17 : decode cL_links 17 = .ok (.iload_n 3, 1) := by decide +kernel
theorem dL_links_18 : decode cL_links 18 = .ok (.if_icmp .ge 39, 3) := by decide +kernel
theorem dL_links_21 : decode cL_links 21 = .ok (.iload_n 2, 1) := by decide +kernel
theorem dL_links_22 : decode cL_links 22 = .ok (.aload_n 0, 1) := by decide +kernel
theorem dL_links_23 : decode cL_links 23 = .ok (.aload_n 1, 1) := by decide +kernel
theorem dL_links_24 : decode cL_links 24 = .ok (.iload_n 3, 1) := by decide +kernel
theorem dL_links_25 : decode cL_links 25 = .ok (.invokestatic 19, 3) := by decide +kernel
theorem dL_links_28 : decode cL_links 28 = .ok (.iload 4, 2) := by decide +kernel
theorem dL_links_30 : decode cL_links 30 = .ok (.ishr, 1) := by decide +kernel
theorem dL_links_31 : decode cL_links 31 = .ok (.iconst 1, 1) := by decide +kernel
theorem dL_links_32 : decode cL_links 32 = .ok (.iand, 1) := by decide +kernel
theorem dL_links_33 : decode cL_links 33 = .ok (.iconst 1, 1) := by decide +kernel
theorem dL_links_34 : decode cL_links 34 = .ok (.if_icmp .ne 14, 3) := by decide +kernel
theorem dL_links_37 : decode cL_links 37 = .ok (.iconst 1, 1) := by decide +kernel
theorem dL_links_38 : decode cL_links 38 = .ok (.iload 4, 2) := by decide +kernel
theorem dL_links_40 : decode cL_links 40 = .ok (.iload_n 3, 1) := by decide +kernel
theorem dL_links_41 : decode cL_links 41 = .ok (.invokestatic 9, 3) := by decide +kernel
theorem dL_links_44 : decode cL_links 44 = .ok (.ishl, 1) := by decide +kernel
theorem dL_links_45 : decode cL_links 45 = .ok (.goto 4, 3) := by decide +kernel
theorem dL_links_48 : decode cL_links 48 = .ok (.iconst 0, 1) := by decide +kernel
theorem dL_links_49 : decode cL_links 49 = .ok (.ior, 1) := by decide +kernel
theorem dL_links_50 : decode cL_links 50 = .ok (.istore_n 2, 1) := by decide +kernel
theorem dL_links_51 : decode cL_links 51 = .ok (.iinc 4 1, 3) := by decide +kernel
theorem dL_links_54 : decode cL_links 54 = .ok (.goto (-39), 3) := by decide +kernel
theorem dL_links_57 : decode cL_links 57 = .ok (.iinc 3 1, 3) := by decide +kernel
theorem dL_links_60 : decode cL_links 60 = .ok (.goto (-56), 3) := by decide +kernel
theorem dL_links_63 : decode cL_links 63 = .ok (.iload_n 2, 1) := by decide +kernel
theorem dL_links_64 : decode cL_links 64 = .ok (.ireturn, 1) := by decide +kernel
set_option maxRecDepth 20000 in
theorem ggL_isFree_L_ones : GoodIn wsL_isFree wsL_ones := goodIn_r _ [4] (by decide +kernel) (by decide +kernel)
set_option maxRecDepth 20000 in
theorem gL_isFree_L_ones : GoodIn wsL_isFree (va_wsS RL 23 yL_ones wsL_ones) := goodIn_app (goodIn_of _ (by decide +kernel)) ggL_isFree_L_ones
theorem dL_isFree_0 : decode cL_isFree 0 = .ok (.iconst 3, 1) := by decide +kernel
theorem dL_isFree_1 : decode cL_isFree 1 = .ok (.istore_n 1, 1) := by decide +kernel
theorem dL_isFree_2 : decode cL_isFree 2 = .ok (.iload_n 1, 1) := by decide +kernel
theorem dL_isFree_3 : decode cL_isFree 3 = .ok (.bipush 32, 2) := by decide +kernel
theorem dL_isFree_5 : decode cL_isFree 5 = .ok (.if_icmp .ge 81, 3) := by decide +kernel
theorem dL_isFree_8 : decode cL_isFree 8 = .ok (.iconst 0, 1) := by decide +kernel
theorem dL_isFree_9 : decode cL_isFree 9 = .ok (.istore_n 2, 1) := by decide +kernel
theorem dL_isFree_10 : decode cL_isFree 10 = .ok (.iconst 0, 1) := by decide +kernel
theorem dL_isFree_11 : decode cL_isFree 11 = .ok (.istore_n 3, 1) := by decide +kernel
theorem dL_isFree_12 : decode cL_isFree 12 = .ok (.iload_n 3, 1) := by decide +kernel
theorem dL_isFree_13 : decode cL_isFree 13 = .ok (.bipush 25, 2) := by decide +kernel
theorem dL_isFree_15 : decode cL_isFree 15 = .ok (.if_icmp .ge 43, 3) := by decide +kernel
theorem dL_isFree_18 : decode cL_isFree 18 = .ok (.iload_n 2, 1) := by decide +kernel
theorem dL_isFree_19 : decode cL_isFree 19 = .ok (.iload_n 0, 1) := by decide +kernel
theorem dL_isFree_20 : decode cL_isFree 20 = .ok (.iload_n 3, 1) := by decide +kernel
theorem dL_isFree_21 : decode cL_isFree 21 = .ok (.ishr, 1) := by decide +kernel
theorem dL_isFree_22 : decode cL_isFree 22 = .ok (.iconst 1, 1) := by decide +kernel
theorem dL_isFree_23 : decode cL_isFree 23 = .ok (.iand, 1) := by decide +kernel
theorem dL_isFree_24 : decode cL_isFree 24 = .ok (.iconst 1, 1) := by decide +kernel
theorem dL_isFree_25 : decode cL_isFree 25 = .ok (.if_icmp .ne 24, 3) := by decide +kernel
theorem dL_isFree_28 : decode cL_isFree 28 = .ok (.iload_n 1, 1) := by decide +kernel
theorem dL_isFree_29 : decode cL_isFree 29 = .ok (.iload_n 3, 1) := by decide +kernel
theorem dL_isFree_30 : decode cL_isFree 30 = .ok (.iconst 5, 1) := by decide +kernel
theorem dL_isFree_31 : decode cL_isFree 31 = .ok (.idiv, 1) := by decide +kernel
theorem dL_isFree_32 : decode cL_isFree 32 = .ok (.ishr, 1) := by decide +kernel
theorem dL_isFree_33 : decode cL_isFree 33 = .ok (.iload_n 1, 1) := by decide +kernel
theorem dL_isFree_34 : decode cL_isFree 34 = .ok (.iload_n 3, 1) := by decide +kernel
theorem dL_isFree_35 : decode cL_isFree 35 = .ok (.iconst 5, 1) := by decide +kernel
theorem dL_isFree_36 : decode cL_isFree 36 = .ok (.irem, 1) := by decide +kernel
theorem dL_isFree_37 : decode cL_isFree 37 = .ok (.ishr, 1) := by decide +kernel
theorem dL_isFree_38 : decode cL_isFree 38 = .ok (.iand, 1) := by decide +kernel
theorem dL_isFree_39 : decode cL_isFree 39 = .ok (.iconst 1, 1) := by decide +kernel
theorem dL_isFree_40 : decode cL_isFree 40 = .ok (.iand, 1) := by decide +kernel
theorem dL_isFree_41 : decode cL_isFree 41 = .ok (.iconst 1, 1) := by decide +kernel
theorem dL_isFree_42 : decode cL_isFree 42 = .ok (.if_icmp .ne 7, 3) := by decide +kernel
theorem dL_isFree_45 : decode cL_isFree 45 = .ok (.iconst 1, 1) := by decide +kernel
theorem dL_isFree_46 : decode cL_isFree 46 = .ok (.goto 4, 3) := by decide +kernel
theorem dL_isFree_49 : decode cL_isFree 49 = .ok (.iconst 0, 1) := by decide +kernel
theorem dL_isFree_50 : decode cL_isFree 50 = .ok (.iadd, 1) := by decide +kernel
theorem dL_isFree_51 : decode cL_isFree 51 = .ok (.istore_n 2, 1) := by decide +kernel
theorem dL_isFree_52 : decode cL_isFree 52 = .ok (.iinc 3 1, 3) := by decide +kernel
theorem dL_isFree_55 : decode cL_isFree 55 = .ok (.goto (-43), 3) := by decide +kernel
theorem dL_isFree_58 : decode cL_isFree 58 = .ok (.iload_n 1, 1) := by decide +kernel
theorem dL_isFree_59 : decode cL_isFree 59 = .ok (.invokestatic 23, 3) := by decide +kernel
theorem dL_isFree_62 : decode cL_isFree 62 = .ok (.iconst 1, 1) := by decide +kernel
theorem dL_isFree_63 : decode cL_isFree 63 = .ok (.if_icmp .le 17, 3) := by decide +kernel
theorem dL_isFree_66 : decode cL_isFree 66 = .ok (.iload_n 2, 1) := by decide +kernel
theorem dL_isFree_67 : decode cL_isFree 67 = .ok (.iconst 2, 1) := by decide +kernel
theorem dL_isFree_68 : decode cL_isFree 68 = .ok (.iload_n 1, 1) := by decide +kernel
theorem dL_isFree_69 : decode cL_isFree 69 = .ok (.invokestatic 23, 3) := by decide +kernel
theorem dL_isFree_72 : decode cL_isFree 72 = .ok (.imul, 1) := by decide +kernel
theorem dL_isFree_73 : decode cL_isFree 73 = .ok (.iconst 3, 1) := by decide +kernel
theorem dL_isFree_74 : decode cL_isFree 74 = .ok (.isub, 1) := by decide +kernel
theorem dL_isFree_75 : decode cL_isFree 75 = .ok (.if_icmp .le 5, 3) := by decide +kernel
theorem dL_isFree_78 : decode cL_isFree 78 = .ok (.iconst 0, 1) := by decide +kernel
theorem dL_isFree_79 : decode cL_isFree 79 = .ok (.ireturn, 1) := by decide +kernel
theorem dL_isFree_80 : decode cL_isFree 80 = .ok (.iinc 1 1, 3) := by decide +kernel
theorem dL_isFree_83 : decode cL_isFree 83 = .ok (.goto (-81), 3) := by decide +kernel
theorem dL_isFree_86 : decode cL_isFree 86 = .ok (.iconst 1, 1) := by decide +kernel
theorem dL_isFree_87 : decode cL_isFree 87 = .ok (.ireturn, 1) := by decide +kernel
set_option maxRecDepth 20000 in
theorem ggL_rank_L_ones : GoodIn wsL_rank wsL_ones := goodIn_r _ [4] (by decide +kernel) (by decide +kernel)
set_option maxRecDepth 20000 in
theorem gL_rank_L_ones : GoodIn wsL_rank (va_wsS RL 23 yL_ones wsL_ones) := goodIn_app (goodIn_of _ (by decide +kernel)) ggL_rank_L_ones
set_option maxRecDepth 20000 in
theorem ggL_rank_L_isFree : GoodIn wsL_rank wsL_isFree := goodIn_r _ [7, 1, 2, 3, 4] (by decide +kernel) (by decide +kernel)
set_option maxRecDepth 20000 in
theorem gL_rank_L_isFree : GoodIn wsL_rank (va_wsS RL 27 yL_isFree wsL_isFree) := goodIn_app (goodIn_of _ (by decide +kernel)) ggL_rank_L_isFree
theorem dL_rank_0 : decode cL_rank 0 = .ok (.iconst 0, 1) := by decide +kernel
theorem dL_rank_1 : decode cL_rank 1 = .ok (.istore_n 1, 1) := by decide +kernel
theorem dL_rank_2 : decode cL_rank 2 = .ok (.iload_n 0, 1) := by decide +kernel
theorem dL_rank_3 : decode cL_rank 3 = .ok (.istore_n 2, 1) := by decide +kernel
theorem dL_rank_4 : decode cL_rank 4 = .ok (.iload_n 2, 1) := by decide +kernel
theorem dL_rank_5 : decode cL_rank 5 = .ok (.ifCond .le 36, 3) := by decide +kernel
theorem dL_rank_8 : decode cL_rank 8 = .ok (.iload_n 2, 1) := by decide +kernel
theorem dL_rank_9 : decode cL_rank 9 = .ok (.invokestatic 23, 3) := by decide +kernel
theorem dL_rank_12 : decode cL_rank 12 = .ok (.iload_n 1, 1) := by decide +kernel
theorem dL_rank_13 : decode cL_rank 13 = .ok (.if_icmp .le 17, 3) := by decide +kernel
theorem dL_rank_16 : decode cL_rank 16 = .ok (.iload_n 2, 1) := by decide +kernel
theorem dL_rank_17 : decode cL_rank 17 = .ok (.invokestatic 27, 3) := by decide +kernel
theorem dL_rank_20 : decode cL_rank 20 = .ok (.ifCond .eq 10, 3) := by decide +kernel
theorem dL_rank_23 : decode cL_rank 23 = .ok (.iload_n 2, 1) := by decide +kernel
theorem dL_rank_24 : decode cL_rank 24 = .ok (.invokestatic 23, 3) := by decide +kernel
theorem dL_rank_27 : decode cL_rank 27 = .ok (.goto 4, 3) := by decide +kernel
theorem dL_rank_30 : decode cL_rank 30 = .ok (.iload_n 1, 1) := by decide +kernel
theorem dL_rank_31 : decode cL_rank 31 = .ok (.istore_n 1, 1) := by decide +kernel
theorem dL_rank_32 : decode cL_rank 32 = .ok (.iload_n 2, 1) := by decide +kernel
theorem dL_rank_33 : decode cL_rank 33 = .ok (.iconst 1, 1) := by decide +kernel
theorem dL_rank_34 : decode cL_rank 34 = .ok (.isub, 1) := by decide +kernel
theorem dL_rank_35 : decode cL_rank 35 = .ok (.iload_n 0, 1) := by decide +kernel
theorem dL_rank_36 : decode cL_rank 36 = .ok (.iand, 1) := by decide +kernel
theorem dL_rank_37 : decode cL_rank 37 = .ok (.istore_n 2, 1) := by decide +kernel
theorem dL_rank_38 : decode cL_rank 38 = .ok (.goto (-34), 3) := by decide +kernel
theorem dL_rank_41 : decode cL_rank 41 = .ok (.iload_n 1, 1) := by decide +kernel
theorem dL_rank_42 : decode cL_rank 42 = .ok (.ireturn, 1) := by decide +kernel
set_option maxRecDepth 20000 in
theorem ggL_trees_L_ones : GoodIn wsL_trees wsL_ones := goodIn_r _ [4] (by decide +kernel) (by decide +kernel)
set_option maxRecDepth 20000 in
theorem gL_trees_L_ones : GoodIn wsL_trees (va_wsS RL 23 yL_ones wsL_ones) := goodIn_app (goodIn_of _ (by decide +kernel)) ggL_trees_L_ones
set_option maxRecDepth 20000 in
theorem ggL_trees_L_group : GoodIn wsL_trees wsL_group := goodIn_r _ [7] (by decide +kernel) (by decide +kernel)
set_option maxRecDepth 20000 in
theorem gL_trees_L_group : GoodIn wsL_trees (va_wsS RL 31 yL_group wsL_group) := goodIn_app (goodIn_of _ (by decide +kernel)) ggL_trees_L_group
theorem dL_trees_0 : decode cL_trees 0 = .ok (.lconst 0, 1) := by decide +kernel
theorem dL_trees_1 : decode cL_trees 1 = .ok (.lstore_n 2, 1) := by decide +kernel
theorem dL_trees_2 : decode cL_trees 2 = .ok (.iconst 0, 1) := by decide +kernel
theorem dL_trees_3 : decode cL_trees 3 = .ok (.istore 4, 2) := by decide +kernel
theorem dL_trees_5 : decode cL_trees 5 = .ok (.iload 4, 2) := by decide +kernel
theorem dL_trees_7 : decode cL_trees 7 = .ok (.iconst 5, 1) := by decide +kernel
theorem dL_trees_8 : decode cL_trees 8 = .ok (.if_icmp .ge 18, 3) := by decide +kernel
theorem dL_trees_11 : decode cL_trees 11 = .ok (.iload_n 1, 1) := by decide +kernel
theorem dL_trees_12 : decode cL_trees 12 = .ok (.iload 4, 2) := by decide +kernel
theorem dL_trees_14 : decode cL_trees 14 = .ok (.ishr, 1) := by decide +kernel
theorem dL_trees_15 : decode cL_trees 15 = .ok (.iconst 1, 1) := by decide +kernel
theorem dL_trees_16 : decode cL_trees 16 = .ok (.iand, 1) := by decide +kernel
theorem dL_trees_17 : decode cL_trees 17 = .ok (.ifCond .ne 9, 3) := by decide +kernel
theorem dL_trees_20 : decode cL_trees 20 = .ok (.iinc 4 1, 3) := by decide +kernel
theorem dL_trees_23 : decode cL_trees 23 = .ok (.goto (-18), 3) := by decide +kernel
theorem dL_trees_26 : decode cL_trees 26 = .ok (.iload_n 0, 1) := by decide +kernel
theorem dL_trees_27 : decode cL_trees 27 = .ok (.istore 5, 2) := by decide +kernel
theorem dL_trees_29 : decode cL_trees 29 = .ok (.iload 5, 2) := by decide +kernel
theorem dL_trees_31 : decode cL_trees 31 = .ok (.ifCond .le 47, 3) := by decide +kernel
theorem dL_trees_34 : decode cL_trees 34 = .ok (.lload_n 2, 1) := by decide +kernel
theorem dL_trees_35 : decode cL_trees 35 = .ok (.iload 5, 2) := by decide +kernel
theorem dL_trees_37 : decode cL_trees 37 = .ok (.invokestatic 23, 3) := by decide +kernel
theorem dL_trees_40 : decode cL_trees 40 = .ok (.iload_n 1, 1) := by decide +kernel
theorem dL_trees_41 : decode cL_trees 41 = .ok (.invokestatic 23, 3) := by decide +kernel
theorem dL_trees_44 : decode cL_trees 44 = .ok (.iconst 1, 1) := by decide +kernel
theorem dL_trees_45 : decode cL_trees 45 = .ok (.isub, 1) := by decide +kernel
theorem dL_trees_46 : decode cL_trees 46 = .ok (.if_icmp .ne 18, 3) := by decide +kernel
theorem dL_trees_49 : decode cL_trees 49 = .ok (.iload 5, 2) := by decide +kernel
theorem dL_trees_51 : decode cL_trees 51 = .ok (.iload 4, 2) := by decide +kernel
theorem dL_trees_53 : decode cL_trees 53 = .ok (.invokestatic 31, 3) := by decide +kernel
theorem dL_trees_56 : decode cL_trees 56 = .ok (.iload_n 1, 1) := by decide +kernel
theorem dL_trees_57 : decode cL_trees 57 = .ok (.if_icmp .ne 7, 3) := by decide +kernel
theorem dL_trees_60 : decode cL_trees 60 = .ok (.lconst 1, 1) := by decide +kernel
theorem dL_trees_61 : decode cL_trees 61 = .ok (.goto 4, 3) := by decide +kernel
theorem dL_trees_64 : decode cL_trees 64 = .ok (.lconst 0, 1) := by decide +kernel
theorem dL_trees_65 : decode cL_trees 65 = .ok (.ladd, 1) := by decide +kernel
theorem dL_trees_66 : decode cL_trees 66 = .ok (.lstore_n 2, 1) := by decide +kernel
theorem dL_trees_67 : decode cL_trees 67 = .ok (.iload 5, 2) := by decide +kernel
theorem dL_trees_69 : decode cL_trees 69 = .ok (.iconst 1, 1) := by decide +kernel
theorem dL_trees_70 : decode cL_trees 70 = .ok (.isub, 1) := by decide +kernel
theorem dL_trees_71 : decode cL_trees 71 = .ok (.iload_n 0, 1) := by decide +kernel
theorem dL_trees_72 : decode cL_trees 72 = .ok (.iand, 1) := by decide +kernel
theorem dL_trees_73 : decode cL_trees 73 = .ok (.istore 5, 2) := by decide +kernel
theorem dL_trees_75 : decode cL_trees 75 = .ok (.goto (-46), 3) := by decide +kernel
theorem dL_trees_78 : decode cL_trees 78 = .ok (.iload_n 1, 1) := by decide +kernel
theorem dL_trees_79 : decode cL_trees 79 = .ok (.invokestatic 23, 3) := by decide +kernel
theorem dL_trees_82 : decode cL_trees 82 = .ok (.iconst 1, 1) := by decide +kernel
theorem dL_trees_83 : decode cL_trees 83 = .ok (.if_icmp .ne 7, 3) := by decide +kernel
theorem dL_trees_86 : decode cL_trees 86 = .ok (.lconst 1, 1) := by decide +kernel
theorem dL_trees_87 : decode cL_trees 87 = .ok (.goto 4, 3) := by decide +kernel
theorem dL_trees_90 : decode cL_trees 90 = .ok (.lload_n 2, 1) := by decide +kernel
theorem dL_trees_91 : decode cL_trees 91 = .ok (.lreturn, 1) := by decide +kernel
set_option maxRecDepth 20000 in
theorem ggL_isLinked_L_links : GoodIn wsL_isLinked wsL_links := goodIn_r _ [4, 5, 6, 3, 7, 8, 9, 10, 11, 12, 13] (by decide +kernel) (by decide +kernel)
set_option maxRecDepth 20000 in
theorem gL_isLinked_L_links : GoodIn wsL_isLinked (va_wsS RL 34 yL_links wsL_links) := goodIn_app (goodIn_of _ (by decide +kernel)) ggL_isLinked_L_links
set_option maxRecDepth 20000 in
theorem ggL_isLinked_X4_links : GoodIn wsL_isLinked wsX4_links := goodIn_r _ [18, 19, 20, 21, 22, 17, 23, 24, 25, 26, 27, 28, 29, 30, 31, 32, 33, 34, 35, 36, 37, 38, 39, 40, 41, 42, 43, 44, 45, 46, 47, 48, 49, 50, 51, 52, 53, 54, 55, 56, 57, 58, 59, 60, 61, 62, 63, 64, 65, 66, 67, 68, 69, 70, 71, 72, 140, 141, 142, 143, 144, 145, 146, 147, 148, 149, 150, 151, 152, 153, 154, 155, 156, 157, 158] (by decide +kernel) (by decide +kernel)
set_option maxRecDepth 20000 in
theorem gL_isLinked_X4_links : GoodIn wsL_isLinked (wsV RL 38 RX4 yX4_links wsX4_links) := goodIn_app (goodIn_of _ (by decide +kernel)) ggL_isLinked_X4_links
set_option maxRecDepth 20000 in
theorem ggL_isLinked_L_ones : GoodIn wsL_isLinked wsL_ones := goodIn_r _ [75] (by decide +kernel) (by decide +kernel)
set_option maxRecDepth 20000 in
theorem gL_isLinked_L_ones : GoodIn wsL_isLinked (va_wsS RL 23 yL_ones wsL_ones) := goodIn_app (goodIn_of _ (by decide +kernel)) ggL_isLinked_L_ones
set_option maxRecDepth 20000 in
theorem ggL_isLinked_X4_members : GoodIn wsL_isLinked wsX4_members := goodIn_r _ [79, 24, 140, 141, 142, 143, 144, 145, 146, 147, 148, 149, 150, 151, 152, 153, 154, 155, 156, 157] (by decide +kernel) (by decide +kernel)
set_option maxRecDepth 20000 in
theorem gL_isLinked_X4_members : GoodIn wsL_isLinked (wsV RL 43 RX4 yX4_members wsX4_members) := goodIn_app (goodIn_of _ (by decide +kernel)) ggL_isLinked_X4_members
set_option maxRecDepth 20000 in
theorem ggL_isLinked_L_heard : GoodIn wsL_isLinked wsL_heard := goodIn_r _ [7, 8, 9, 3, 10, 11, 12, 13] (by decide +kernel) (by decide +kernel)
set_option maxRecDepth 20000 in
theorem gL_isLinked_L_heard : GoodIn wsL_isLinked (va_wsS RL 19 yL_heard wsL_heard) := goodIn_app (goodIn_of _ (by decide +kernel)) ggL_isLinked_L_heard
set_option maxRecDepth 20000 in
theorem ggL_isLinked_L_group : GoodIn wsL_isLinked wsL_group := goodIn_r _ [82] (by decide +kernel) (by decide +kernel)
set_option maxRecDepth 20000 in
theorem gL_isLinked_L_group : GoodIn wsL_isLinked (va_wsS RL 31 yL_group wsL_group) := goodIn_app (goodIn_of _ (by decide +kernel)) ggL_isLinked_L_group
set_option maxRecDepth 20000 in
theorem ggL_isLinked_X4_areLinked : GoodIn wsL_isLinked wsX4_areLinked := goodIn_ca (goodIn_r _ [86, 87, 88, 89, 17, 90, 91, 92, 24, 34, 35, 36, 37, 38, 39, 40, 41, 26, 42, 43, 29, 44, 45, 46, 47, 48, 49, 50, 51, 52, 140, 141, 142, 143, 144, 145, 146, 147, 148, 149, 150, 151, 152, 153, 154, 155, 156, 157, 158] (by decide +kernel) (by decide +kernel)) (goodIn_sub (fun _ h => List.mem_cons_of_mem _ (List.mem_append_right _ h)) (by decide +kernel))
set_option maxRecDepth 20000 in
theorem gL_isLinked_X4_areLinked : GoodIn wsL_isLinked (wsV RL 46 RX4 yX4_areLinked wsX4_areLinked) := goodIn_app (goodIn_of _ (by decide +kernel)) ggL_isLinked_X4_areLinked
set_option maxRecDepth 20000 in
theorem ggL_isLinked_X4_degree : GoodIn wsL_isLinked wsX4_degree := goodIn_ca (goodIn_r _ [96, 19, 87, 88, 89, 17, 90, 91, 92, 24, 20, 21, 22, 23, 25, 26, 27, 28, 29, 30, 31, 32, 33, 34, 35, 36, 37, 38, 39, 40, 41, 42, 43, 44, 45, 46, 47, 48, 49, 50, 51, 52, 53, 54, 55, 56, 57, 58, 63, 64, 65, 66, 67, 68, 69, 70, 71, 72, 140, 141, 142, 143, 144, 145, 146, 147, 148, 149, 150, 151, 152, 153, 154, 155, 156, 157, 158] (by decide +kernel) (by decide +kernel)) (goodIn_sub (fun _ h => List.mem_cons_of_mem _ (List.mem_append_right _ h)) (by decide +kernel))
set_option maxRecDepth 20000 in
theorem gL_isLinked_X4_degree : GoodIn wsL_isLinked (wsV RL 50 RX4 yX4_degree wsX4_degree) := goodIn_app (goodIn_of _ (by decide +kernel)) ggL_isLinked_X4_degree
set_option maxRecDepth 20000 in
theorem ggL_isLinked_X4_leader : GoodIn wsL_isLinked wsX4_leader := goodIn_ca (goodIn_r _ [100, 38, 19, 24, 87, 88, 89, 17, 90, 91, 92, 20, 21, 22, 23, 25, 26, 27, 28, 29, 30, 31, 32, 33, 34, 35, 36, 37, 39, 40, 41, 42, 43, 44, 45, 46, 47, 48, 49, 50, 51, 52, 53, 54, 55, 56, 57, 58, 101, 102, 103, 104, 105, 106, 107, 108, 140, 141, 142, 143, 144, 145, 146, 147, 148, 149, 150, 151, 152, 153, 154, 155, 156, 157, 158] (by decide +kernel) (by decide +kernel)) (goodIn_sub (fun _ h => List.mem_cons_of_mem _ (List.mem_append_right _ h)) (by decide +kernel))
set_option maxRecDepth 20000 in
theorem gL_isLinked_X4_leader : GoodIn wsL_isLinked (wsV RL 53 RX4 yX4_leader wsX4_leader) := goodIn_app (goodIn_of _ (by decide +kernel)) ggL_isLinked_X4_leader
set_option maxRecDepth 20000 in
theorem ggL_isLinked_X4_xOf : GoodIn wsL_isLinked wsX4_xOf := goodIn_ca (goodIn_r _ [112, 51, 87, 88, 89, 17, 90, 91, 92, 24, 140, 141, 142, 143, 144, 145, 146, 147, 148, 149, 150, 151, 152, 153, 154, 155, 156, 157] (by decide +kernel) (by decide +kernel)) (goodIn_sub (fun _ h => List.mem_cons_of_mem _ (List.mem_append_right _ h)) (by decide +kernel))
set_option maxRecDepth 20000 in
theorem gL_isLinked_X4_xOf : GoodIn wsL_isLinked (wsV RL 56 RX4 yX4_xOf wsX4_xOf) := goodIn_app (goodIn_of _ (by decide +kernel)) ggL_isLinked_X4_xOf
set_option maxRecDepth 20000 in
theorem ggL_isLinked_X4_yOf : GoodIn wsL_isLinked wsX4_yOf := goodIn_ca (goodIn_r _ [116, 52, 87, 88, 89, 17, 90, 91, 92, 24, 140, 141, 142, 143, 144, 145, 146, 147, 148, 149, 150, 151, 152, 153, 154, 155, 156, 157] (by decide +kernel) (by decide +kernel)) (goodIn_sub (fun _ h => List.mem_cons_of_mem _ (List.mem_append_right _ h)) (by decide +kernel))
set_option maxRecDepth 20000 in
theorem gL_isLinked_X4_yOf : GoodIn wsL_isLinked (wsV RL 59 RX4 yX4_yOf wsX4_yOf) := goodIn_app (goodIn_of _ (by decide +kernel)) ggL_isLinked_X4_yOf
set_option maxRecDepth 20000 in
theorem ggL_isLinked_X4_estimate : GoodIn wsL_isLinked wsX4_estimate := goodIn_ca (goodIn_r _ [120, 121, 87, 88, 89, 17, 90, 91, 92, 24, 140, 141, 142, 143, 144, 145, 146, 147, 148, 149, 150, 151, 152, 153, 154, 155, 156, 157] (by decide +kernel) (by decide +kernel)) (goodIn_sub (fun _ h => List.mem_cons_of_mem _ (List.mem_append_right _ h)) (by decide +kernel))
set_option maxRecDepth 20000 in
theorem gL_isLinked_X4_estimate : GoodIn wsL_isLinked (wsV RL 62 RX4 yX4_estimate wsX4_estimate) := goodIn_app (goodIn_of _ (by decide +kernel)) ggL_isLinked_X4_estimate
set_option maxRecDepth 20000 in
theorem ggL_isLinked_X4_sum : GoodIn wsL_isLinked wsX4_sum := goodIn_ca (goodIn_r _ [125, 126, 87, 88, 89, 17, 90, 91, 92, 24, 140, 141, 142, 143, 144, 145, 146, 147, 148, 149, 150, 151, 152, 153, 154, 155, 156, 157] (by decide +kernel) (by decide +kernel)) (goodIn_sub (fun _ h => List.mem_cons_of_mem _ (List.mem_append_right _ h)) (by decide +kernel))
set_option maxRecDepth 20000 in
theorem gL_isLinked_X4_sum : GoodIn wsL_isLinked (wsV RL 65 RX4 yX4_sum wsX4_sum) := goodIn_app (goodIn_of _ (by decide +kernel)) ggL_isLinked_X4_sum
set_option maxRecDepth 20000 in
theorem ggL_isLinked_X4_weight : GoodIn wsL_isLinked wsX4_weight := goodIn_ca (goodIn_r _ [130, 131, 87, 88, 89, 17, 90, 91, 92, 24, 140, 141, 142, 143, 144, 145, 146, 147, 148, 149, 150, 151, 152, 153, 154, 155, 156, 157] (by decide +kernel) (by decide +kernel)) (goodIn_sub (fun _ h => List.mem_cons_of_mem _ (List.mem_append_right _ h)) (by decide +kernel))
set_option maxRecDepth 20000 in
theorem gL_isLinked_X4_weight : GoodIn wsL_isLinked (wsV RL 68 RX4 yX4_weight wsX4_weight) := goodIn_app (goodIn_of _ (by decide +kernel)) ggL_isLinked_X4_weight
set_option maxRecDepth 20000 in
theorem ggL_isLinked_X4_groups : GoodIn wsL_isLinked wsX4_groups := goodIn_r _ [135, 20, 21, 22, 17, 23, 19, 24, 25, 26, 27, 28, 29, 30, 31, 32, 33, 34, 35, 36, 37, 38, 39, 40, 41, 42, 43, 44, 45, 46, 47, 48, 49, 50, 51, 52, 53, 54, 55, 56, 57, 58, 136, 137, 138, 139, 101, 102, 103, 140, 141, 142, 143, 144, 145, 146, 147, 148, 149, 150, 151, 152, 153, 154, 155, 156, 157, 158] (by decide +kernel) (by decide +kernel)
set_option maxRecDepth 20000 in
theorem gL_isLinked_X4_groups : GoodIn wsL_isLinked (wsV RL 71 RX4 yX4_groups wsX4_groups) := goodIn_app (goodIn_of _ (by decide +kernel)) ggL_isLinked_X4_groups
theorem dL_isLinked_0 : decode cL_isLinked 0 = .ok (.aload_n 1, 1) := by decide +kernel
theorem dL_isLinked_1 : decode cL_isLinked 1 = .ok (.aload_n 2, 1) := by decide +kernel
theorem dL_isLinked_2 : decode cL_isLinked 2 = .ok (.invokestatic 34, 3) := by decide +kernel
theorem dL_isLinked_5 : decode cL_isLinked 5 = .ok (.istore_n 3, 1) := by decide +kernel
theorem dL_isLinked_6 : decode cL_isLinked 6 = .ok (.iconst 0, 1) := by decide +kernel
theorem dL_isLinked_7 : decode cL_isLinked 7 = .ok (.istore 4, 2) := by decide +kernel
theorem dL_isLinked_9 : decode cL_isLinked 9 = .ok (.aload_n 0, 1) := by decide +kernel
theorem dL_isLinked_10 : decode cL_isLinked 10 = .ok (.invokevirtual 38, 3) := by decide +kernel
theorem dL_isLinked_13 : decode cL_isLinked 13 = .ok (.iload_n 3, 1) := by decide +kernel
theorem dL_isLinked_14 : decode cL_isLinked 14 = .ok (.invokestatic 23, 3) := by decide +kernel
theorem dL_isLinked_17 : decode cL_isLinked 17 = .ok (.if_icmp .ne 18, 3) := by decide +kernel
theorem dL_isLinked_20 : decode cL_isLinked 20 = .ok (.aload_n 0, 1) := by decide +kernel
theorem dL_isLinked_21 : decode cL_isLinked 21 = .ok (.invokevirtual 43, 3) := by decide +kernel
theorem dL_isLinked_24 : decode cL_isLinked 24 = .ok (.aload_n 1, 1) := by decide +kernel
theorem dL_isLinked_25 : decode cL_isLinked 25 = .ok (.bipush 40, 2) := by decide +kernel
theorem dL_isLinked_27 : decode cL_isLinked 27 = .ok (.iaload, 1) := by decide +kernel
theorem dL_isLinked_28 : decode cL_isLinked 28 = .ok (.if_icmp .ne 7, 3) := by decide +kernel
theorem dL_isLinked_31 : decode cL_isLinked 31 = .ok (.iconst 1, 1) := by decide +kernel
theorem dL_isLinked_32 : decode cL_isLinked 32 = .ok (.goto 4, 3) := by decide +kernel
theorem dL_isLinked_35 : decode cL_isLinked 35 = .ok (.iconst 0, 1) := by decide +kernel
theorem dL_isLinked_36 : decode cL_isLinked 36 = .ok (.istore 5, 2) := by decide +kernel
theorem dL_isLinked_38 : decode cL_isLinked 38 = .ok (.iconst 0, 1) := by decide +kernel
theorem dL_isLinked_39 : decode cL_isLinked 39 = .ok (.istore 6, 2) := by decide +kernel
theorem dL_isLinked_41 : decode cL_isLinked 41 = .ok (.iload 6, 2) := by decide +kernel
theorem dL_isLinked_43 : decode cL_isLinked 43 = .ok (.aload_n 1, 1) := by decide +kernel
theorem dL_isLinked_44 : decode cL_isLinked 44 = .ok (.bipush 40, 2) := by decide +kernel
theorem dL_isLinked_46 : decode cL_isLinked 46 = .ok (.iaload, 1) := by decide +kernel
theorem dL_isLinked_47 : decode cL_isLinked 47 = .ok (.if_icmp .ge 312, 3) := by decide +kernel
theorem dL_isLinked_50 : decode cL_isLinked 50 = .ok (.iload 5, 2) := by decide +kernel
theorem dL_isLinked_52 : decode cL_isLinked 52 = .ok (.ifCond .eq 307, 3) := by decide +kernel
theorem dL_isLinked_55 : decode cL_isLinked 55 = .ok (.aload_n 1, 1) := by decide +kernel
theorem dL_isLinked_56 : decode cL_isLinked 56 = .ok (.aload_n 2, 1) := by decide +kernel
theorem dL_isLinked_57 : decode cL_isLinked 57 = .ok (.iload 6, 2) := by decide +kernel
theorem dL_isLinked_59 : decode cL_isLinked 59 = .ok (.invokestatic 19, 3) := by decide +kernel
theorem dL_isLinked_62 : decode cL_isLinked 62 = .ok (.istore 7, 2) := by decide +kernel
theorem dL_isLinked_64 : decode cL_isLinked 64 = .ok (.iconst (-1), 1) := by decide +kernel
theorem dL_isLinked_65 : decode cL_isLinked 65 = .ok (.istore 8, 2) := by decide +kernel
theorem dL_isLinked_67 : decode cL_isLinked 67 = .ok (.aload_n 1, 1) := by decide +kernel
theorem dL_isLinked_68 : decode cL_isLinked 68 = .ok (.bipush 8, 2) := by decide +kernel
theorem dL_isLinked_70 : decode cL_isLinked 70 = .ok (.iload 6, 2) := by decide +kernel
theorem dL_isLinked_72 : decode cL_isLinked 72 = .ok (.imul, 1) := by decide +kernel
theorem dL_isLinked_73 : decode cL_isLinked 73 = .ok (.iconst 2, 1) := by decide +kernel
theorem dL_isLinked_74 : decode cL_isLinked 74 = .ok (.iadd, 1) := by decide +kernel
theorem dL_isLinked_75 : decode cL_isLinked 75 = .ok (.iaload, 1) := by decide +kernel
theorem dL_isLinked_76 : decode cL_isLinked 76 = .ok (.iconst 1, 1) := by decide +kernel
theorem dL_isLinked_77 : decode cL_isLinked 77 = .ok (.if_icmp .ne 7, 3) := by decide +kernel
theorem dL_isLinked_80 : decode cL_isLinked 80 = .ok (.iconst 0, 1) := by decide +kernel
theorem dL_isLinked_81 : decode cL_isLinked 81 = .ok (.goto 9, 3) := by decide +kernel
theorem dL_isLinked_84 : decode cL_isLinked 84 = .ok (.iload_n 3, 1) := by decide +kernel
theorem dL_isLinked_85 : decode cL_isLinked 85 = .ok (.iload 6, 2) := by decide +kernel
theorem dL_isLinked_87 : decode cL_isLinked 87 = .ok (.invokestatic 31, 3) := by decide +kernel
theorem dL_isLinked_90 : decode cL_isLinked 90 = .ok (.istore 9, 2) := by decide +kernel
theorem dL_isLinked_92 : decode cL_isLinked 92 = .ok (.iload 4, 2) := by decide +kernel
theorem dL_isLinked_94 : decode cL_isLinked 94 = .ok (.aload_n 1, 1) := by decide +kernel
theorem dL_isLinked_95 : decode cL_isLinked 95 = .ok (.bipush 8, 2) := by decide +kernel
theorem dL_isLinked_97 : decode cL_isLinked 97 = .ok (.iload 6, 2) := by decide +kernel
theorem dL_isLinked_99 : decode cL_isLinked 99 = .ok (.imul, 1) := by decide +kernel
theorem dL_isLinked_100 : decode cL_isLinked 100 = .ok (.iconst 2, 1) := by decide +kernel
theorem dL_isLinked_101 : decode cL_isLinked 101 = .ok (.iadd, 1) := by decide +kernel
theorem dL_isLinked_102 : decode cL_isLinked 102 = .ok (.iaload, 1) := by decide +kernel
theorem dL_isLinked_103 : decode cL_isLinked 103 = .ok (.ifCond .ne 17, 3) := by decide +kernel
theorem dL_isLinked_106 : decode cL_isLinked 106 = .ok (.iload 9, 2) := by decide +kernel
theorem dL_isLinked_108 : decode cL_isLinked 108 = .ok (.iconst 1, 1) := by decide +kernel
theorem dL_isLinked_109 : decode cL_isLinked 109 = .ok (.iload 6, 2) := by decide +kernel
theorem dL_isLinked_111 : decode cL_isLinked 111 = .ok (.ishl, 1) := by decide +kernel
theorem dL_isLinked_112 : decode cL_isLinked 112 = .ok (.irem, 1) := by decide +kernel
theorem dL_isLinked_113 : decode cL_isLinked 113 = .ok (.ifCond .ne 7, 3) := by decide +kernel
theorem dL_isLinked_116 : decode cL_isLinked 116 = .ok (.iconst 1, 1) := by decide +kernel
theorem dL_isLinked_117 : decode cL_isLinked 117 = .ok (.goto 4, 3) := by decide +kernel
theorem dL_isLinked_120 : decode cL_isLinked 120 = .ok (.iconst 0, 1) := by decide +kernel
theorem dL_isLinked_121 : decode cL_isLinked 121 = .ok (.iadd, 1) := by decide +kernel
theorem dL_isLinked_122 : decode cL_isLinked 122 = .ok (.istore 4, 2) := by decide +kernel
theorem dL_isLinked_124 : decode cL_isLinked 124 = .ok (.iconst 0, 1) := by decide +kernel
theorem dL_isLinked_125 : decode cL_isLinked 125 = .ok (.istore 10, 2) := by decide +kernel
theorem dL_isLinked_127 : decode cL_isLinked 127 = .ok (.iload 10, 2) := by decide +kernel
theorem dL_isLinked_129 : decode cL_isLinked 129 = .ok (.aload_n 1, 1) := by decide +kernel
theorem dL_isLinked_130 : decode cL_isLinked 130 = .ok (.bipush 40, 2) := by decide +kernel
theorem dL_isLinked_132 : decode cL_isLinked 132 = .ok (.iaload, 1) := by decide +kernel
theorem dL_isLinked_133 : decode cL_isLinked 133 = .ok (.if_icmp .ge 94, 3) := by decide +kernel
theorem dL_isLinked_136 : decode cL_isLinked 136 = .ok (.iload 9, 2) := by decide +kernel
theorem dL_isLinked_138 : decode cL_isLinked 138 = .ok (.iload 10, 2) := by decide +kernel
theorem dL_isLinked_140 : decode cL_isLinked 140 = .ok (.ishr, 1) := by decide +kernel
theorem dL_isLinked_141 : decode cL_isLinked 141 = .ok (.iconst 1, 1) := by decide +kernel
theorem dL_isLinked_142 : decode cL_isLinked 142 = .ok (.iand, 1) := by decide +kernel
theorem dL_isLinked_143 : decode cL_isLinked 143 = .ok (.iconst 1, 1) := by decide +kernel
theorem dL_isLinked_144 : decode cL_isLinked 144 = .ok (.if_icmp .ne 34, 3) := by decide +kernel
theorem dL_isLinked_147 : decode cL_isLinked 147 = .ok (.iload 8, 2) := by decide +kernel
theorem dL_isLinked_149 : decode cL_isLinked 149 = .ok (.ifCond .lt 24, 3) := by decide +kernel
theorem dL_isLinked_152 : decode cL_isLinked 152 = .ok (.aload_n 1, 1) := by decide +kernel
theorem dL_isLinked_153 : decode cL_isLinked 153 = .ok (.bipush 8, 2) := by decide +kernel
theorem dL_isLinked_155 : decode cL_isLinked 155 = .ok (.iload 10, 2) := by decide +kernel
theorem dL_isLinked_157 : decode cL_isLinked 157 = .ok (.imul, 1) := by decide +kernel
theorem dL_isLinked_158 : decode cL_isLinked 158 = .ok (.iconst 3, 1) := by decide +kernel
theorem dL_isLinked_159 : decode cL_isLinked 159 = .ok (.iadd, 1) := by decide +kernel
theorem dL_isLinked_160 : decode cL_isLinked 160 = .ok (.iaload, 1) := by decide +kernel
theorem dL_isLinked_161 : decode cL_isLinked 161 = .ok (.aload_n 1, 1) := by decide +kernel
theorem dL_isLinked_162 : decode cL_isLinked 162 = .ok (.bipush 8, 2) := by decide +kernel
theorem dL_isLinked_164 : decode cL_isLinked 164 = .ok (.iload 8, 2) := by decide +kernel
theorem dL_isLinked_166 : decode cL_isLinked 166 = .ok (.imul, 1) := by decide +kernel
theorem dL_isLinked_167 : decode cL_isLinked 167 = .ok (.iconst 3, 1) := by decide +kernel
theorem dL_isLinked_168 : decode cL_isLinked 168 = .ok (.iadd, 1) := by decide +kernel
theorem dL_isLinked_169 : decode cL_isLinked 169 = .ok (.iaload, 1) := by decide +kernel
theorem dL_isLinked_170 : decode cL_isLinked 170 = .ok (.if_icmp .le 8, 3) := by decide +kernel
theorem dL_isLinked_173 : decode cL_isLinked 173 = .ok (.iload 10, 2) := by decide +kernel
theorem dL_isLinked_175 : decode cL_isLinked 175 = .ok (.goto 5, 3) := by decide +kernel
theorem dL_isLinked_178 : decode cL_isLinked 178 = .ok (.iload 8, 2) := by decide +kernel
theorem dL_isLinked_180 : decode cL_isLinked 180 = .ok (.istore 8, 2) := by decide +kernel
theorem dL_isLinked_182 : decode cL_isLinked 182 = .ok (.iload 5, 2) := by decide +kernel
theorem dL_isLinked_184 : decode cL_isLinked 184 = .ok (.ifCond .eq 34, 3) := by decide +kernel
theorem dL_isLinked_187 : decode cL_isLinked 187 = .ok (.aload_n 0, 1) := by decide +kernel
theorem dL_isLinked_188 : decode cL_isLinked 188 = .ok (.iload 6, 2) := by decide +kernel
theorem dL_isLinked_190 : decode cL_isLinked 190 = .ok (.iload 10, 2) := by decide +kernel
theorem dL_isLinked_192 : decode cL_isLinked 192 = .ok (.invokevirtual 46, 3) := by decide +kernel
theorem dL_isLinked_195 : decode cL_isLinked 195 = .ok (.iload 7, 2) := by decide +kernel
theorem dL_isLinked_197 : decode cL_isLinked 197 = .ok (.iload 10, 2) := by decide +kernel
theorem dL_isLinked_199 : decode cL_isLinked 199 = .ok (.ishr, 1) := by decide +kernel
theorem dL_isLinked_200 : decode cL_isLinked 200 = .ok (.iconst 1, 1) := by decide +kernel
theorem dL_isLinked_201 : decode cL_isLinked 201 = .ok (.iand, 1) := by decide +kernel
theorem dL_isLinked_202 : decode cL_isLinked 202 = .ok (.iconst 1, 1) := by decide +kernel
theorem dL_isLinked_203 : decode cL_isLinked 203 = .ok (.if_icmp .ne 7, 3) := by decide +kernel
theorem dL_isLinked_206 : decode cL_isLinked 206 = .ok (.iconst 1, 1) := by decide +kernel
theorem dL_isLinked_207 : decode cL_isLinked 207 = .ok (.goto 4, 3) := by decide +kernel
theorem dL_isLinked_210 : decode cL_isLinked 210 = .ok (.iconst 0, 1) := by decide +kernel
theorem dL_isLinked_211 : decode cL_isLinked 211 = .ok (.if_icmp .ne 7, 3) := by decide +kernel
theorem dL_isLinked_214 : decode cL_isLinked 214 = .ok (.iconst 1, 1) := by decide +kernel
theorem dL_isLinked_215 : decode cL_isLinked 215 = .ok (.goto 4, 3) := by decide +kernel
theorem dL_isLinked_218 : decode cL_isLinked 218 = .ok (.iconst 0, 1) := by decide +kernel
theorem dL_isLinked_219 : decode cL_isLinked 219 = .ok (.istore 5, 2) := by decide +kernel
theorem dL_isLinked_221 : decode cL_isLinked 221 = .ok (.iinc 10 1, 3) := by decide +kernel
theorem dL_isLinked_224 : decode cL_isLinked 224 = .ok (.goto (-97), 3) := by decide +kernel
theorem dL_isLinked_227 : decode cL_isLinked 227 = .ok (.iload 5, 2) := by decide +kernel
theorem dL_isLinked_229 : decode cL_isLinked 229 = .ok (.ifCond .eq 121, 3) := by decide +kernel
theorem dL_isLinked_232 : decode cL_isLinked 232 = .ok (.aload_n 0, 1) := by decide +kernel
theorem dL_isLinked_233 : decode cL_isLinked 233 = .ok (.iload 6, 2) := by decide +kernel
theorem dL_isLinked_235 : decode cL_isLinked 235 = .ok (.invokevirtual 50, 3) := by decide +kernel
theorem dL_isLinked_238 : decode cL_isLinked 238 = .ok (.iload 7, 2) := by decide +kernel
theorem dL_isLinked_240 : decode cL_isLinked 240 = .ok (.invokestatic 23, 3) := by decide +kernel
theorem dL_isLinked_243 : decode cL_isLinked 243 = .ok (.if_icmp .ne 107, 3) := by decide +kernel
theorem dL_isLinked_246 : decode cL_isLinked 246 = .ok (.aload_n 0, 1) := by decide +kernel
theorem dL_isLinked_247 : decode cL_isLinked 247 = .ok (.iload 6, 2) := by decide +kernel
theorem dL_isLinked_249 : decode cL_isLinked 249 = .ok (.invokevirtual 53, 3) := by decide +kernel
theorem dL_isLinked_252 : decode cL_isLinked 252 = .ok (.iload 8, 2) := by decide +kernel
theorem dL_isLinked_254 : decode cL_isLinked 254 = .ok (.if_icmp .ne 96, 3) := by decide +kernel
theorem dL_isLinked_257 : decode cL_isLinked 257 = .ok (.aload_n 0, 1) := by decide +kernel
theorem dL_isLinked_258 : decode cL_isLinked 258 = .ok (.iload 6, 2) := by decide +kernel
theorem dL_isLinked_260 : decode cL_isLinked 260 = .ok (.invokevirtual 56, 3) := by decide +kernel
theorem dL_isLinked_263 : decode cL_isLinked 263 = .ok (.aload_n 1, 1) := by decide +kernel
theorem dL_isLinked_264 : decode cL_isLinked 264 = .ok (.bipush 8, 2) := by decide +kernel
theorem dL_isLinked_266 : decode cL_isLinked 266 = .ok (.iload 6, 2) := by decide +kernel
theorem dL_isLinked_268 : decode cL_isLinked 268 = .ok (.imul, 1) := by decide +kernel
theorem dL_isLinked_269 : decode cL_isLinked 269 = .ok (.iaload, 1) := by decide +kernel
theorem dL_isLinked_270 : decode cL_isLinked 270 = .ok (.if_icmp .ne 80, 3) := by decide +kernel
theorem dL_isLinked_273 : decode cL_isLinked 273 = .ok (.aload_n 0, 1) := by decide +kernel
theorem dL_isLinked_274 : decode cL_isLinked 274 = .ok (.iload 6, 2) := by decide +kernel
theorem dL_isLinked_276 : decode cL_isLinked 276 = .ok (.invokevirtual 59, 3) := by decide +kernel
theorem dL_isLinked_279 : decode cL_isLinked 279 = .ok (.aload_n 1, 1) := by decide +kernel
theorem dL_isLinked_280 : decode cL_isLinked 280 = .ok (.bipush 8, 2) := by decide +kernel
theorem dL_isLinked_282 : decode cL_isLinked 282 = .ok (.iload 6, 2) := by decide +kernel
theorem dL_isLinked_284 : decode cL_isLinked 284 = .ok (.imul, 1) := by decide +kernel
theorem dL_isLinked_285 : decode cL_isLinked 285 = .ok (.iconst 1, 1) := by decide +kernel
theorem dL_isLinked_286 : decode cL_isLinked 286 = .ok (.iadd, 1) := by decide +kernel
theorem dL_isLinked_287 : decode cL_isLinked 287 = .ok (.iaload, 1) := by decide +kernel
theorem dL_isLinked_288 : decode cL_isLinked 288 = .ok (.if_icmp .ne 62, 3) := by decide +kernel
theorem dL_isLinked_291 : decode cL_isLinked 291 = .ok (.aload_n 0, 1) := by decide +kernel
theorem dL_isLinked_292 : decode cL_isLinked 292 = .ok (.iload 6, 2) := by decide +kernel
theorem dL_isLinked_294 : decode cL_isLinked 294 = .ok (.invokevirtual 62, 3) := by decide +kernel
theorem dL_isLinked_297 : decode cL_isLinked 297 = .ok (.aload_n 1, 1) := by decide +kernel
theorem dL_isLinked_298 : decode cL_isLinked 298 = .ok (.bipush 8, 2) := by decide +kernel
theorem dL_isLinked_300 : decode cL_isLinked 300 = .ok (.iload 6, 2) := by decide +kernel
theorem dL_isLinked_302 : decode cL_isLinked 302 = .ok (.imul, 1) := by decide +kernel
theorem dL_isLinked_303 : decode cL_isLinked 303 = .ok (.iconst 4, 1) := by decide +kernel
theorem dL_isLinked_304 : decode cL_isLinked 304 = .ok (.iadd, 1) := by decide +kernel
theorem dL_isLinked_305 : decode cL_isLinked 305 = .ok (.iaload, 1) := by decide +kernel
theorem dL_isLinked_306 : decode cL_isLinked 306 = .ok (.if_icmp .ne 44, 3) := by decide +kernel
theorem dL_isLinked_309 : decode cL_isLinked 309 = .ok (.aload_n 0, 1) := by decide +kernel
theorem dL_isLinked_310 : decode cL_isLinked 310 = .ok (.iload 6, 2) := by decide +kernel
theorem dL_isLinked_312 : decode cL_isLinked 312 = .ok (.invokevirtual 65, 3) := by decide +kernel
theorem dL_isLinked_315 : decode cL_isLinked 315 = .ok (.aload_n 1, 1) := by decide +kernel
theorem dL_isLinked_316 : decode cL_isLinked 316 = .ok (.bipush 8, 2) := by decide +kernel
theorem dL_isLinked_318 : decode cL_isLinked 318 = .ok (.iload 6, 2) := by decide +kernel
theorem dL_isLinked_320 : decode cL_isLinked 320 = .ok (.imul, 1) := by decide +kernel
theorem dL_isLinked_321 : decode cL_isLinked 321 = .ok (.iconst 5, 1) := by decide +kernel
theorem dL_isLinked_322 : decode cL_isLinked 322 = .ok (.iadd, 1) := by decide +kernel
theorem dL_isLinked_323 : decode cL_isLinked 323 = .ok (.iaload, 1) := by decide +kernel
theorem dL_isLinked_324 : decode cL_isLinked 324 = .ok (.if_icmp .ne 26, 3) := by decide +kernel
theorem dL_isLinked_327 : decode cL_isLinked 327 = .ok (.aload_n 0, 1) := by decide +kernel
theorem dL_isLinked_328 : decode cL_isLinked 328 = .ok (.iload 6, 2) := by decide +kernel
theorem dL_isLinked_330 : decode cL_isLinked 330 = .ok (.invokevirtual 68, 3) := by decide +kernel
theorem dL_isLinked_333 : decode cL_isLinked 333 = .ok (.aload_n 1, 1) := by decide +kernel
theorem dL_isLinked_334 : decode cL_isLinked 334 = .ok (.bipush 8, 2) := by decide +kernel
theorem dL_isLinked_336 : decode cL_isLinked 336 = .ok (.iload 6, 2) := by decide +kernel
theorem dL_isLinked_338 : decode cL_isLinked 338 = .ok (.imul, 1) := by decide +kernel
theorem dL_isLinked_339 : decode cL_isLinked 339 = .ok (.bipush 6, 2) := by decide +kernel
theorem dL_isLinked_341 : decode cL_isLinked 341 = .ok (.iadd, 1) := by decide +kernel
theorem dL_isLinked_342 : decode cL_isLinked 342 = .ok (.iaload, 1) := by decide +kernel
theorem dL_isLinked_343 : decode cL_isLinked 343 = .ok (.if_icmp .ne 7, 3) := by decide +kernel
theorem dL_isLinked_346 : decode cL_isLinked 346 = .ok (.iconst 1, 1) := by decide +kernel
theorem dL_isLinked_347 : decode cL_isLinked 347 = .ok (.goto 4, 3) := by decide +kernel
theorem dL_isLinked_350 : decode cL_isLinked 350 = .ok (.iconst 0, 1) := by decide +kernel
theorem dL_isLinked_351 : decode cL_isLinked 351 = .ok (.istore 5, 2) := by decide +kernel
theorem dL_isLinked_353 : decode cL_isLinked 353 = .ok (.iinc 6 1, 3) := by decide +kernel
theorem dL_isLinked_356 : decode cL_isLinked 356 = .ok (.goto (-315), 3) := by decide +kernel
theorem dL_isLinked_359 : decode cL_isLinked 359 = .ok (.iload 5, 2) := by decide +kernel
theorem dL_isLinked_361 : decode cL_isLinked 361 = .ok (.ifCond .eq 16, 3) := by decide +kernel
theorem dL_isLinked_364 : decode cL_isLinked 364 = .ok (.aload_n 0, 1) := by decide +kernel
theorem dL_isLinked_365 : decode cL_isLinked 365 = .ok (.invokevirtual 71, 3) := by decide +kernel
theorem dL_isLinked_368 : decode cL_isLinked 368 = .ok (.iload 4, 2) := by decide +kernel
theorem dL_isLinked_370 : decode cL_isLinked 370 = .ok (.if_icmp .ne 7, 3) := by decide +kernel
theorem dL_isLinked_373 : decode cL_isLinked 373 = .ok (.iconst 1, 1) := by decide +kernel
theorem dL_isLinked_374 : decode cL_isLinked 374 = .ok (.goto 4, 3) := by decide +kernel
theorem dL_isLinked_377 : decode cL_isLinked 377 = .ok (.iconst 0, 1) := by decide +kernel
theorem dL_isLinked_378 : decode cL_isLinked 378 = .ok (.ireturn, 1) := by decide +kernel
set_option maxRecDepth 20000 in
theorem ggL_spare_X4_isSpare : GoodIn wsL_spare wsX4_isSpare := goodIn_ca (goodIn_ca (goodIn_r _ [6, 7, 8, 9, 10, 11, 12, 13, 5, 14, 15, 16, 17, 18, 19, 20, 21, 22, 23, 24, 25, 26, 27, 28, 29, 30, 31, 32, 33, 34, 35, 36, 37, 38, 39, 40, 41, 42, 43, 44, 45, 46, 47, 48, 49, 50, 51, 52, 53, 54, 55, 56, 57, 58, 59, 60, 61, 62, 63, 64, 65, 66, 67, 68, 69, 70, 71, 72, 73, 74, 75, 76, 77, 78, 79, 80, 81, 82, 83, 84, 85, 86, 87, 88, 89, 90, 91, 92, 93, 94, 95, 96, 97, 98, 99, 100, 101, 102, 103, 104, 105, 106, 107, 108, 109, 110, 111, 112, 113, 114, 115] (by decide +kernel) (by decide +kernel)) (goodIn_sub (fun _ h => List.mem_cons_of_mem _ (List.mem_append_left _ (List.mem_append_right _ h))) (by decide +kernel))) (goodIn_sub (fun _ h => List.mem_cons_of_mem _ (List.mem_append_right _ h)) (by decide +kernel))
set_option maxRecDepth 20000 in
theorem gL_spare_X4_isSpare : GoodIn wsL_spare (wsV RL 74 RX4 yX4_isSpare wsX4_isSpare) := goodIn_app (goodIn_of _ (by decide +kernel)) ggL_spare_X4_isSpare
theorem dL_spare_0 : decode cL_spare 0 = .ok (.aload_n 0, 1) := by decide +kernel
theorem dL_spare_1 : decode cL_spare 1 = .ok (.iload_n 1, 1) := by decide +kernel
theorem dL_spare_2 : decode cL_spare 2 = .ok (.iload_n 2, 1) := by decide +kernel
theorem dL_spare_3 : decode cL_spare 3 = .ok (.invokevirtual 74, 3) := by decide +kernel
theorem dL_spare_6 : decode cL_spare 6 = .ok (.ifCond .eq 7, 3) := by decide +kernel
theorem dL_spare_9 : decode cL_spare 9 = .ok (.iconst 1, 1) := by decide +kernel
theorem dL_spare_10 : decode cL_spare 10 = .ok (.goto 4, 3) := by decide +kernel
theorem dL_spare_13 : decode cL_spare 13 = .ok (.iconst 0, 1) := by decide +kernel
theorem dL_spare_14 : decode cL_spare 14 = .ok (.ireturn, 1) := by decide +kernel
theorem dL_spare_15 : decode cL_spare 15 = .ok (.astore_n 3, 1) := by decide +kernel
theorem dL_spare_16 : decode cL_spare 16 = .ok (.iconst (-1), 1) := by decide +kernel
theorem dL_spare_17 : decode cL_spare 17 = .ok (.ireturn, 1) := by decide +kernel
set_option maxRecDepth 20000 in
theorem ggL_isFigure_L_links : GoodIn wsL_isFigure wsL_links := goodIn_r _ [4, 5, 6, 3, 7, 8, 9, 10, 11, 12, 13] (by decide +kernel) (by decide +kernel)
set_option maxRecDepth 20000 in
theorem gL_isFigure_L_links : GoodIn wsL_isFigure (va_wsS RL 34 yL_links wsL_links) := goodIn_app (goodIn_of _ (by decide +kernel)) ggL_isFigure_L_links
set_option maxRecDepth 20000 in
theorem ggL_isFigure_L_rank : GoodIn wsL_isFigure wsL_rank := goodIn_r _ [16, 17, 18, 3, 19, 20, 21, 22] (by decide +kernel) (by decide +kernel)
set_option maxRecDepth 20000 in
theorem gL_isFigure_L_rank : GoodIn wsL_isFigure (va_wsS RL 79 yL_rank wsL_rank) := goodIn_app (goodIn_of _ (by decide +kernel)) ggL_isFigure_L_rank
set_option maxRecDepth 20000 in
theorem ggL_isFigure_L_up : GoodIn wsL_isFigure wsL_up := goodIn_r _ [25] (by decide +kernel) (by decide +kernel)
set_option maxRecDepth 20000 in
theorem gL_isFigure_L_up : GoodIn wsL_isFigure (va_wsS RL 82 yL_up wsL_up) := goodIn_app (goodIn_of _ (by decide +kernel)) ggL_isFigure_L_up
set_option maxRecDepth 20000 in
theorem ggL_isFigure_L_group : GoodIn wsL_isFigure wsL_group := goodIn_r _ [28] (by decide +kernel) (by decide +kernel)
set_option maxRecDepth 20000 in
theorem gL_isFigure_L_group : GoodIn wsL_isFigure (va_wsS RL 31 yL_group wsL_group) := goodIn_app (goodIn_of _ (by decide +kernel)) ggL_isFigure_L_group
set_option maxRecDepth 20000 in
theorem ggL_isFigure_X4_trees : GoodIn wsL_isFigure wsX4_trees := goodIn_r _ [33, 34, 35, 36, 37, 38, 32, 39, 40, 41, 42, 43, 44, 45, 46, 47, 48, 49, 50, 51, 52, 53, 54, 55, 56, 57, 58, 59, 60, 61, 62, 63, 64, 65, 66, 67, 68, 69, 70, 71, 72, 73, 74, 75, 76, 77, 78, 79, 80, 81, 82, 83, 84, 85, 86, 87, 88, 89, 90, 91, 92, 93, 94, 95, 96, 97, 98, 99, 100, 101, 102, 103, 104, 105, 106, 107, 108, 109, 110, 111, 204, 205, 206, 207, 208, 209, 210, 211, 212, 213, 214, 215, 216, 217, 218, 219, 220, 221, 222, 223] (by decide +kernel) (by decide +kernel)
set_option maxRecDepth 20000 in
theorem gL_isFigure_X4_trees : GoodIn wsL_isFigure (wsV RL 86 RX4 yX4_trees wsX4_trees) := goodIn_app (goodIn_of _ (by decide +kernel)) ggL_isFigure_X4_trees
set_option maxRecDepth 20000 in
theorem ggL_isFigure_L_trees : GoodIn wsL_isFigure wsL_trees := goodIn_r _ [114, 17, 18, 3, 19, 26, 27, 28] (by decide +kernel) (by decide +kernel)
set_option maxRecDepth 20000 in
theorem gL_isFigure_L_trees : GoodIn wsL_isFigure (va_wsS RL 90 yL_trees wsL_trees) := goodIn_app (goodIn_of _ (by decide +kernel)) ggL_isFigure_L_trees
set_option maxRecDepth 20000 in
theorem ggL_isFigure_X4_rank : GoodIn wsL_isFigure wsX4_rank := goodIn_r _ [118, 119, 35, 36, 37, 38, 32, 39, 40, 41, 42, 43, 44, 45, 46, 47, 48, 49, 50, 51, 52, 53, 54, 55, 56, 57, 58, 59, 60, 61, 62, 63, 64, 65, 66, 67, 68, 69, 70, 71, 72, 73, 74, 120, 121, 122, 123, 124, 125, 126, 127, 128, 129, 130, 131, 132, 133, 134, 135, 136, 137, 138, 139, 140, 141, 142, 143, 144, 145, 146, 147, 148, 149, 150, 151, 88, 89, 204, 205, 206, 207, 208, 209, 210, 211, 212, 213, 214, 215, 216, 217, 218, 219, 220, 221, 222, 224, 225, 226] (by decide +kernel) (by decide +kernel)
set_option maxRecDepth 20000 in
theorem gL_isFigure_X4_rank : GoodIn wsL_isFigure (wsV RL 93 RX4 yX4_rank wsX4_rank) := goodIn_app (goodIn_of _ (by decide +kernel)) ggL_isFigure_X4_rank
set_option maxRecDepth 20000 in
theorem ggL_isFigure_X4_rankByCounting : GoodIn wsL_isFigure wsX4_rankByCounting := goodIn_r _ [155, 156, 35, 36, 37, 38, 32, 39, 40, 41, 42, 43, 44, 45, 46, 47, 48, 49, 50, 51, 52, 53, 54, 55, 56, 57, 58, 59, 60, 61, 62, 63, 64, 65, 66, 67, 68, 69, 70, 71, 72, 73, 74, 157, 158, 159, 160, 161, 162, 163, 164, 165, 166, 167, 103, 85, 104, 105, 106, 107, 168, 169, 170, 171, 204, 205, 206, 207, 208, 209, 210, 211, 212, 213, 214, 215, 216, 217, 218, 219, 220, 221, 222, 227] (by decide +kernel) (by decide +kernel)
set_option maxRecDepth 20000 in
theorem gL_isFigure_X4_rankByCounting : GoodIn wsL_isFigure (wsV RL 95 RX4 yX4_rankByCounting wsX4_rankByCounting) := goodIn_app (goodIn_of _ (by decide +kernel)) ggL_isFigure_X4_rankByCounting
set_option maxRecDepth 20000 in
theorem ggL_isFigure_X4_isRigid : GoodIn wsL_isFigure wsX4_isRigid := goodIn_r _ [175, 119, 35, 36, 37, 38, 32, 39, 40, 41, 42, 43, 44, 45, 46, 47, 48, 49, 50, 51, 52, 53, 54, 55, 56, 57, 58, 59, 60, 61, 62, 63, 64, 65, 66, 67, 68, 69, 70, 71, 72, 73, 74, 75, 76, 77, 78, 176, 103, 85, 104, 105, 106, 107, 177, 178, 179, 180, 181, 182, 183, 120, 121, 122, 123, 124, 125, 126, 127, 128, 129, 130, 131, 132, 133, 134, 135, 136, 137, 138, 139, 140, 141, 142, 143, 144, 145, 146, 147, 148, 149, 150, 151, 88, 89, 204, 205, 206, 207, 208, 209, 210, 211, 212, 213, 214, 215, 216, 217, 218, 219, 220, 221, 222, 224, 225, 226] (by decide +kernel) (by decide +kernel)
set_option maxRecDepth 20000 in
theorem gL_isFigure_X4_isRigid : GoodIn wsL_isFigure (wsV RL 98 RX4 yX4_isRigid wsX4_isRigid) := goodIn_app (goodIn_of _ (by decide +kernel)) ggL_isFigure_X4_isRigid
set_option maxRecDepth 20000 in
theorem ggL_isFigure_L_ones : GoodIn wsL_isFigure wsL_ones := goodIn_r _ [19] (by decide +kernel) (by decide +kernel)
set_option maxRecDepth 20000 in
theorem gL_isFigure_L_ones : GoodIn wsL_isFigure (va_wsS RL 23 yL_ones wsL_ones) := goodIn_app (goodIn_of _ (by decide +kernel)) ggL_isFigure_L_ones
set_option maxRecDepth 20000 in
theorem ggL_isFigure_L_pair : GoodIn wsL_isFigure wsL_pair := goodIn_r _ [10] (by decide +kernel) (by decide +kernel)
set_option maxRecDepth 20000 in
theorem gL_isFigure_L_pair : GoodIn wsL_isFigure (va_wsS RL 9 yL_pair wsL_pair) := goodIn_app (goodIn_of _ (by decide +kernel)) ggL_isFigure_L_pair
set_option maxRecDepth 20000 in
theorem ggL_isFigure_L_spare : GoodIn wsL_isFigure wsL_spare := goodIn_ca (goodIn_ca (goodIn_r _ [186, 187, 188, 189, 190, 32, 191, 192, 193, 119, 35, 194, 195, 196, 197, 198, 199, 40, 50, 51, 52, 53, 54, 55, 56, 57, 42, 58, 59, 45, 60, 61, 62, 63, 64, 65, 66, 67, 68, 36, 37, 38, 39, 41, 43, 44, 46, 47, 48, 49, 69, 70, 71, 72, 73, 74, 120, 121, 122, 123, 124, 125, 126, 127, 128, 129, 130, 131, 132, 133, 134, 135, 136, 137, 138, 139, 140, 141, 142, 143, 144, 145, 146, 147, 148, 149, 150, 151, 88, 89, 200, 201, 202, 203, 204, 205, 206, 207, 208, 209, 210, 211, 212, 213, 214, 215, 216, 217, 218, 219, 220, 221, 222, 224, 225, 226] (by decide +kernel) (by decide +kernel)) (goodIn_sub (fun _ h => List.mem_cons_of_mem _ (List.mem_append_left _ (List.mem_append_right _ h))) (by decide +kernel))) (goodIn_sub (fun _ h => List.mem_cons_of_mem _ (List.mem_append_right _ h)) (by decide +kernel))
set_option maxRecDepth 20000 in
theorem gL_isFigure_L_spare : GoodIn wsL_isFigure (va_wsS RL 102 yL_spare wsL_spare) := goodIn_app (goodIn_of _ (by decide +kernel)) ggL_isFigure_L_spare
theorem dL_isFigure_0 : decode cL_isFigure 0 = .ok (.aload_n 1, 1) := by decide +kernel
theorem dL_isFigure_1 : decode cL_isFigure 1 = .ok (.aload_n 2, 1) := by decide +kernel
theorem dL_isFigure_2 : decode cL_isFigure 2 = .ok (.invokestatic 34, 3) := by decide +kernel
theorem dL_isFigure_5 : decode cL_isFigure 5 = .ok (.istore 4, 2) := by decide +kernel
theorem dL_isFigure_7 : decode cL_isFigure 7 = .ok (.iload 4, 2) := by decide +kernel
theorem dL_isFigure_9 : decode cL_isFigure 9 = .ok (.invokestatic 79, 3) := by decide +kernel
theorem dL_isFigure_12 : decode cL_isFigure 12 = .ok (.istore 5, 2) := by decide +kernel
theorem dL_isFigure_14 : decode cL_isFigure 14 = .ok (.aload_n 1, 1) := by decide +kernel
theorem dL_isFigure_15 : decode cL_isFigure 15 = .ok (.invokestatic 82, 3) := by decide +kernel
theorem dL_isFigure_18 : decode cL_isFigure 18 = .ok (.istore 6, 2) := by decide +kernel
theorem dL_isFigure_20 : decode cL_isFigure 20 = .ok (.iconst 0, 1) := by decide +kernel
theorem dL_isFigure_21 : decode cL_isFigure 21 = .ok (.istore 7, 2) := by decide +kernel
theorem dL_isFigure_23 : decode cL_isFigure 23 = .ok (.iload 7, 2) := by decide +kernel
theorem dL_isFigure_25 : decode cL_isFigure 25 = .ok (.iconst 5, 1) := by decide +kernel
theorem dL_isFigure_26 : decode cL_isFigure 26 = .ok (.if_icmp .ge 19, 3) := by decide +kernel
theorem dL_isFigure_29 : decode cL_isFigure 29 = .ok (.iload 6, 2) := by decide +kernel
theorem dL_isFigure_31 : decode cL_isFigure 31 = .ok (.iload 7, 2) := by decide +kernel
theorem dL_isFigure_33 : decode cL_isFigure 33 = .ok (.ishr, 1) := by decide +kernel
theorem dL_isFigure_34 : decode cL_isFigure 34 = .ok (.iconst 1, 1) := by decide +kernel
theorem dL_isFigure_35 : decode cL_isFigure 35 = .ok (.iand, 1) := by decide +kernel
theorem dL_isFigure_36 : decode cL_isFigure 36 = .ok (.ifCond .ne 9, 3) := by decide +kernel
theorem dL_isFigure_39 : decode cL_isFigure 39 = .ok (.iinc 7 1, 3) := by decide +kernel
theorem dL_isFigure_42 : decode cL_isFigure 42 = .ok (.goto (-19), 3) := by decide +kernel
theorem dL_isFigure_45 : decode cL_isFigure 45 = .ok (.iload 6, 2) := by decide +kernel
theorem dL_isFigure_47 : decode cL_isFigure 47 = .ok (.ifCond .eq 19, 3) := by decide +kernel
theorem dL_isFigure_50 : decode cL_isFigure 50 = .ok (.iload 4, 2) := by decide +kernel
theorem dL_isFigure_52 : decode cL_isFigure 52 = .ok (.iload 7, 2) := by decide +kernel
theorem dL_isFigure_54 : decode cL_isFigure 54 = .ok (.invokestatic 31, 3) := by decide +kernel
theorem dL_isFigure_57 : decode cL_isFigure 57 = .ok (.iload 6, 2) := by decide +kernel
theorem dL_isFigure_59 : decode cL_isFigure 59 = .ok (.if_icmp .ne 7, 3) := by decide +kernel
theorem dL_isFigure_62 : decode cL_isFigure 62 = .ok (.iconst 1, 1) := by decide +kernel
theorem dL_isFigure_63 : decode cL_isFigure 63 = .ok (.goto 4, 3) := by decide +kernel
theorem dL_isFigure_66 : decode cL_isFigure 66 = .ok (.iconst 0, 1) := by decide +kernel
theorem dL_isFigure_67 : decode cL_isFigure 67 = .ok (.istore 8, 2) := by decide +kernel
theorem dL_isFigure_69 : decode cL_isFigure 69 = .ok (.aload_n 0, 1) := by decide +kernel
theorem dL_isFigure_70 : decode cL_isFigure 70 = .ok (.invokevirtual 86, 3) := by decide +kernel
theorem dL_isFigure_73 : decode cL_isFigure 73 = .ok (.iload 8, 2) := by decide +kernel
theorem dL_isFigure_75 : decode cL_isFigure 75 = .ok (.ifCond .eq 13, 3) := by decide +kernel
theorem dL_isFigure_78 : decode cL_isFigure 78 = .ok (.iload 4, 2) := by decide +kernel
theorem dL_isFigure_80 : decode cL_isFigure 80 = .ok (.iload 6, 2) := by decide +kernel
theorem dL_isFigure_82 : decode cL_isFigure 82 = .ok (.invokestatic 90, 3) := by decide +kernel
theorem dL_isFigure_85 : decode cL_isFigure 85 = .ok (.goto 4, 3) := by decide +kernel
theorem dL_isFigure_88 : decode cL_isFigure 88 = .ok (.lconst 0, 1) := by decide +kernel
theorem dL_isFigure_89 : decode cL_isFigure 89 = .ok (.lcmp, 1) := by decide +kernel
theorem dL_isFigure_90 : decode cL_isFigure 90 = .ok (.ifCond .ne 65, 3) := by decide +kernel
theorem dL_isFigure_93 : decode cL_isFigure 93 = .ok (.aload_n 0, 1) := by decide +kernel
theorem dL_isFigure_94 : decode cL_isFigure 94 = .ok (.invokevirtual 93, 3) := by decide +kernel
theorem dL_isFigure_97 : decode cL_isFigure 97 = .ok (.iload 5, 2) := by decide +kernel
theorem dL_isFigure_99 : decode cL_isFigure 99 = .ok (.if_icmp .ne 56, 3) := by decide +kernel
theorem dL_isFigure_102 : decode cL_isFigure 102 = .ok (.aload_n 0, 1) := by decide +kernel
theorem dL_isFigure_103 : decode cL_isFigure 103 = .ok (.invokevirtual 95, 3) := by decide +kernel
theorem dL_isFigure_106 : decode cL_isFigure 106 = .ok (.iload 5, 2) := by decide +kernel
theorem dL_isFigure_108 : decode cL_isFigure 108 = .ok (.if_icmp .ne 47, 3) := by decide +kernel
theorem dL_isFigure_111 : decode cL_isFigure 111 = .ok (.aload_n 0, 1) := by decide +kernel
theorem dL_isFigure_112 : decode cL_isFigure 112 = .ok (.invokevirtual 98, 3) := by decide +kernel
theorem dL_isFigure_115 : decode cL_isFigure 115 = .ok (.iload 8, 2) := by decide +kernel
theorem dL_isFigure_117 : decode cL_isFigure 117 = .ok (.ifCond .eq 30, 3) := by decide +kernel
theorem dL_isFigure_120 : decode cL_isFigure 120 = .ok (.iload 6, 2) := by decide +kernel
theorem dL_isFigure_122 : decode cL_isFigure 122 = .ok (.invokestatic 23, 3) := by decide +kernel
theorem dL_isFigure_125 : decode cL_isFigure 125 = .ok (.iconst 1, 1) := by decide +kernel
theorem dL_isFigure_126 : decode cL_isFigure 126 = .ok (.if_icmp .le 21, 3) := by decide +kernel
theorem dL_isFigure_129 : decode cL_isFigure 129 = .ok (.iload 5, 2) := by decide +kernel
theorem dL_isFigure_131 : decode cL_isFigure 131 = .ok (.iconst 2, 1) := by decide +kernel
theorem dL_isFigure_132 : decode cL_isFigure 132 = .ok (.iload 6, 2) := by decide +kernel
theorem dL_isFigure_134 : decode cL_isFigure 134 = .ok (.invokestatic 23, 3) := by decide +kernel
theorem dL_isFigure_137 : decode cL_isFigure 137 = .ok (.imul, 1) := by decide +kernel
theorem dL_isFigure_138 : decode cL_isFigure 138 = .ok (.iconst 3, 1) := by decide +kernel
theorem dL_isFigure_139 : decode cL_isFigure 139 = .ok (.isub, 1) := by decide +kernel
theorem dL_isFigure_140 : decode cL_isFigure 140 = .ok (.if_icmp .ne 7, 3) := by decide +kernel
theorem dL_isFigure_143 : decode cL_isFigure 143 = .ok (.iconst 1, 1) := by decide +kernel
theorem dL_isFigure_144 : decode cL_isFigure 144 = .ok (.goto 4, 3) := by decide +kernel
theorem dL_isFigure_147 : decode cL_isFigure 147 = .ok (.iconst 0, 1) := by decide +kernel
theorem dL_isFigure_148 : decode cL_isFigure 148 = .ok (.if_icmp .ne 7, 3) := by decide +kernel
theorem dL_isFigure_151 : decode cL_isFigure 151 = .ok (.iconst 1, 1) := by decide +kernel
theorem dL_isFigure_152 : decode cL_isFigure 152 = .ok (.goto 4, 3) := by decide +kernel
theorem dL_isFigure_155 : decode cL_isFigure 155 = .ok (.iconst 0, 1) := by decide +kernel
theorem dL_isFigure_156 : decode cL_isFigure 156 = .ok (.istore 9, 2) := by decide +kernel
theorem dL_isFigure_158 : decode cL_isFigure 158 = .ok (.iload_n 3, 1) := by decide +kernel
theorem dL_isFigure_159 : decode cL_isFigure 159 = .ok (.aload_n 1, 1) := by decide +kernel
theorem dL_isFigure_160 : decode cL_isFigure 160 = .ok (.bipush 40, 2) := by decide +kernel
theorem dL_isFigure_162 : decode cL_isFigure 162 = .ok (.iaload, 1) := by decide +kernel
theorem dL_isFigure_163 : decode cL_isFigure 163 = .ok (.irem, 1) := by decide +kernel
theorem dL_isFigure_164 : decode cL_isFigure 164 = .ok (.istore 10, 2) := by decide +kernel
theorem dL_isFigure_166 : decode cL_isFigure 166 = .ok (.iload_n 3, 1) := by decide +kernel
theorem dL_isFigure_167 : decode cL_isFigure 167 = .ok (.iconst 5, 1) := by decide +kernel
theorem dL_isFigure_168 : decode cL_isFigure 168 = .ok (.idiv, 1) := by decide +kernel
theorem dL_isFigure_169 : decode cL_isFigure 169 = .ok (.aload_n 1, 1) := by decide +kernel
theorem dL_isFigure_170 : decode cL_isFigure 170 = .ok (.bipush 40, 2) := by decide +kernel
theorem dL_isFigure_172 : decode cL_isFigure 172 = .ok (.iaload, 1) := by decide +kernel
theorem dL_isFigure_173 : decode cL_isFigure 173 = .ok (.irem, 1) := by decide +kernel
theorem dL_isFigure_174 : decode cL_isFigure 174 = .ok (.istore 11, 2) := by decide +kernel
theorem dL_isFigure_176 : decode cL_isFigure 176 = .ok (.iload 10, 2) := by decide +kernel
theorem dL_isFigure_178 : decode cL_isFigure 178 = .ok (.iload 11, 2) := by decide +kernel
theorem dL_isFigure_180 : decode cL_isFigure 180 = .ok (.if_icmp .eq 23, 3) := by decide +kernel
theorem dL_isFigure_183 : decode cL_isFigure 183 = .ok (.iload 4, 2) := by decide +kernel
theorem dL_isFigure_185 : decode cL_isFigure 185 = .ok (.iload 10, 2) := by decide +kernel
theorem dL_isFigure_187 : decode cL_isFigure 187 = .ok (.iload 11, 2) := by decide +kernel
theorem dL_isFigure_189 : decode cL_isFigure 189 = .ok (.invokestatic 9, 3) := by decide +kernel
theorem dL_isFigure_192 : decode cL_isFigure 192 = .ok (.ishr, 1) := by decide +kernel
theorem dL_isFigure_193 : decode cL_isFigure 193 = .ok (.iconst 1, 1) := by decide +kernel
theorem dL_isFigure_194 : decode cL_isFigure 194 = .ok (.iand, 1) := by decide +kernel
theorem dL_isFigure_195 : decode cL_isFigure 195 = .ok (.iconst 1, 1) := by decide +kernel
theorem dL_isFigure_196 : decode cL_isFigure 196 = .ok (.if_icmp .ne 7, 3) := by decide +kernel
theorem dL_isFigure_199 : decode cL_isFigure 199 = .ok (.iconst 1, 1) := by decide +kernel
theorem dL_isFigure_200 : decode cL_isFigure 200 = .ok (.goto 4, 3) := by decide +kernel
theorem dL_isFigure_203 : decode cL_isFigure 203 = .ok (.iconst 0, 1) := by decide +kernel
theorem dL_isFigure_204 : decode cL_isFigure 204 = .ok (.istore 12, 2) := by decide +kernel
theorem dL_isFigure_206 : decode cL_isFigure 206 = .ok (.iload 9, 2) := by decide +kernel
theorem dL_isFigure_208 : decode cL_isFigure 208 = .ok (.ifCond .eq 54, 3) := by decide +kernel
theorem dL_isFigure_211 : decode cL_isFigure 211 = .ok (.aload_n 0, 1) := by decide +kernel
theorem dL_isFigure_212 : decode cL_isFigure 212 = .ok (.iload 10, 2) := by decide +kernel
theorem dL_isFigure_214 : decode cL_isFigure 214 = .ok (.iload 11, 2) := by decide +kernel
theorem dL_isFigure_216 : decode cL_isFigure 216 = .ok (.invokestatic 102, 3) := by decide +kernel
theorem dL_isFigure_219 : decode cL_isFigure 219 = .ok (.iload 12, 2) := by decide +kernel
theorem dL_isFigure_221 : decode cL_isFigure 221 = .ok (.ifCond .ne 7, 3) := by decide +kernel
theorem dL_isFigure_224 : decode cL_isFigure 224 = .ok (.iconst (-1), 1) := by decide +kernel
theorem dL_isFigure_225 : decode cL_isFigure 225 = .ok (.goto 30, 3) := by decide +kernel
theorem dL_isFigure_228 : decode cL_isFigure 228 = .ok (.iload 4, 2) := by decide +kernel
theorem dL_isFigure_230 : decode cL_isFigure 230 = .ok (.iconst 1, 1) := by decide +kernel
theorem dL_isFigure_231 : decode cL_isFigure 231 = .ok (.iload 10, 2) := by decide +kernel
theorem dL_isFigure_233 : decode cL_isFigure 233 = .ok (.iload 11, 2) := by decide +kernel
theorem dL_isFigure_235 : decode cL_isFigure 235 = .ok (.invokestatic 9, 3) := by decide +kernel
theorem dL_isFigure_238 : decode cL_isFigure 238 = .ok (.ishl, 1) := by decide +kernel
theorem dL_isFigure_239 : decode cL_isFigure 239 = .ok (.iconst (-1), 1) := by decide +kernel
theorem dL_isFigure_240 : decode cL_isFigure 240 = .ok (.ixor, 1) := by decide +kernel
theorem dL_isFigure_241 : decode cL_isFigure 241 = .ok (.iand, 1) := by decide +kernel
theorem dL_isFigure_242 : decode cL_isFigure 242 = .ok (.invokestatic 79, 3) := by decide +kernel
theorem dL_isFigure_245 : decode cL_isFigure 245 = .ok (.iload 5, 2) := by decide +kernel
theorem dL_isFigure_247 : decode cL_isFigure 247 = .ok (.if_icmp .ne 7, 3) := by decide +kernel
theorem dL_isFigure_250 : decode cL_isFigure 250 = .ok (.iconst 1, 1) := by decide +kernel
theorem dL_isFigure_251 : decode cL_isFigure 251 = .ok (.goto 4, 3) := by decide +kernel
theorem dL_isFigure_254 : decode cL_isFigure 254 = .ok (.iconst 0, 1) := by decide +kernel
theorem dL_isFigure_255 : decode cL_isFigure 255 = .ok (.if_icmp .ne 7, 3) := by decide +kernel
theorem dL_isFigure_258 : decode cL_isFigure 258 = .ok (.iconst 1, 1) := by decide +kernel
theorem dL_isFigure_259 : decode cL_isFigure 259 = .ok (.goto 4, 3) := by decide +kernel
theorem dL_isFigure_262 : decode cL_isFigure 262 = .ok (.iconst 0, 1) := by decide +kernel
theorem dL_isFigure_263 : decode cL_isFigure 263 = .ok (.ireturn, 1) := by decide +kernel
set_option maxRecDepth 20000 in
theorem ggL_error_L_heard : GoodIn wsL_error wsL_heard := goodIn_r _ [4, 5, 6, 3, 7, 8, 9, 10] (by decide +kernel) (by decide +kernel)
set_option maxRecDepth 20000 in
theorem gL_error_L_heard : GoodIn wsL_error (va_wsS RL 19 yL_heard wsL_heard) := goodIn_app (goodIn_of _ (by decide +kernel)) ggL_error_L_heard
set_option maxRecDepth 20000 in
theorem ggL_error_L_square : GoodIn wsL_error wsL_square := goodIn_r _ [10] (by decide +kernel) (by decide +kernel)
set_option maxRecDepth 20000 in
theorem gL_error_L_square : GoodIn wsL_error (va_wsS RL 15 yL_square wsL_square) := goodIn_app (goodIn_of _ (by decide +kernel)) ggL_error_L_square
theorem dL_error_0 : decode cL_error 0 = .ok (.iconst 0, 1) := by decide +kernel
theorem dL_error_1 : decode cL_error 1 = .ok (.istore_n 3, 1) := by decide +kernel
theorem dL_error_2 : decode cL_error 2 = .ok (.iconst 0, 1) := by decide +kernel
theorem dL_error_3 : decode cL_error 3 = .ok (.istore 4, 2) := by decide +kernel
theorem dL_error_5 : decode cL_error 5 = .ok (.iload 4, 2) := by decide +kernel
theorem dL_error_7 : decode cL_error 7 = .ok (.bipush 25, 2) := by decide +kernel
theorem dL_error_9 : decode cL_error 9 = .ok (.if_icmp .ge 107, 3) := by decide +kernel
theorem dL_error_12 : decode cL_error 12 = .ok (.iload 4, 2) := by decide +kernel
theorem dL_error_14 : decode cL_error 14 = .ok (.iconst 5, 1) := by decide +kernel
theorem dL_error_15 : decode cL_error 15 = .ok (.idiv, 1) := by decide +kernel
theorem dL_error_16 : decode cL_error 16 = .ok (.istore 5, 2) := by decide +kernel
theorem dL_error_18 : decode cL_error 18 = .ok (.iload 4, 2) := by decide +kernel
theorem dL_error_20 : decode cL_error 20 = .ok (.iconst 5, 1) := by decide +kernel
theorem dL_error_21 : decode cL_error 21 = .ok (.irem, 1) := by decide +kernel
theorem dL_error_22 : decode cL_error 22 = .ok (.istore 6, 2) := by decide +kernel
theorem dL_error_24 : decode cL_error 24 = .ok (.iload 5, 2) := by decide +kernel
theorem dL_error_26 : decode cL_error 26 = .ok (.iload 6, 2) := by decide +kernel
theorem dL_error_28 : decode cL_error 28 = .ok (.if_icmp .ge 82, 3) := by decide +kernel
theorem dL_error_31 : decode cL_error 31 = .ok (.iload 6, 2) := by decide +kernel
theorem dL_error_33 : decode cL_error 33 = .ok (.aload_n 0, 1) := by decide +kernel
theorem dL_error_34 : decode cL_error 34 = .ok (.bipush 40, 2) := by decide +kernel
theorem dL_error_36 : decode cL_error 36 = .ok (.iaload, 1) := by decide +kernel
theorem dL_error_37 : decode cL_error 37 = .ok (.if_icmp .ge 73, 3) := by decide +kernel
theorem dL_error_40 : decode cL_error 40 = .ok (.aload_n 2, 1) := by decide +kernel
theorem dL_error_41 : decode cL_error 41 = .ok (.iload 4, 2) := by decide +kernel
theorem dL_error_43 : decode cL_error 43 = .ok (.iaload, 1) := by decide +kernel
theorem dL_error_44 : decode cL_error 44 = .ok (.ifCond .le 66, 3) := by decide +kernel
theorem dL_error_47 : decode cL_error 47 = .ok (.aload_n 0, 1) := by decide +kernel
theorem dL_error_48 : decode cL_error 48 = .ok (.aload_n 1, 1) := by decide +kernel
theorem dL_error_49 : decode cL_error 49 = .ok (.iload 5, 2) := by decide +kernel
theorem dL_error_51 : decode cL_error 51 = .ok (.invokestatic 19, 3) := by decide +kernel
theorem dL_error_54 : decode cL_error 54 = .ok (.iload 6, 2) := by decide +kernel
theorem dL_error_56 : decode cL_error 56 = .ok (.ishr, 1) := by decide +kernel
theorem dL_error_57 : decode cL_error 57 = .ok (.iconst 1, 1) := by decide +kernel
theorem dL_error_58 : decode cL_error 58 = .ok (.iand, 1) := by decide +kernel
theorem dL_error_59 : decode cL_error 59 = .ok (.iconst 1, 1) := by decide +kernel
theorem dL_error_60 : decode cL_error 60 = .ok (.if_icmp .ne 50, 3) := by decide +kernel
theorem dL_error_63 : decode cL_error 63 = .ok (.iload_n 3, 1) := by decide +kernel
theorem dL_error_64 : decode cL_error 64 = .ok (.aload_n 0, 1) := by decide +kernel
theorem dL_error_65 : decode cL_error 65 = .ok (.iload 5, 2) := by decide +kernel
theorem dL_error_67 : decode cL_error 67 = .ok (.iload 6, 2) := by decide +kernel
theorem dL_error_69 : decode cL_error 69 = .ok (.invokestatic 15, 3) := by decide +kernel
theorem dL_error_72 : decode cL_error 72 = .ok (.aload_n 2, 1) := by decide +kernel
theorem dL_error_73 : decode cL_error 73 = .ok (.iload 4, 2) := by decide +kernel
theorem dL_error_75 : decode cL_error 75 = .ok (.iaload, 1) := by decide +kernel
theorem dL_error_76 : decode cL_error 76 = .ok (.if_icmp .le 19, 3) := by decide +kernel
theorem dL_error_79 : decode cL_error 79 = .ok (.aload_n 0, 1) := by decide +kernel
theorem dL_error_80 : decode cL_error 80 = .ok (.iload 5, 2) := by decide +kernel
theorem dL_error_82 : decode cL_error 82 = .ok (.iload 6, 2) := by decide +kernel
theorem dL_error_84 : decode cL_error 84 = .ok (.invokestatic 15, 3) := by decide +kernel
theorem dL_error_87 : decode cL_error 87 = .ok (.aload_n 2, 1) := by decide +kernel
theorem dL_error_88 : decode cL_error 88 = .ok (.iload 4, 2) := by decide +kernel
theorem dL_error_90 : decode cL_error 90 = .ok (.iaload, 1) := by decide +kernel
theorem dL_error_91 : decode cL_error 91 = .ok (.isub, 1) := by decide +kernel
theorem dL_error_92 : decode cL_error 92 = .ok (.goto 16, 3) := by decide +kernel
theorem dL_error_95 : decode cL_error 95 = .ok (.aload_n 2, 1) := by decide +kernel
theorem dL_error_96 : decode cL_error 96 = .ok (.iload 4, 2) := by decide +kernel
theorem dL_error_98 : decode cL_error 98 = .ok (.iaload, 1) := by decide +kernel
theorem dL_error_99 : decode cL_error 99 = .ok (.aload_n 0, 1) := by decide +kernel
theorem dL_error_100 : decode cL_error 100 = .ok (.iload 5, 2) := by decide +kernel
theorem dL_error_102 : decode cL_error 102 = .ok (.iload 6, 2) := by decide +kernel
theorem dL_error_104 : decode cL_error 104 = .ok (.invokestatic 15, 3) := by decide +kernel
theorem dL_error_107 : decode cL_error 107 = .ok (.isub, 1) := by decide +kernel
theorem dL_error_108 : decode cL_error 108 = .ok (.iadd, 1) := by decide +kernel
theorem dL_error_109 : decode cL_error 109 = .ok (.istore_n 3, 1) := by decide +kernel
theorem dL_error_110 : decode cL_error 110 = .ok (.iinc 4 1, 3) := by decide +kernel
theorem dL_error_113 : decode cL_error 113 = .ok (.goto (-108), 3) := by decide +kernel
theorem dL_error_116 : decode cL_error 116 = .ok (.iload_n 3, 1) := by decide +kernel
theorem dL_error_117 : decode cL_error 117 = .ok (.ireturn, 1) := by decide +kernel
set_option maxRecDepth 20000 in
theorem ggL_agreed_L_heard : GoodIn wsL_agreed wsL_heard := goodIn_r _ [5, 6, 7, 4, 8, 9, 10, 11] (by decide +kernel) (by decide +kernel)
set_option maxRecDepth 20000 in
theorem gL_agreed_L_heard : GoodIn wsL_agreed (va_wsS RL 19 yL_heard wsL_heard) := goodIn_app (goodIn_of _ (by decide +kernel)) ggL_agreed_L_heard
set_option maxRecDepth 20000 in
theorem ggL_agreed_L_ones : GoodIn wsL_agreed wsL_ones := goodIn_r _ [14] (by decide +kernel) (by decide +kernel)
set_option maxRecDepth 20000 in
theorem gL_agreed_L_ones : GoodIn wsL_agreed (va_wsS RL 23 yL_ones wsL_ones) := goodIn_app (goodIn_of _ (by decide +kernel)) ggL_agreed_L_ones
theorem dL_agreed_0 : decode cL_agreed 0 = .ok (.bipush 8, 2) := by decide +kernel
theorem dL_agreed_2 : decode cL_agreed 2 = .ok (.newarray .int, 2) := by decide +kernel
theorem dL_agreed_4 : decode cL_agreed 4 = .ok (.astore_n 2, 1) := by decide +kernel
theorem dL_agreed_5 : decode cL_agreed 5 = .ok (.aload_n 0, 1) := by decide +kernel
theorem dL_agreed_6 : decode cL_agreed 6 = .ok (.iconst 4, 1) := by decide +kernel
theorem dL_agreed_7 : decode cL_agreed 7 = .ok (.iaload, 1) := by decide +kernel
theorem dL_agreed_8 : decode cL_agreed 8 = .ok (.istore_n 3, 1) := by decide +kernel
theorem dL_agreed_9 : decode cL_agreed 9 = .ok (.aload_n 0, 1) := by decide +kernel
theorem dL_agreed_10 : decode cL_agreed 10 = .ok (.iconst 4, 1) := by decide +kernel
theorem dL_agreed_11 : decode cL_agreed 11 = .ok (.iaload, 1) := by decide +kernel
theorem dL_agreed_12 : decode cL_agreed 12 = .ok (.istore 4, 2) := by decide +kernel
theorem dL_agreed_14 : decode cL_agreed 14 = .ok (.iconst 0, 1) := by decide +kernel
theorem dL_agreed_15 : decode cL_agreed 15 = .ok (.istore 5, 2) := by decide +kernel
theorem dL_agreed_17 : decode cL_agreed 17 = .ok (.iload 5, 2) := by decide +kernel
theorem dL_agreed_19 : decode cL_agreed 19 = .ok (.aload_n 0, 1) := by decide +kernel
theorem dL_agreed_20 : decode cL_agreed 20 = .ok (.bipush 40, 2) := by decide +kernel
theorem dL_agreed_22 : decode cL_agreed 22 = .ok (.iaload, 1) := by decide +kernel
theorem dL_agreed_23 : decode cL_agreed 23 = .ok (.if_icmp .ge 22, 3) := by decide +kernel
theorem dL_agreed_26 : decode cL_agreed 26 = .ok (.aload_n 2, 1) := by decide +kernel
theorem dL_agreed_27 : decode cL_agreed 27 = .ok (.iload 5, 2) := by decide +kernel
theorem dL_agreed_29 : decode cL_agreed 29 = .ok (.aload_n 0, 1) := by decide +kernel
theorem dL_agreed_30 : decode cL_agreed 30 = .ok (.bipush 8, 2) := by decide +kernel
theorem dL_agreed_32 : decode cL_agreed 32 = .ok (.iload 5, 2) := by decide +kernel
theorem dL_agreed_34 : decode cL_agreed 34 = .ok (.imul, 1) := by decide +kernel
theorem dL_agreed_35 : decode cL_agreed 35 = .ok (.iconst 4, 1) := by decide +kernel
theorem dL_agreed_36 : decode cL_agreed 36 = .ok (.iadd, 1) := by decide +kernel
theorem dL_agreed_37 : decode cL_agreed 37 = .ok (.iaload, 1) := by decide +kernel
theorem dL_agreed_38 : decode cL_agreed 38 = .ok (.iastore, 1) := by decide +kernel
theorem dL_agreed_39 : decode cL_agreed 39 = .ok (.iinc 5 1, 3) := by decide +kernel
theorem dL_agreed_42 : decode cL_agreed 42 = .ok (.goto (-25), 3) := by decide +kernel
theorem dL_agreed_45 : decode cL_agreed 45 = .ok (.iconst 0, 1) := by decide +kernel
theorem dL_agreed_46 : decode cL_agreed 46 = .ok (.istore 5, 2) := by decide +kernel
theorem dL_agreed_48 : decode cL_agreed 48 = .ok (.iload 5, 2) := by decide +kernel
theorem dL_agreed_50 : decode cL_agreed 50 = .ok (.aload_n 0, 1) := by decide +kernel
theorem dL_agreed_51 : decode cL_agreed 51 = .ok (.bipush 40, 2) := by decide +kernel
theorem dL_agreed_53 : decode cL_agreed 53 = .ok (.iaload, 1) := by decide +kernel
theorem dL_agreed_54 : decode cL_agreed 54 = .ok (.if_icmp .ge 164, 3) := by decide +kernel
theorem dL_agreed_57 : decode cL_agreed 57 = .ok (.aload_n 0, 1) := by decide +kernel
theorem dL_agreed_58 : decode cL_agreed 58 = .ok (.aload_n 1, 1) := by decide +kernel
theorem dL_agreed_59 : decode cL_agreed 59 = .ok (.iload 5, 2) := by decide +kernel
theorem dL_agreed_61 : decode cL_agreed 61 = .ok (.invokestatic 19, 3) := by decide +kernel
theorem dL_agreed_64 : decode cL_agreed 64 = .ok (.istore 6, 2) := by decide +kernel
theorem dL_agreed_66 : decode cL_agreed 66 = .ok (.aload_n 2, 1) := by decide +kernel
theorem dL_agreed_67 : decode cL_agreed 67 = .ok (.iload 5, 2) := by decide +kernel
theorem dL_agreed_69 : decode cL_agreed 69 = .ok (.iaload, 1) := by decide +kernel
theorem dL_agreed_70 : decode cL_agreed 70 = .ok (.istore 7, 2) := by decide +kernel
theorem dL_agreed_72 : decode cL_agreed 72 = .ok (.iconst 0, 1) := by decide +kernel
theorem dL_agreed_73 : decode cL_agreed 73 = .ok (.istore 8, 2) := by decide +kernel
theorem dL_agreed_75 : decode cL_agreed 75 = .ok (.iload 8, 2) := by decide +kernel
theorem dL_agreed_77 : decode cL_agreed 77 = .ok (.aload_n 0, 1) := by decide +kernel
theorem dL_agreed_78 : decode cL_agreed 78 = .ok (.bipush 40, 2) := by decide +kernel
theorem dL_agreed_80 : decode cL_agreed 80 = .ok (.iaload, 1) := by decide +kernel
theorem dL_agreed_81 : decode cL_agreed 81 = .ok (.if_icmp .ge 81, 3) := by decide +kernel
theorem dL_agreed_84 : decode cL_agreed 84 = .ok (.iload 6, 2) := by decide +kernel
theorem dL_agreed_86 : decode cL_agreed 86 = .ok (.invokestatic 23, 3) := by decide +kernel
theorem dL_agreed_89 : decode cL_agreed 89 = .ok (.aload_n 0, 1) := by decide +kernel
theorem dL_agreed_90 : decode cL_agreed 90 = .ok (.aload_n 1, 1) := by decide +kernel
theorem dL_agreed_91 : decode cL_agreed 91 = .ok (.iload 8, 2) := by decide +kernel
theorem dL_agreed_93 : decode cL_agreed 93 = .ok (.invokestatic 19, 3) := by decide +kernel
theorem dL_agreed_96 : decode cL_agreed 96 = .ok (.invokestatic 23, 3) := by decide +kernel
theorem dL_agreed_99 : decode cL_agreed 99 = .ok (.if_icmp .le 11, 3) := by decide +kernel
theorem dL_agreed_102 : decode cL_agreed 102 = .ok (.iload 6, 2) := by decide +kernel
theorem dL_agreed_104 : decode cL_agreed 104 = .ok (.invokestatic 23, 3) := by decide +kernel
theorem dL_agreed_107 : decode cL_agreed 107 = .ok (.goto 13, 3) := by decide +kernel
theorem dL_agreed_110 : decode cL_agreed 110 = .ok (.aload_n 0, 1) := by decide +kernel
theorem dL_agreed_111 : decode cL_agreed 111 = .ok (.aload_n 1, 1) := by decide +kernel
theorem dL_agreed_112 : decode cL_agreed 112 = .ok (.iload 8, 2) := by decide +kernel
theorem dL_agreed_114 : decode cL_agreed 114 = .ok (.invokestatic 19, 3) := by decide +kernel
theorem dL_agreed_117 : decode cL_agreed 117 = .ok (.invokestatic 23, 3) := by decide +kernel
theorem dL_agreed_120 : decode cL_agreed 120 = .ok (.istore 9, 2) := by decide +kernel
theorem dL_agreed_122 : decode cL_agreed 122 = .ok (.iload 7, 2) := by decide +kernel
theorem dL_agreed_124 : decode cL_agreed 124 = .ok (.iload 6, 2) := by decide +kernel
theorem dL_agreed_126 : decode cL_agreed 126 = .ok (.iload 8, 2) := by decide +kernel
theorem dL_agreed_128 : decode cL_agreed 128 = .ok (.ishr, 1) := by decide +kernel
theorem dL_agreed_129 : decode cL_agreed 129 = .ok (.iconst 1, 1) := by decide +kernel
theorem dL_agreed_130 : decode cL_agreed 130 = .ok (.iand, 1) := by decide +kernel
theorem dL_agreed_131 : decode cL_agreed 131 = .ok (.iconst 1, 1) := by decide +kernel
theorem dL_agreed_132 : decode cL_agreed 132 = .ok (.if_icmp .ne 20, 3) := by decide +kernel
theorem dL_agreed_135 : decode cL_agreed 135 = .ok (.aload_n 2, 1) := by decide +kernel
theorem dL_agreed_136 : decode cL_agreed 136 = .ok (.iload 8, 2) := by decide +kernel
theorem dL_agreed_138 : decode cL_agreed 138 = .ok (.iaload, 1) := by decide +kernel
theorem dL_agreed_139 : decode cL_agreed 139 = .ok (.aload_n 2, 1) := by decide +kernel
theorem dL_agreed_140 : decode cL_agreed 140 = .ok (.iload 5, 2) := by decide +kernel
theorem dL_agreed_142 : decode cL_agreed 142 = .ok (.iaload, 1) := by decide +kernel
theorem dL_agreed_143 : decode cL_agreed 143 = .ok (.isub, 1) := by decide +kernel
theorem dL_agreed_144 : decode cL_agreed 144 = .ok (.iload 9, 2) := by decide +kernel
theorem dL_agreed_146 : decode cL_agreed 146 = .ok (.iconst 1, 1) := by decide +kernel
theorem dL_agreed_147 : decode cL_agreed 147 = .ok (.iadd, 1) := by decide +kernel
theorem dL_agreed_148 : decode cL_agreed 148 = .ok (.idiv, 1) := by decide +kernel
theorem dL_agreed_149 : decode cL_agreed 149 = .ok (.goto 4, 3) := by decide +kernel
theorem dL_agreed_152 : decode cL_agreed 152 = .ok (.iconst 0, 1) := by decide +kernel
theorem dL_agreed_153 : decode cL_agreed 153 = .ok (.iadd, 1) := by decide +kernel
theorem dL_agreed_154 : decode cL_agreed 154 = .ok (.istore 7, 2) := by decide +kernel
theorem dL_agreed_156 : decode cL_agreed 156 = .ok (.iinc 8 1, 3) := by decide +kernel
theorem dL_agreed_159 : decode cL_agreed 159 = .ok (.goto (-84), 3) := by decide +kernel
theorem dL_agreed_162 : decode cL_agreed 162 = .ok (.aload_n 0, 1) := by decide +kernel
theorem dL_agreed_163 : decode cL_agreed 163 = .ok (.bipush 8, 2) := by decide +kernel
theorem dL_agreed_165 : decode cL_agreed 165 = .ok (.iload 5, 2) := by decide +kernel
theorem dL_agreed_167 : decode cL_agreed 167 = .ok (.imul, 1) := by decide +kernel
theorem dL_agreed_168 : decode cL_agreed 168 = .ok (.iconst 4, 1) := by decide +kernel
theorem dL_agreed_169 : decode cL_agreed 169 = .ok (.iadd, 1) := by decide +kernel
theorem dL_agreed_170 : decode cL_agreed 170 = .ok (.iload 7, 2) := by decide +kernel
theorem dL_agreed_172 : decode cL_agreed 172 = .ok (.iastore, 1) := by decide +kernel
theorem dL_agreed_173 : decode cL_agreed 173 = .ok (.iload 5, 2) := by decide +kernel
theorem dL_agreed_175 : decode cL_agreed 175 = .ok (.ifCond .eq 9, 3) := by decide +kernel
theorem dL_agreed_178 : decode cL_agreed 178 = .ok (.iload 7, 2) := by decide +kernel
theorem dL_agreed_180 : decode cL_agreed 180 = .ok (.iload_n 3, 1) := by decide +kernel
theorem dL_agreed_181 : decode cL_agreed 181 = .ok (.if_icmp .ge 8, 3) := by decide +kernel
theorem dL_agreed_184 : decode cL_agreed 184 = .ok (.iload 7, 2) := by decide +kernel
theorem dL_agreed_186 : decode cL_agreed 186 = .ok (.goto 4, 3) := by decide +kernel
theorem dL_agreed_189 : decode cL_agreed 189 = .ok (.iload_n 3, 1) := by decide +kernel
theorem dL_agreed_190 : decode cL_agreed 190 = .ok (.istore_n 3, 1) := by decide +kernel
theorem dL_agreed_191 : decode cL_agreed 191 = .ok (.iload 5, 2) := by decide +kernel
theorem dL_agreed_193 : decode cL_agreed 193 = .ok (.ifCond .eq 10, 3) := by decide +kernel
theorem dL_agreed_196 : decode cL_agreed 196 = .ok (.iload 7, 2) := by decide +kernel
theorem dL_agreed_198 : decode cL_agreed 198 = .ok (.iload 4, 2) := by decide +kernel
theorem dL_agreed_200 : decode cL_agreed 200 = .ok (.if_icmp .le 8, 3) := by decide +kernel
theorem dL_agreed_203 : decode cL_agreed 203 = .ok (.iload 7, 2) := by decide +kernel
theorem dL_agreed_205 : decode cL_agreed 205 = .ok (.goto 5, 3) := by decide +kernel
theorem dL_agreed_208 : decode cL_agreed 208 = .ok (.iload 4, 2) := by decide +kernel
theorem dL_agreed_210 : decode cL_agreed 210 = .ok (.istore 4, 2) := by decide +kernel
theorem dL_agreed_212 : decode cL_agreed 212 = .ok (.iinc 5 1, 3) := by decide +kernel
theorem dL_agreed_215 : decode cL_agreed 215 = .ok (.goto (-167), 3) := by decide +kernel
theorem dL_agreed_218 : decode cL_agreed 218 = .ok (.iload 4, 2) := by decide +kernel
theorem dL_agreed_220 : decode cL_agreed 220 = .ok (.iload_n 3, 1) := by decide +kernel
theorem dL_agreed_221 : decode cL_agreed 221 = .ok (.isub, 1) := by decide +kernel
theorem dL_agreed_222 : decode cL_agreed 222 = .ok (.ireturn, 1) := by decide +kernel
set_option maxRecDepth 20000 in
theorem ggL_spread_L_heard : GoodIn wsL_spread wsL_heard := goodIn_r _ [5, 6, 7, 4, 8, 9, 10, 11] (by decide +kernel) (by decide +kernel)
set_option maxRecDepth 20000 in
theorem gL_spread_L_heard : GoodIn wsL_spread (va_wsS RL 19 yL_heard wsL_heard) := goodIn_app (goodIn_of _ (by decide +kernel)) ggL_spread_L_heard
theorem dL_spread_0 : decode cL_spread 0 = .ok (.bipush 8, 2) := by decide +kernel
theorem dL_spread_2 : decode cL_spread 2 = .ok (.newarray .int, 2) := by decide +kernel
theorem dL_spread_4 : decode cL_spread 4 = .ok (.astore_n 2, 1) := by decide +kernel
theorem dL_spread_5 : decode cL_spread 5 = .ok (.bipush 8, 2) := by decide +kernel
theorem dL_spread_7 : decode cL_spread 7 = .ok (.newarray .int, 2) := by decide +kernel
theorem dL_spread_9 : decode cL_spread 9 = .ok (.astore_n 3, 1) := by decide +kernel
theorem dL_spread_10 : decode cL_spread 10 = .ok (.iconst 0, 1) := by decide +kernel
theorem dL_spread_11 : decode cL_spread 11 = .ok (.istore 4, 2) := by decide +kernel
theorem dL_spread_13 : decode cL_spread 13 = .ok (.iconst 0, 1) := by decide +kernel
theorem dL_spread_14 : decode cL_spread 14 = .ok (.istore 5, 2) := by decide +kernel
theorem dL_spread_16 : decode cL_spread 16 = .ok (.iload 5, 2) := by decide +kernel
theorem dL_spread_18 : decode cL_spread 18 = .ok (.aload_n 0, 1) := by decide +kernel
theorem dL_spread_19 : decode cL_spread 19 = .ok (.bipush 40, 2) := by decide +kernel
theorem dL_spread_21 : decode cL_spread 21 = .ok (.iaload, 1) := by decide +kernel
theorem dL_spread_22 : decode cL_spread 22 = .ok (.if_icmp .ge 164, 3) := by decide +kernel
theorem dL_spread_25 : decode cL_spread 25 = .ok (.aload_n 0, 1) := by decide +kernel
theorem dL_spread_26 : decode cL_spread 26 = .ok (.aload_n 1, 1) := by decide +kernel
theorem dL_spread_27 : decode cL_spread 27 = .ok (.iload 5, 2) := by decide +kernel
theorem dL_spread_29 : decode cL_spread 29 = .ok (.invokestatic 19, 3) := by decide +kernel
theorem dL_spread_32 : decode cL_spread 32 = .ok (.istore 6, 2) := by decide +kernel
theorem dL_spread_34 : decode cL_spread 34 = .ok (.aload_n 0, 1) := by decide +kernel
theorem dL_spread_35 : decode cL_spread 35 = .ok (.bipush 8, 2) := by decide +kernel
theorem dL_spread_37 : decode cL_spread 37 = .ok (.iload 5, 2) := by decide +kernel
theorem dL_spread_39 : decode cL_spread 39 = .ok (.imul, 1) := by decide +kernel
theorem dL_spread_40 : decode cL_spread 40 = .ok (.iconst 5, 1) := by decide +kernel
theorem dL_spread_41 : decode cL_spread 41 = .ok (.iadd, 1) := by decide +kernel
theorem dL_spread_42 : decode cL_spread 42 = .ok (.iaload, 1) := by decide +kernel
theorem dL_spread_43 : decode cL_spread 43 = .ok (.iconst 2, 1) := by decide +kernel
theorem dL_spread_44 : decode cL_spread 44 = .ok (.idiv, 1) := by decide +kernel
theorem dL_spread_45 : decode cL_spread 45 = .ok (.istore 7, 2) := by decide +kernel
theorem dL_spread_47 : decode cL_spread 47 = .ok (.iload 6, 2) := by decide +kernel
theorem dL_spread_49 : decode cL_spread 49 = .ok (.ifCond .eq 131, 3) := by decide +kernel
theorem dL_spread_52 : decode cL_spread 52 = .ok (.iload 6, 2) := by decide +kernel
theorem dL_spread_54 : decode cL_spread 54 = .ok (.aload_n 0, 1) := by decide +kernel
theorem dL_spread_55 : decode cL_spread 55 = .ok (.bipush 8, 2) := by decide +kernel
theorem dL_spread_57 : decode cL_spread 57 = .ok (.iload 5, 2) := by decide +kernel
theorem dL_spread_59 : decode cL_spread 59 = .ok (.imul, 1) := by decide +kernel
theorem dL_spread_60 : decode cL_spread 60 = .ok (.bipush 7, 2) := by decide +kernel
theorem dL_spread_62 : decode cL_spread 62 = .ok (.iadd, 1) := by decide +kernel
theorem dL_spread_63 : decode cL_spread 63 = .ok (.iaload, 1) := by decide +kernel
theorem dL_spread_64 : decode cL_spread 64 = .ok (.ishr, 1) := by decide +kernel
theorem dL_spread_65 : decode cL_spread 65 = .ok (.aload_n 0, 1) := by decide +kernel
theorem dL_spread_66 : decode cL_spread 66 = .ok (.bipush 8, 2) := by decide +kernel
theorem dL_spread_68 : decode cL_spread 68 = .ok (.iload 5, 2) := by decide +kernel
theorem dL_spread_70 : decode cL_spread 70 = .ok (.imul, 1) := by decide +kernel
theorem dL_spread_71 : decode cL_spread 71 = .ok (.bipush 7, 2) := by decide +kernel
theorem dL_spread_73 : decode cL_spread 73 = .ok (.iadd, 1) := by decide +kernel
theorem dL_spread_74 : decode cL_spread 74 = .ok (.iaload, 1) := by decide +kernel
theorem dL_spread_75 : decode cL_spread 75 = .ok (.ishl, 1) := by decide +kernel
theorem dL_spread_76 : decode cL_spread 76 = .ok (.istore 8, 2) := by decide +kernel
theorem dL_spread_78 : decode cL_spread 78 = .ok (.iconst 0, 1) := by decide +kernel
theorem dL_spread_79 : decode cL_spread 79 = .ok (.istore 9, 2) := by decide +kernel
theorem dL_spread_81 : decode cL_spread 81 = .ok (.iload 8, 2) := by decide +kernel
theorem dL_spread_83 : decode cL_spread 83 = .ok (.ifCond .eq 8, 3) := by decide +kernel
theorem dL_spread_86 : decode cL_spread 86 = .ok (.iload 8, 2) := by decide +kernel
theorem dL_spread_88 : decode cL_spread 88 = .ok (.goto 5, 3) := by decide +kernel
theorem dL_spread_91 : decode cL_spread 91 = .ok (.iload 6, 2) := by decide +kernel
theorem dL_spread_93 : decode cL_spread 93 = .ok (.iload 9, 2) := by decide +kernel
theorem dL_spread_95 : decode cL_spread 95 = .ok (.ishr, 1) := by decide +kernel
theorem dL_spread_96 : decode cL_spread 96 = .ok (.iconst 1, 1) := by decide +kernel
theorem dL_spread_97 : decode cL_spread 97 = .ok (.iand, 1) := by decide +kernel
theorem dL_spread_98 : decode cL_spread 98 = .ok (.ifCond .ne 9, 3) := by decide +kernel
theorem dL_spread_101 : decode cL_spread 101 = .ok (.iinc 9 1, 3) := by decide +kernel
theorem dL_spread_104 : decode cL_spread 104 = .ok (.goto (-23), 3) := by decide +kernel
theorem dL_spread_107 : decode cL_spread 107 = .ok (.aload_n 0, 1) := by decide +kernel
theorem dL_spread_108 : decode cL_spread 108 = .ok (.bipush 8, 2) := by decide +kernel
theorem dL_spread_110 : decode cL_spread 110 = .ok (.iload 5, 2) := by decide +kernel
theorem dL_spread_112 : decode cL_spread 112 = .ok (.imul, 1) := by decide +kernel
theorem dL_spread_113 : decode cL_spread 113 = .ok (.bipush 7, 2) := by decide +kernel
theorem dL_spread_115 : decode cL_spread 115 = .ok (.iadd, 1) := by decide +kernel
theorem dL_spread_116 : decode cL_spread 116 = .ok (.iload 9, 2) := by decide +kernel
theorem dL_spread_118 : decode cL_spread 118 = .ok (.iconst 1, 1) := by decide +kernel
theorem dL_spread_119 : decode cL_spread 119 = .ok (.iadd, 1) := by decide +kernel
theorem dL_spread_120 : decode cL_spread 120 = .ok (.iastore, 1) := by decide +kernel
theorem dL_spread_121 : decode cL_spread 121 = .ok (.aload_n 2, 1) := by decide +kernel
theorem dL_spread_122 : decode cL_spread 122 = .ok (.iload 9, 2) := by decide +kernel
theorem dL_spread_124 : decode cL_spread 124 = .ok (.dup2, 1) := by decide +kernel
theorem dL_spread_125 : decode cL_spread 125 = .ok (.iaload, 1) := by decide +kernel
theorem dL_spread_126 : decode cL_spread 126 = .ok (.iload 7, 2) := by decide +kernel
theorem dL_spread_128 : decode cL_spread 128 = .ok (.iadd, 1) := by decide +kernel
theorem dL_spread_129 : decode cL_spread 129 = .ok (.iastore, 1) := by decide +kernel
theorem dL_spread_130 : decode cL_spread 130 = .ok (.aload_n 2, 1) := by decide +kernel
theorem dL_spread_131 : decode cL_spread 131 = .ok (.iload 5, 2) := by decide +kernel
theorem dL_spread_133 : decode cL_spread 133 = .ok (.dup2, 1) := by decide +kernel
theorem dL_spread_134 : decode cL_spread 134 = .ok (.iaload, 1) := by decide +kernel
theorem dL_spread_135 : decode cL_spread 135 = .ok (.iload 7, 2) := by decide +kernel
theorem dL_spread_137 : decode cL_spread 137 = .ok (.isub, 1) := by decide +kernel
theorem dL_spread_138 : decode cL_spread 138 = .ok (.iastore, 1) := by decide +kernel
theorem dL_spread_139 : decode cL_spread 139 = .ok (.aload_n 3, 1) := by decide +kernel
theorem dL_spread_140 : decode cL_spread 140 = .ok (.iload 9, 2) := by decide +kernel
theorem dL_spread_142 : decode cL_spread 142 = .ok (.dup2, 1) := by decide +kernel
theorem dL_spread_143 : decode cL_spread 143 = .ok (.iaload, 1) := by decide +kernel
theorem dL_spread_144 : decode cL_spread 144 = .ok (.aload_n 0, 1) := by decide +kernel
theorem dL_spread_145 : decode cL_spread 145 = .ok (.bipush 8, 2) := by decide +kernel
theorem dL_spread_147 : decode cL_spread 147 = .ok (.iload 5, 2) := by decide +kernel
theorem dL_spread_149 : decode cL_spread 149 = .ok (.imul, 1) := by decide +kernel
theorem dL_spread_150 : decode cL_spread 150 = .ok (.bipush 6, 2) := by decide +kernel
theorem dL_spread_152 : decode cL_spread 152 = .ok (.iadd, 1) := by decide +kernel
theorem dL_spread_153 : decode cL_spread 153 = .ok (.iaload, 1) := by decide +kernel
theorem dL_spread_154 : decode cL_spread 154 = .ok (.iconst 1, 1) := by decide +kernel
theorem dL_spread_155 : decode cL_spread 155 = .ok (.ishr, 1) := by decide +kernel
theorem dL_spread_156 : decode cL_spread 156 = .ok (.iadd, 1) := by decide +kernel
theorem dL_spread_157 : decode cL_spread 157 = .ok (.iastore, 1) := by decide +kernel
theorem dL_spread_158 : decode cL_spread 158 = .ok (.aload_n 3, 1) := by decide +kernel
theorem dL_spread_159 : decode cL_spread 159 = .ok (.iload 5, 2) := by decide +kernel
theorem dL_spread_161 : decode cL_spread 161 = .ok (.dup2, 1) := by decide +kernel
theorem dL_spread_162 : decode cL_spread 162 = .ok (.iaload, 1) := by decide +kernel
theorem dL_spread_163 : decode cL_spread 163 = .ok (.aload_n 0, 1) := by decide +kernel
theorem dL_spread_164 : decode cL_spread 164 = .ok (.bipush 8, 2) := by decide +kernel
theorem dL_spread_166 : decode cL_spread 166 = .ok (.iload 5, 2) := by decide +kernel
theorem dL_spread_168 : decode cL_spread 168 = .ok (.imul, 1) := by decide +kernel
theorem dL_spread_169 : decode cL_spread 169 = .ok (.bipush 6, 2) := by decide +kernel
theorem dL_spread_171 : decode cL_spread 171 = .ok (.iadd, 1) := by decide +kernel
theorem dL_spread_172 : decode cL_spread 172 = .ok (.iaload, 1) := by decide +kernel
theorem dL_spread_173 : decode cL_spread 173 = .ok (.iconst 1, 1) := by decide +kernel
theorem dL_spread_174 : decode cL_spread 174 = .ok (.ishr, 1) := by decide +kernel
theorem dL_spread_175 : decode cL_spread 175 = .ok (.isub, 1) := by decide +kernel
theorem dL_spread_176 : decode cL_spread 176 = .ok (.iastore, 1) := by decide +kernel
theorem dL_spread_177 : decode cL_spread 177 = .ok (.iinc 4 1, 3) := by decide +kernel
theorem dL_spread_180 : decode cL_spread 180 = .ok (.iinc 5 1, 3) := by decide +kernel
theorem dL_spread_183 : decode cL_spread 183 = .ok (.goto (-167), 3) := by decide +kernel
theorem dL_spread_186 : decode cL_spread 186 = .ok (.iconst 0, 1) := by decide +kernel
theorem dL_spread_187 : decode cL_spread 187 = .ok (.istore 5, 2) := by decide +kernel
theorem dL_spread_189 : decode cL_spread 189 = .ok (.iload 5, 2) := by decide +kernel
theorem dL_spread_191 : decode cL_spread 191 = .ok (.aload_n 0, 1) := by decide +kernel
theorem dL_spread_192 : decode cL_spread 192 = .ok (.bipush 40, 2) := by decide +kernel
theorem dL_spread_194 : decode cL_spread 194 = .ok (.iaload, 1) := by decide +kernel
theorem dL_spread_195 : decode cL_spread 195 = .ok (.if_icmp .ge 42, 3) := by decide +kernel
theorem dL_spread_198 : decode cL_spread 198 = .ok (.aload_n 0, 1) := by decide +kernel
theorem dL_spread_199 : decode cL_spread 199 = .ok (.bipush 8, 2) := by decide +kernel
theorem dL_spread_201 : decode cL_spread 201 = .ok (.iload 5, 2) := by decide +kernel
theorem dL_spread_203 : decode cL_spread 203 = .ok (.imul, 1) := by decide +kernel
theorem dL_spread_204 : decode cL_spread 204 = .ok (.iconst 5, 1) := by decide +kernel
theorem dL_spread_205 : decode cL_spread 205 = .ok (.iadd, 1) := by decide +kernel
theorem dL_spread_206 : decode cL_spread 206 = .ok (.dup2, 1) := by decide +kernel
theorem dL_spread_207 : decode cL_spread 207 = .ok (.iaload, 1) := by decide +kernel
theorem dL_spread_208 : decode cL_spread 208 = .ok (.aload_n 2, 1) := by decide +kernel
theorem dL_spread_209 : decode cL_spread 209 = .ok (.iload 5, 2) := by decide +kernel
theorem dL_spread_211 : decode cL_spread 211 = .ok (.iaload, 1) := by decide +kernel
theorem dL_spread_212 : decode cL_spread 212 = .ok (.iadd, 1) := by decide +kernel
theorem dL_spread_213 : decode cL_spread 213 = .ok (.iastore, 1) := by decide +kernel
theorem dL_spread_214 : decode cL_spread 214 = .ok (.aload_n 0, 1) := by decide +kernel
theorem dL_spread_215 : decode cL_spread 215 = .ok (.bipush 8, 2) := by decide +kernel
theorem dL_spread_217 : decode cL_spread 217 = .ok (.iload 5, 2) := by decide +kernel
theorem dL_spread_219 : decode cL_spread 219 = .ok (.imul, 1) := by decide +kernel
theorem dL_spread_220 : decode cL_spread 220 = .ok (.bipush 6, 2) := by decide +kernel
theorem dL_spread_222 : decode cL_spread 222 = .ok (.iadd, 1) := by decide +kernel
theorem dL_spread_223 : decode cL_spread 223 = .ok (.dup2, 1) := by decide +kernel
theorem dL_spread_224 : decode cL_spread 224 = .ok (.iaload, 1) := by decide +kernel
theorem dL_spread_225 : decode cL_spread 225 = .ok (.aload_n 3, 1) := by decide +kernel
theorem dL_spread_226 : decode cL_spread 226 = .ok (.iload 5, 2) := by decide +kernel
theorem dL_spread_228 : decode cL_spread 228 = .ok (.iaload, 1) := by decide +kernel
theorem dL_spread_229 : decode cL_spread 229 = .ok (.iadd, 1) := by decide +kernel
theorem dL_spread_230 : decode cL_spread 230 = .ok (.iastore, 1) := by decide +kernel
theorem dL_spread_231 : decode cL_spread 231 = .ok (.iinc 5 1, 3) := by decide +kernel
theorem dL_spread_234 : decode cL_spread 234 = .ok (.goto (-45), 3) := by decide +kernel
theorem dL_spread_237 : decode cL_spread 237 = .ok (.iload 4, 2) := by decide +kernel
theorem dL_spread_239 : decode cL_spread 239 = .ok (.ireturn, 1) := by decide +kernel
theorem dL_moved_0 : decode cL_moved 0 = .ok (.lload_n 0, 1) := by decide +kernel
theorem dL_moved_1 : decode cL_moved 1 = .ok (.lconst 0, 1) := by decide +kernel
theorem dL_moved_2 : decode cL_moved 2 = .ok (.lcmp, 1) := by decide +kernel
theorem dL_moved_3 : decode cL_moved 3 = .ok (.ifCond .lt 11, 3) := by decide +kernel
theorem dL_moved_6 : decode cL_moved 6 = .ok (.lload_n 0, 1) := by decide +kernel
theorem dL_moved_7 : decode cL_moved 7 = .ok (.ldc2_w 106, 3) := by decide +kernel
theorem dL_moved_10 : decode cL_moved 10 = .ok (.ldiv, 1) := by decide +kernel
theorem dL_moved_11 : decode cL_moved 11 = .ok (.goto 10, 3) := by decide +kernel
theorem dL_moved_14 : decode cL_moved 14 = .ok (.lload_n 0, 1) := by decide +kernel
theorem dL_moved_15 : decode cL_moved 15 = .ok (.lneg, 1) := by decide +kernel
theorem dL_moved_16 : decode cL_moved 16 = .ok (.ldc2_w 106, 3) := by decide +kernel
theorem dL_moved_19 : decode cL_moved 19 = .ok (.ldiv, 1) := by decide +kernel
theorem dL_moved_20 : decode cL_moved 20 = .ok (.lneg, 1) := by decide +kernel
theorem dL_moved_21 : decode cL_moved 21 = .ok (.lstore_n 3, 1) := by decide +kernel
theorem dL_moved_22 : decode cL_moved 22 = .ok (.lload_n 3, 1) := by decide +kernel
theorem dL_moved_23 : decode cL_moved 23 = .ok (.ldc2_w 108, 3) := by decide +kernel
theorem dL_moved_26 : decode cL_moved 26 = .ok (.lcmp, 1) := by decide +kernel
theorem dL_moved_27 : decode cL_moved 27 = .ok (.ifCond .le 9, 3) := by decide +kernel
theorem dL_moved_30 : decode cL_moved 30 = .ok (.ldc2_w 108, 3) := by decide +kernel
theorem dL_moved_33 : decode cL_moved 33 = .ok (.goto 18, 3) := by decide +kernel
theorem dL_moved_36 : decode cL_moved 36 = .ok (.lload_n 3, 1) := by decide +kernel
theorem dL_moved_37 : decode cL_moved 37 = .ok (.ldc2_w 110, 3) := by decide +kernel
theorem dL_moved_40 : decode cL_moved 40 = .ok (.lcmp, 1) := by decide +kernel
theorem dL_moved_41 : decode cL_moved 41 = .ok (.ifCond .ge 9, 3) := by decide +kernel
theorem dL_moved_44 : decode cL_moved 44 = .ok (.ldc2_w 110, 3) := by decide +kernel
theorem dL_moved_47 : decode cL_moved 47 = .ok (.goto 4, 3) := by decide +kernel
theorem dL_moved_50 : decode cL_moved 50 = .ok (.lload_n 3, 1) := by decide +kernel
theorem dL_moved_51 : decode cL_moved 51 = .ok (.lstore_n 3, 1) := by decide +kernel
theorem dL_moved_52 : decode cL_moved 52 = .ok (.iload_n 2, 1) := by decide +kernel
theorem dL_moved_53 : decode cL_moved 53 = .ok (.i2l, 1) := by decide +kernel
theorem dL_moved_54 : decode cL_moved 54 = .ok (.lload_n 3, 1) := by decide +kernel
theorem dL_moved_55 : decode cL_moved 55 = .ok (.lsub, 1) := by decide +kernel
theorem dL_moved_56 : decode cL_moved 56 = .ok (.lstore 5, 2) := by decide +kernel
theorem dL_moved_58 : decode cL_moved 58 = .ok (.lload 5, 2) := by decide +kernel
theorem dL_moved_60 : decode cL_moved 60 = .ok (.ldc2_w 112, 3) := by decide +kernel
theorem dL_moved_63 : decode cL_moved 63 = .ok (.lcmp, 1) := by decide +kernel
theorem dL_moved_64 : decode cL_moved 64 = .ok (.ifCond .le 9, 3) := by decide +kernel
theorem dL_moved_67 : decode cL_moved 67 = .ok (.ldc2_w 112, 3) := by decide +kernel
theorem dL_moved_70 : decode cL_moved 70 = .ok (.goto 20, 3) := by decide +kernel
theorem dL_moved_73 : decode cL_moved 73 = .ok (.lload 5, 2) := by decide +kernel
theorem dL_moved_75 : decode cL_moved 75 = .ok (.ldc2_w 114, 3) := by decide +kernel
theorem dL_moved_78 : decode cL_moved 78 = .ok (.lcmp, 1) := by decide +kernel
theorem dL_moved_79 : decode cL_moved 79 = .ok (.ifCond .ge 9, 3) := by decide +kernel
theorem dL_moved_82 : decode cL_moved 82 = .ok (.ldc2_w 114, 3) := by decide +kernel
theorem dL_moved_85 : decode cL_moved 85 = .ok (.goto 5, 3) := by decide +kernel
theorem dL_moved_88 : decode cL_moved 88 = .ok (.lload 5, 2) := by decide +kernel
theorem dL_moved_90 : decode cL_moved 90 = .ok (.l2i, 1) := by decide +kernel
theorem dL_moved_91 : decode cL_moved 91 = .ok (.ireturn, 1) := by decide +kernel
set_option maxRecDepth 20000 in
theorem ggL_settle_L_heard : GoodIn wsL_settle wsL_heard := goodIn_r _ [5, 6, 7, 4, 8, 9, 10, 11] (by decide +kernel) (by decide +kernel)
set_option maxRecDepth 20000 in
theorem gL_settle_L_heard : GoodIn wsL_settle (va_wsS RL 19 yL_heard wsL_heard) := goodIn_app (goodIn_of _ (by decide +kernel)) ggL_settle_L_heard
set_option maxRecDepth 20000 in
theorem ggL_settle_L_pair : GoodIn wsL_settle wsL_pair := goodIn_r _ [8] (by decide +kernel) (by decide +kernel)
set_option maxRecDepth 20000 in
theorem gL_settle_L_pair : GoodIn wsL_settle (va_wsS RL 9 yL_pair wsL_pair) := goodIn_app (goodIn_of _ (by decide +kernel)) ggL_settle_L_pair
set_option maxRecDepth 20000 in
theorem ggL_settle_L_square : GoodIn wsL_settle wsL_square := goodIn_r _ [11] (by decide +kernel) (by decide +kernel)
set_option maxRecDepth 20000 in
theorem gL_settle_L_square : GoodIn wsL_settle (va_wsS RL 15 yL_square wsL_square) := goodIn_app (goodIn_of _ (by decide +kernel)) ggL_settle_L_square
set_option maxRecDepth 20000 in
theorem ggL_settle_L_moved : GoodIn wsL_settle wsL_moved := goodIn_r _ [14, 15, 16, 17, 18, 19] (by decide +kernel) (by decide +kernel)
set_option maxRecDepth 20000 in
theorem gL_settle_L_moved : GoodIn wsL_settle (va_wsS RL 116 yL_moved wsL_moved) := goodIn_app (goodIn_of _ (by decide +kernel)) ggL_settle_L_moved
theorem dL_settle_0 : decode cL_settle 0 = .ok (.bipush 16, 2) := by decide +kernel
theorem dL_settle_2 : decode cL_settle 2 = .ok (.newarray .long, 2) := by decide +kernel
theorem dL_settle_4 : decode cL_settle 4 = .ok (.astore_n 3, 1) := by decide +kernel
theorem dL_settle_5 : decode cL_settle 5 = .ok (.iconst 0, 1) := by decide +kernel
theorem dL_settle_6 : decode cL_settle 6 = .ok (.istore 4, 2) := by decide +kernel
theorem dL_settle_8 : decode cL_settle 8 = .ok (.iload 4, 2) := by decide +kernel
theorem dL_settle_10 : decode cL_settle 10 = .ok (.aload_n 0, 1) := by decide +kernel
theorem dL_settle_11 : decode cL_settle 11 = .ok (.bipush 40, 2) := by decide +kernel
theorem dL_settle_13 : decode cL_settle 13 = .ok (.iaload, 1) := by decide +kernel
theorem dL_settle_14 : decode cL_settle 14 = .ok (.aload_n 0, 1) := by decide +kernel
theorem dL_settle_15 : decode cL_settle 15 = .ok (.bipush 40, 2) := by decide +kernel
theorem dL_settle_17 : decode cL_settle 17 = .ok (.iaload, 1) := by decide +kernel
theorem dL_settle_18 : decode cL_settle 18 = .ok (.imul, 1) := by decide +kernel
theorem dL_settle_19 : decode cL_settle 19 = .ok (.if_icmp .ge 135, 3) := by decide +kernel
theorem dL_settle_22 : decode cL_settle 22 = .ok (.iload 4, 2) := by decide +kernel
theorem dL_settle_24 : decode cL_settle 24 = .ok (.aload_n 0, 1) := by decide +kernel
theorem dL_settle_25 : decode cL_settle 25 = .ok (.bipush 40, 2) := by decide +kernel
theorem dL_settle_27 : decode cL_settle 27 = .ok (.iaload, 1) := by decide +kernel
theorem dL_settle_28 : decode cL_settle 28 = .ok (.idiv, 1) := by decide +kernel
theorem dL_settle_29 : decode cL_settle 29 = .ok (.istore 5, 2) := by decide +kernel
theorem dL_settle_31 : decode cL_settle 31 = .ok (.iload 4, 2) := by decide +kernel
theorem dL_settle_33 : decode cL_settle 33 = .ok (.aload_n 0, 1) := by decide +kernel
theorem dL_settle_34 : decode cL_settle 34 = .ok (.bipush 40, 2) := by decide +kernel
theorem dL_settle_36 : decode cL_settle 36 = .ok (.iaload, 1) := by decide +kernel
theorem dL_settle_37 : decode cL_settle 37 = .ok (.irem, 1) := by decide +kernel
theorem dL_settle_38 : decode cL_settle 38 = .ok (.istore 6, 2) := by decide +kernel
theorem dL_settle_40 : decode cL_settle 40 = .ok (.aload_n 0, 1) := by decide +kernel
theorem dL_settle_41 : decode cL_settle 41 = .ok (.aload_n 1, 1) := by decide +kernel
theorem dL_settle_42 : decode cL_settle 42 = .ok (.iload 5, 2) := by decide +kernel
theorem dL_settle_44 : decode cL_settle 44 = .ok (.invokestatic 19, 3) := by decide +kernel
theorem dL_settle_47 : decode cL_settle 47 = .ok (.iload 6, 2) := by decide +kernel
theorem dL_settle_49 : decode cL_settle 49 = .ok (.ishr, 1) := by decide +kernel
theorem dL_settle_50 : decode cL_settle 50 = .ok (.iconst 1, 1) := by decide +kernel
theorem dL_settle_51 : decode cL_settle 51 = .ok (.iand, 1) := by decide +kernel
theorem dL_settle_52 : decode cL_settle 52 = .ok (.iconst 1, 1) := by decide +kernel
theorem dL_settle_53 : decode cL_settle 53 = .ok (.if_icmp .ne 95, 3) := by decide +kernel
theorem dL_settle_56 : decode cL_settle 56 = .ok (.aload_n 2, 1) := by decide +kernel
theorem dL_settle_57 : decode cL_settle 57 = .ok (.iload 5, 2) := by decide +kernel
theorem dL_settle_59 : decode cL_settle 59 = .ok (.iload 6, 2) := by decide +kernel
theorem dL_settle_61 : decode cL_settle 61 = .ok (.invokestatic 9, 3) := by decide +kernel
theorem dL_settle_64 : decode cL_settle 64 = .ok (.iaload, 1) := by decide +kernel
theorem dL_settle_65 : decode cL_settle 65 = .ok (.ifCond .le 83, 3) := by decide +kernel
theorem dL_settle_68 : decode cL_settle 68 = .ok (.aload_n 0, 1) := by decide +kernel
theorem dL_settle_69 : decode cL_settle 69 = .ok (.iload 5, 2) := by decide +kernel
theorem dL_settle_71 : decode cL_settle 71 = .ok (.iload 6, 2) := by decide +kernel
theorem dL_settle_73 : decode cL_settle 73 = .ok (.invokestatic 15, 3) := by decide +kernel
theorem dL_settle_76 : decode cL_settle 76 = .ok (.aload_n 2, 1) := by decide +kernel
theorem dL_settle_77 : decode cL_settle 77 = .ok (.iload 5, 2) := by decide +kernel
theorem dL_settle_79 : decode cL_settle 79 = .ok (.iload 6, 2) := by decide +kernel
theorem dL_settle_81 : decode cL_settle 81 = .ok (.invokestatic 9, 3) := by decide +kernel
theorem dL_settle_84 : decode cL_settle 84 = .ok (.iaload, 1) := by decide +kernel
theorem dL_settle_85 : decode cL_settle 85 = .ok (.isub, 1) := by decide +kernel
theorem dL_settle_86 : decode cL_settle 86 = .ok (.i2l, 1) := by decide +kernel
theorem dL_settle_87 : decode cL_settle 87 = .ok (.lstore 7, 2) := by decide +kernel
theorem dL_settle_89 : decode cL_settle 89 = .ok (.aload_n 3, 1) := by decide +kernel
theorem dL_settle_90 : decode cL_settle 90 = .ok (.iload 5, 2) := by decide +kernel
theorem dL_settle_92 : decode cL_settle 92 = .ok (.dup2, 1) := by decide +kernel
theorem dL_settle_93 : decode cL_settle 93 = .ok (.laload, 1) := by decide +kernel
theorem dL_settle_94 : decode cL_settle 94 = .ok (.lload 7, 2) := by decide +kernel
theorem dL_settle_96 : decode cL_settle 96 = .ok (.aload_n 0, 1) := by decide +kernel
theorem dL_settle_97 : decode cL_settle 97 = .ok (.bipush 8, 2) := by decide +kernel
theorem dL_settle_99 : decode cL_settle 99 = .ok (.iload 5, 2) := by decide +kernel
theorem dL_settle_101 : decode cL_settle 101 = .ok (.imul, 1) := by decide +kernel
theorem dL_settle_102 : decode cL_settle 102 = .ok (.iaload, 1) := by decide +kernel
theorem dL_settle_103 : decode cL_settle 103 = .ok (.aload_n 0, 1) := by decide +kernel
theorem dL_settle_104 : decode cL_settle 104 = .ok (.bipush 8, 2) := by decide +kernel
theorem dL_settle_106 : decode cL_settle 106 = .ok (.iload 6, 2) := by decide +kernel
theorem dL_settle_108 : decode cL_settle 108 = .ok (.imul, 1) := by decide +kernel
theorem dL_settle_109 : decode cL_settle 109 = .ok (.iaload, 1) := by decide +kernel
theorem dL_settle_110 : decode cL_settle 110 = .ok (.isub, 1) := by decide +kernel
theorem dL_settle_111 : decode cL_settle 111 = .ok (.i2l, 1) := by decide +kernel
theorem dL_settle_112 : decode cL_settle 112 = .ok (.lmul, 1) := by decide +kernel
theorem dL_settle_113 : decode cL_settle 113 = .ok (.ladd, 1) := by decide +kernel
theorem dL_settle_114 : decode cL_settle 114 = .ok (.lastore, 1) := by decide +kernel
theorem dL_settle_115 : decode cL_settle 115 = .ok (.aload_n 3, 1) := by decide +kernel
theorem dL_settle_116 : decode cL_settle 116 = .ok (.bipush 8, 2) := by decide +kernel
theorem dL_settle_118 : decode cL_settle 118 = .ok (.iload 5, 2) := by decide +kernel
theorem dL_settle_120 : decode cL_settle 120 = .ok (.iadd, 1) := by decide +kernel
theorem dL_settle_121 : decode cL_settle 121 = .ok (.dup2, 1) := by decide +kernel
theorem dL_settle_122 : decode cL_settle 122 = .ok (.laload, 1) := by decide +kernel
theorem dL_settle_123 : decode cL_settle 123 = .ok (.lload 7, 2) := by decide +kernel
theorem dL_settle_125 : decode cL_settle 125 = .ok (.aload_n 0, 1) := by decide +kernel
theorem dL_settle_126 : decode cL_settle 126 = .ok (.bipush 8, 2) := by decide +kernel
theorem dL_settle_128 : decode cL_settle 128 = .ok (.iload 5, 2) := by decide +kernel
theorem dL_settle_130 : decode cL_settle 130 = .ok (.imul, 1) := by decide +kernel
theorem dL_settle_131 : decode cL_settle 131 = .ok (.iconst 1, 1) := by decide +kernel
theorem dL_settle_132 : decode cL_settle 132 = .ok (.iadd, 1) := by decide +kernel
theorem dL_settle_133 : decode cL_settle 133 = .ok (.iaload, 1) := by decide +kernel
theorem dL_settle_134 : decode cL_settle 134 = .ok (.aload_n 0, 1) := by decide +kernel
theorem dL_settle_135 : decode cL_settle 135 = .ok (.bipush 8, 2) := by decide +kernel
theorem dL_settle_137 : decode cL_settle 137 = .ok (.iload 6, 2) := by decide +kernel
theorem dL_settle_139 : decode cL_settle 139 = .ok (.imul, 1) := by decide +kernel
theorem dL_settle_140 : decode cL_settle 140 = .ok (.iconst 1, 1) := by decide +kernel
theorem dL_settle_141 : decode cL_settle 141 = .ok (.iadd, 1) := by decide +kernel
theorem dL_settle_142 : decode cL_settle 142 = .ok (.iaload, 1) := by decide +kernel
theorem dL_settle_143 : decode cL_settle 143 = .ok (.isub, 1) := by decide +kernel
theorem dL_settle_144 : decode cL_settle 144 = .ok (.i2l, 1) := by decide +kernel
theorem dL_settle_145 : decode cL_settle 145 = .ok (.lmul, 1) := by decide +kernel
theorem dL_settle_146 : decode cL_settle 146 = .ok (.ladd, 1) := by decide +kernel
theorem dL_settle_147 : decode cL_settle 147 = .ok (.lastore, 1) := by decide +kernel
theorem dL_settle_148 : decode cL_settle 148 = .ok (.iinc 4 1, 3) := by decide +kernel
theorem dL_settle_151 : decode cL_settle 151 = .ok (.goto (-143), 3) := by decide +kernel
theorem dL_settle_154 : decode cL_settle 154 = .ok (.iconst 0, 1) := by decide +kernel
theorem dL_settle_155 : decode cL_settle 155 = .ok (.istore 4, 2) := by decide +kernel
theorem dL_settle_157 : decode cL_settle 157 = .ok (.iload 4, 2) := by decide +kernel
theorem dL_settle_159 : decode cL_settle 159 = .ok (.aload_n 0, 1) := by decide +kernel
theorem dL_settle_160 : decode cL_settle 160 = .ok (.bipush 40, 2) := by decide +kernel
theorem dL_settle_162 : decode cL_settle 162 = .ok (.iaload, 1) := by decide +kernel
theorem dL_settle_163 : decode cL_settle 163 = .ok (.if_icmp .ge 58, 3) := by decide +kernel
theorem dL_settle_166 : decode cL_settle 166 = .ok (.aload_n 0, 1) := by decide +kernel
theorem dL_settle_167 : decode cL_settle 167 = .ok (.bipush 8, 2) := by decide +kernel
theorem dL_settle_169 : decode cL_settle 169 = .ok (.iload 4, 2) := by decide +kernel
theorem dL_settle_171 : decode cL_settle 171 = .ok (.imul, 1) := by decide +kernel
theorem dL_settle_172 : decode cL_settle 172 = .ok (.aload_n 3, 1) := by decide +kernel
theorem dL_settle_173 : decode cL_settle 173 = .ok (.iload 4, 2) := by decide +kernel
theorem dL_settle_175 : decode cL_settle 175 = .ok (.laload, 1) := by decide +kernel
theorem dL_settle_176 : decode cL_settle 176 = .ok (.aload_n 0, 1) := by decide +kernel
theorem dL_settle_177 : decode cL_settle 177 = .ok (.bipush 8, 2) := by decide +kernel
theorem dL_settle_179 : decode cL_settle 179 = .ok (.iload 4, 2) := by decide +kernel
theorem dL_settle_181 : decode cL_settle 181 = .ok (.imul, 1) := by decide +kernel
theorem dL_settle_182 : decode cL_settle 182 = .ok (.iaload, 1) := by decide +kernel
theorem dL_settle_183 : decode cL_settle 183 = .ok (.invokestatic 116, 3) := by decide +kernel
theorem dL_settle_186 : decode cL_settle 186 = .ok (.iastore, 1) := by decide +kernel
theorem dL_settle_187 : decode cL_settle 187 = .ok (.aload_n 0, 1) := by decide +kernel
theorem dL_settle_188 : decode cL_settle 188 = .ok (.bipush 8, 2) := by decide +kernel
theorem dL_settle_190 : decode cL_settle 190 = .ok (.iload 4, 2) := by decide +kernel
theorem dL_settle_192 : decode cL_settle 192 = .ok (.imul, 1) := by decide +kernel
theorem dL_settle_193 : decode cL_settle 193 = .ok (.iconst 1, 1) := by decide +kernel
theorem dL_settle_194 : decode cL_settle 194 = .ok (.iadd, 1) := by decide +kernel
theorem dL_settle_195 : decode cL_settle 195 = .ok (.aload_n 3, 1) := by decide +kernel
theorem dL_settle_196 : decode cL_settle 196 = .ok (.bipush 8, 2) := by decide +kernel
theorem dL_settle_198 : decode cL_settle 198 = .ok (.iload 4, 2) := by decide +kernel
theorem dL_settle_200 : decode cL_settle 200 = .ok (.iadd, 1) := by decide +kernel
theorem dL_settle_201 : decode cL_settle 201 = .ok (.laload, 1) := by decide +kernel
theorem dL_settle_202 : decode cL_settle 202 = .ok (.aload_n 0, 1) := by decide +kernel
theorem dL_settle_203 : decode cL_settle 203 = .ok (.bipush 8, 2) := by decide +kernel
theorem dL_settle_205 : decode cL_settle 205 = .ok (.iload 4, 2) := by decide +kernel
theorem dL_settle_207 : decode cL_settle 207 = .ok (.imul, 1) := by decide +kernel
theorem dL_settle_208 : decode cL_settle 208 = .ok (.iconst 1, 1) := by decide +kernel
theorem dL_settle_209 : decode cL_settle 209 = .ok (.iadd, 1) := by decide +kernel
theorem dL_settle_210 : decode cL_settle 210 = .ok (.iaload, 1) := by decide +kernel
theorem dL_settle_211 : decode cL_settle 211 = .ok (.invokestatic 116, 3) := by decide +kernel
theorem dL_settle_214 : decode cL_settle 214 = .ok (.iastore, 1) := by decide +kernel
theorem dL_settle_215 : decode cL_settle 215 = .ok (.iinc 4 1, 3) := by decide +kernel
theorem dL_settle_218 : decode cL_settle 218 = .ok (.goto (-61), 3) := by decide +kernel
theorem dL_settle_221 : decode cL_settle 221 = .ok (.return_, 1) := by decide +kernel
set_option maxRecDepth 20000 in
theorem ggL_acts_X4_move : GoodIn wsL_acts wsX4_move := goodIn_ca (goodIn_ca (goodIn_r _ [5, 6, 7, 8, 9, 10, 4, 11, 12, 13, 14, 15, 16, 17, 18, 19, 20, 21, 22, 238, 239, 240, 241, 242, 243, 244, 245, 246, 247, 248, 249, 250, 251, 252, 253, 254, 255] (by decide +kernel) (by decide +kernel)) (goodIn_sub (fun _ h => List.mem_cons_of_mem _ (List.mem_append_left _ (List.mem_append_right _ h))) (by decide +kernel))) (goodIn_sub (fun _ h => List.mem_cons_of_mem _ (List.mem_append_right _ h)) (by decide +kernel))
set_option maxRecDepth 20000 in
theorem gL_acts_X4_move : GoodIn wsL_acts (wsV RL 120 RX4 yX4_move wsX4_move) := goodIn_app (goodIn_of _ (by decide +kernel)) ggL_acts_X4_move
set_option maxRecDepth 20000 in
theorem ggL_acts_X4_toggle : GoodIn wsL_acts wsX4_toggle := goodIn_ca (goodIn_r _ [26, 27, 8, 9, 10, 4, 11, 12, 13, 14, 238, 239, 240, 241, 242, 243, 244, 245, 246, 247, 248, 249, 250, 251, 252, 253, 254, 255] (by decide +kernel) (by decide +kernel)) (goodIn_sub (fun _ h => List.mem_cons_of_mem _ (List.mem_append_left _ (List.mem_append_right _ h))) (by decide +kernel))
set_option maxRecDepth 20000 in
theorem gL_acts_X4_toggle : GoodIn wsL_acts (wsV RL 124 RX4 yX4_toggle wsX4_toggle) := goodIn_app (goodIn_of _ (by decide +kernel)) ggL_acts_X4_toggle
set_option maxRecDepth 20000 in
theorem ggL_acts_X4_setPriority : GoodIn wsL_acts wsX4_setPriority := goodIn_ca (goodIn_ca (goodIn_r _ [31, 32, 8, 9, 10, 4, 11, 12, 13, 14, 18, 19, 20, 21, 22, 238, 239, 240, 241, 242, 243, 244, 245, 246, 247, 248, 249, 250, 251, 252, 253, 254, 255] (by decide +kernel) (by decide +kernel)) (goodIn_sub (fun _ h => List.mem_cons_of_mem _ (List.mem_append_left _ (List.mem_append_right _ h))) (by decide +kernel))) (goodIn_sub (fun _ h => List.mem_cons_of_mem _ (List.mem_append_right _ h)) (by decide +kernel))
set_option maxRecDepth 20000 in
theorem gL_acts_X4_setPriority : GoodIn wsL_acts (wsV RL 127 RX4 yX4_setPriority wsX4_setPriority) := goodIn_app (goodIn_of _ (by decide +kernel)) ggL_acts_X4_setPriority
set_option maxRecDepth 20000 in
theorem ggL_acts_X4_setRange : GoodIn wsL_acts wsX4_setRange := goodIn_ca (goodIn_r _ [36, 37, 18, 19, 4, 20, 21, 22, 238, 239, 240, 241, 242, 243, 244, 245, 246, 247, 248, 249, 250, 251, 252, 253, 254, 255] (by decide +kernel) (by decide +kernel)) (goodIn_sub (fun _ h => List.mem_cons_of_mem _ (List.mem_append_right _ h)) (by decide +kernel))
set_option maxRecDepth 20000 in
theorem gL_acts_X4_setRange : GoodIn wsL_acts (wsV RL 130 RX4 yX4_setRange wsX4_setRange) := goodIn_app (goodIn_of _ (by decide +kernel)) ggL_acts_X4_setRange
set_option maxRecDepth 20000 in
theorem ggL_acts_L_pair : GoodIn wsL_acts wsL_pair := goodIn_r _ [41] (by decide +kernel) (by decide +kernel)
set_option maxRecDepth 20000 in
theorem gL_acts_L_pair : GoodIn wsL_acts (va_wsS RL 9 yL_pair wsL_pair) := goodIn_app (goodIn_of _ (by decide +kernel)) ggL_acts_L_pair
set_option maxRecDepth 20000 in
theorem ggL_acts_X4_block : GoodIn wsL_acts wsX4_block := goodIn_ca (goodIn_ca (goodIn_r _ [45, 46, 47, 48, 49, 4, 50, 21, 22, 8, 9, 10, 11, 12, 13, 14, 51, 52, 53, 54, 55, 56, 57, 58, 59, 60, 61, 62, 63, 64, 65, 66, 67, 68, 69, 70, 238, 239, 240, 241, 242, 243, 244, 245, 246, 247, 248, 249, 250, 251, 252, 253, 254, 255, 256] (by decide +kernel) (by decide +kernel)) (goodIn_sub (fun _ h => List.mem_cons_of_mem _ (List.mem_append_right _ h)) (by decide +kernel))) (goodIn_sub (fun _ h => List.mem_cons_of_mem _ (List.mem_append_left _ (List.mem_append_right _ h))) (by decide +kernel))
set_option maxRecDepth 20000 in
theorem gL_acts_X4_block : GoodIn wsL_acts (wsV RL 133 RX4 yX4_block wsX4_block) := goodIn_app (goodIn_of _ (by decide +kernel)) ggL_acts_X4_block
set_option maxRecDepth 20000 in
theorem ggL_acts_X4_setEstimate : GoodIn wsL_acts wsX4_setEstimate := goodIn_ca (goodIn_ca (goodIn_r _ [74, 75, 8, 9, 10, 4, 11, 12, 13, 14, 76, 77, 78, 79, 80, 18, 19, 20, 21, 22, 238, 239, 240, 241, 242, 243, 244, 245, 246, 247, 248, 249, 250, 251, 252, 253, 254, 255] (by decide +kernel) (by decide +kernel)) (goodIn_sub (fun _ h => List.mem_cons_of_mem _ (List.mem_append_left _ (List.mem_append_right _ h))) (by decide +kernel))) (goodIn_sub (fun _ h => List.mem_cons_of_mem _ (List.mem_append_right _ h)) (by decide +kernel))
set_option maxRecDepth 20000 in
theorem gL_acts_X4_setEstimate : GoodIn wsL_acts (wsV RL 136 RX4 yX4_setEstimate wsX4_setEstimate) := goodIn_app (goodIn_of _ (by decide +kernel)) ggL_acts_X4_setEstimate
set_option maxRecDepth 20000 in
theorem ggL_acts_X4_setSum : GoodIn wsL_acts wsX4_setSum := goodIn_ca (goodIn_ca (goodIn_r _ [84, 85, 8, 9, 10, 4, 11, 12, 13, 14, 76, 77, 78, 79, 80, 18, 19, 20, 21, 22, 238, 239, 240, 241, 242, 243, 244, 245, 246, 247, 248, 249, 250, 251, 252, 253, 254, 255] (by decide +kernel) (by decide +kernel)) (goodIn_sub (fun _ h => List.mem_cons_of_mem _ (List.mem_append_left _ (List.mem_append_right _ h))) (by decide +kernel))) (goodIn_sub (fun _ h => List.mem_cons_of_mem _ (List.mem_append_right _ h)) (by decide +kernel))
set_option maxRecDepth 20000 in
theorem gL_acts_X4_setSum : GoodIn wsL_acts (wsV RL 139 RX4 yX4_setSum wsX4_setSum) := goodIn_app (goodIn_of _ (by decide +kernel)) ggL_acts_X4_setSum
set_option maxRecDepth 20000 in
theorem ggL_acts_X4_want : GoodIn wsL_acts wsX4_want := goodIn_ca (goodIn_ca (goodIn_r _ [89, 90, 91, 47, 48, 49, 4, 50, 21, 22, 8, 9, 10, 11, 12, 13, 14, 18, 19, 20, 238, 239, 240, 241, 242, 243, 244, 245, 246, 247, 248, 249, 250, 251, 252, 253, 254, 255] (by decide +kernel) (by decide +kernel)) (goodIn_sub (fun _ h => List.mem_cons_of_mem _ (List.mem_append_right _ h)) (by decide +kernel))) (goodIn_sub (fun _ h => List.mem_cons_of_mem _ (List.mem_append_left _ (List.mem_append_right _ h))) (by decide +kernel))
set_option maxRecDepth 20000 in
theorem gL_acts_X4_want : GoodIn wsL_acts (wsV RL 142 RX4 yX4_want wsX4_want) := goodIn_app (goodIn_of _ (by decide +kernel)) ggL_acts_X4_want
set_option maxRecDepth 20000 in
theorem ggL_acts_L_agreed : GoodIn wsL_acts wsL_agreed := goodIn_r _ [94, 95, 96, 97, 40, 98, 38, 39, 41, 99, 100, 101, 102, 103, 104] (by decide +kernel) (by decide +kernel)
set_option maxRecDepth 20000 in
theorem gL_acts_L_agreed : GoodIn wsL_acts (va_wsS RL 146 yL_agreed wsL_agreed) := goodIn_app (goodIn_of _ (by decide +kernel)) ggL_acts_L_agreed
set_option maxRecDepth 20000 in
theorem ggL_acts_L_spread : GoodIn wsL_acts wsL_spread := goodIn_r _ [107, 95, 96, 97, 40, 98, 38, 39, 41, 99, 100, 101] (by decide +kernel) (by decide +kernel)
set_option maxRecDepth 20000 in
theorem gL_acts_L_spread : GoodIn wsL_acts (va_wsS RL 149 yL_spread wsL_spread) := goodIn_app (goodIn_of _ (by decide +kernel)) ggL_acts_L_spread
set_option maxRecDepth 20000 in
theorem ggL_acts_L_settle : GoodIn wsL_acts wsL_settle := goodIn_r _ [110, 111, 96, 97, 40, 98, 38, 39, 41, 99, 100, 101, 112, 113, 114, 115, 116, 117, 118, 119] (by decide +kernel) (by decide +kernel)
set_option maxRecDepth 20000 in
theorem gL_acts_L_settle : GoodIn wsL_acts (va_wsS RL 152 yL_settle wsL_settle) := goodIn_app (goodIn_of _ (by decide +kernel)) ggL_acts_L_settle
set_option maxRecDepth 20000 in
theorem ggL_acts_X4_agree : GoodIn wsL_acts wsX4_agree := goodIn_ca (goodIn_r _ [123, 124, 125, 4, 126, 18, 19, 20, 21, 22, 127, 128, 129, 130, 131, 14, 132, 52, 133, 134, 55, 135, 136, 137, 138, 139, 140, 141, 142, 27, 46, 37, 51, 53, 54, 56, 57, 58, 143, 144, 145, 146, 6, 7, 65, 66, 67, 68, 69, 70, 147, 148, 149, 150, 151, 75, 152, 153, 154, 155, 156, 157, 158, 159, 160, 161, 162, 163, 164, 165, 166, 167, 168, 169, 170, 171, 172, 173, 174, 175, 176, 177, 178, 179, 180, 181, 238, 239, 240, 241, 242, 243, 244, 245, 246, 247, 248, 249, 250, 251, 252, 253, 254, 255, 256] (by decide +kernel) (by decide +kernel)) (goodIn_sub (fun _ h => List.mem_cons_of_mem _ (List.mem_append_right _ h)) (by decide +kernel))
set_option maxRecDepth 20000 in
theorem gL_acts_X4_agree : GoodIn wsL_acts (wsV RL 156 RX4 yX4_agree wsX4_agree) := goodIn_app (goodIn_of _ (by decide +kernel)) ggL_acts_X4_agree
set_option maxRecDepth 20000 in
theorem ggL_acts_X4_spread : GoodIn wsL_acts wsX4_spread := goodIn_ca (goodIn_r _ [185, 124, 125, 4, 126, 18, 19, 20, 21, 22, 127, 128, 129, 130, 131, 14, 132, 52, 133, 134, 55, 135, 136, 137, 138, 139, 140, 141, 142, 27, 46, 37, 51, 53, 54, 56, 57, 58, 143, 144, 145, 146, 6, 7, 65, 66, 67, 68, 69, 70, 186, 187, 188, 189, 151, 190, 85, 191, 192, 152, 193, 194, 195, 196, 197, 198, 199, 171, 172, 173, 174, 238, 239, 240, 241, 242, 243, 244, 245, 246, 247, 248, 249, 250, 251, 252, 253, 254, 255, 256] (by decide +kernel) (by decide +kernel)) (goodIn_sub (fun _ h => List.mem_cons_of_mem _ (List.mem_append_right _ h)) (by decide +kernel))
set_option maxRecDepth 20000 in
theorem gL_acts_X4_spread : GoodIn wsL_acts (wsV RL 159 RX4 yX4_spread wsX4_spread) := goodIn_app (goodIn_of _ (by decide +kernel)) ggL_acts_X4_spread
set_option maxRecDepth 20000 in
theorem ggL_acts_X4_settle : GoodIn wsL_acts wsX4_settle := goodIn_ca (goodIn_r _ [203, 124, 125, 4, 126, 18, 19, 20, 21, 22, 204, 205, 206, 207, 14, 151, 6, 190, 7, 127, 128, 129, 130, 131, 132, 52, 133, 134, 55, 135, 136, 137, 138, 139, 140, 141, 142, 27, 46, 37, 51, 53, 54, 56, 57, 58, 143, 144, 145, 146, 65, 66, 67, 68, 69, 70, 208, 209, 210, 211, 212, 213, 214, 215, 216, 159, 217, 218, 219, 220, 221, 222, 223, 224, 91, 225, 226, 227, 179, 180, 181, 157, 158, 160, 228, 229, 230, 231, 232, 233, 234, 238, 239, 240, 241, 242, 243, 244, 245, 246, 247, 248, 249, 250, 251, 252, 253, 254, 255, 256] (by decide +kernel) (by decide +kernel)) (goodIn_sub (fun _ h => List.mem_cons_of_mem _ (List.mem_append_right _ h)) (by decide +kernel))
set_option maxRecDepth 20000 in
theorem gL_acts_X4_settle : GoodIn wsL_acts (wsV RL 161 RX4 yX4_settle wsX4_settle) := goodIn_app (goodIn_of _ (by decide +kernel)) ggL_acts_X4_settle
set_option maxRecDepth 20000 in
theorem ggL_acts_L_error : GoodIn wsL_acts wsL_error := goodIn_r _ [237, 96, 97, 40, 98, 38, 39, 41, 99, 100, 101] (by decide +kernel) (by decide +kernel)
set_option maxRecDepth 20000 in
theorem gL_acts_L_error : GoodIn wsL_acts (va_wsS RL 163 yL_error wsL_error) := goodIn_app (goodIn_of _ (by decide +kernel)) ggL_acts_L_error
theorem dL_acts_0 : decode cL_acts 0 = .ok (.iload 5, 2) := by decide +kernel
theorem dL_acts_2 : decode cL_acts 2 = .ok (.aload_n 1, 1) := by decide +kernel
theorem dL_acts_3 : decode cL_acts 3 = .ok (.bipush 40, 2) := by decide +kernel
theorem dL_acts_5 : decode cL_acts 5 = .ok (.iaload, 1) := by decide +kernel
theorem dL_acts_6 : decode cL_acts 6 = .ok (.irem, 1) := by decide +kernel
theorem dL_acts_7 : decode cL_acts 7 = .ok (.istore 6, 2) := by decide +kernel
theorem dL_acts_9 : decode cL_acts 9 = .ok (.iload 6, 2) := by decide +kernel
theorem dL_acts_11 : decode cL_acts 11 = .ok (.iconst 1, 1) := by decide +kernel
theorem dL_acts_12 : decode cL_acts 12 = .ok (.iadd, 1) := by decide +kernel
theorem dL_acts_13 : decode cL_acts 13 = .ok (.iload 5, 2) := by decide +kernel
theorem dL_acts_15 : decode cL_acts 15 = .ok (.bipush 8, 2) := by decide +kernel
theorem dL_acts_17 : decode cL_acts 17 = .ok (.idiv, 1) := by decide +kernel
theorem dL_acts_18 : decode cL_acts 18 = .ok (.iconst 4, 1) := by decide +kernel
theorem dL_acts_19 : decode cL_acts 19 = .ok (.irem, 1) := by decide +kernel
theorem dL_acts_20 : decode cL_acts 20 = .ok (.iadd, 1) := by decide +kernel
theorem dL_acts_21 : decode cL_acts 21 = .ok (.aload_n 1, 1) := by decide +kernel
theorem dL_acts_22 : decode cL_acts 22 = .ok (.bipush 40, 2) := by decide +kernel
theorem dL_acts_24 : decode cL_acts 24 = .ok (.iaload, 1) := by decide +kernel
theorem dL_acts_25 : decode cL_acts 25 = .ok (.irem, 1) := by decide +kernel
theorem dL_acts_26 : decode cL_acts 26 = .ok (.istore 7, 2) := by decide +kernel
theorem dL_acts_28 : decode cL_acts 28 = .ok (.bipush 8, 2) := by decide +kernel
theorem dL_acts_30 : decode cL_acts 30 = .ok (.iload 6, 2) := by decide +kernel
theorem dL_acts_32 : decode cL_acts 32 = .ok (.imul, 1) := by decide +kernel
theorem dL_acts_33 : decode cL_acts 33 = .ok (.istore 8, 2) := by decide +kernel
theorem dL_acts_35 : decode cL_acts 35 = .ok (.iload 4, 2) := by decide +kernel
theorem dL_acts_37 : decode cL_acts 37 = .ok (.ifCond .ne 55, 3) := by decide +kernel
theorem dL_acts_40 : decode cL_acts 40 = .ok (.aload_n 1, 1) := by decide +kernel
theorem dL_acts_41 : decode cL_acts 41 = .ok (.iload 8, 2) := by decide +kernel
theorem dL_acts_43 : decode cL_acts 43 = .ok (.iload 5, 2) := by decide +kernel
theorem dL_acts_45 : decode cL_acts 45 = .ok (.bipush 8, 2) := by decide +kernel
theorem dL_acts_47 : decode cL_acts 47 = .ok (.idiv, 1) := by decide +kernel
theorem dL_acts_48 : decode cL_acts 48 = .ok (.sipush 160, 3) := by decide +kernel
theorem dL_acts_51 : decode cL_acts 51 = .ok (.irem, 1) := by decide +kernel
theorem dL_acts_52 : decode cL_acts 52 = .ok (.bipush 80, 2) := by decide +kernel
theorem dL_acts_54 : decode cL_acts 54 = .ok (.isub, 1) := by decide +kernel
theorem dL_acts_55 : decode cL_acts 55 = .ok (.iastore, 1) := by decide +kernel
theorem dL_acts_56 : decode cL_acts 56 = .ok (.aload_n 1, 1) := by decide +kernel
theorem dL_acts_57 : decode cL_acts 57 = .ok (.iload 8, 2) := by decide +kernel
theorem dL_acts_59 : decode cL_acts 59 = .ok (.iconst 1, 1) := by decide +kernel
theorem dL_acts_60 : decode cL_acts 60 = .ok (.iadd, 1) := by decide +kernel
theorem dL_acts_61 : decode cL_acts 61 = .ok (.iload 5, 2) := by decide +kernel
theorem dL_acts_63 : decode cL_acts 63 = .ok (.sipush 1280, 3) := by decide +kernel
theorem dL_acts_66 : decode cL_acts 66 = .ok (.idiv, 1) := by decide +kernel
theorem dL_acts_67 : decode cL_acts 67 = .ok (.bipush 80, 2) := by decide +kernel
theorem dL_acts_69 : decode cL_acts 69 = .ok (.irem, 1) := by decide +kernel
theorem dL_acts_70 : decode cL_acts 70 = .ok (.bipush 40, 2) := by decide +kernel
theorem dL_acts_72 : decode cL_acts 72 = .ok (.isub, 1) := by decide +kernel
theorem dL_acts_73 : decode cL_acts 73 = .ok (.iastore, 1) := by decide +kernel
theorem dL_acts_74 : decode cL_acts 74 = .ok (.aload_n 0, 1) := by decide +kernel
theorem dL_acts_75 : decode cL_acts 75 = .ok (.iload 6, 2) := by decide +kernel
theorem dL_acts_77 : decode cL_acts 77 = .ok (.aload_n 1, 1) := by decide +kernel
theorem dL_acts_78 : decode cL_acts 78 = .ok (.iload 8, 2) := by decide +kernel
theorem dL_acts_80 : decode cL_acts 80 = .ok (.iaload, 1) := by decide +kernel
theorem dL_acts_81 : decode cL_acts 81 = .ok (.aload_n 1, 1) := by decide +kernel
theorem dL_acts_82 : decode cL_acts 82 = .ok (.iload 8, 2) := by decide +kernel
theorem dL_acts_84 : decode cL_acts 84 = .ok (.iconst 1, 1) := by decide +kernel
theorem dL_acts_85 : decode cL_acts 85 = .ok (.iadd, 1) := by decide +kernel
theorem dL_acts_86 : decode cL_acts 86 = .ok (.iaload, 1) := by decide +kernel
theorem dL_acts_87 : decode cL_acts 87 = .ok (.invokevirtual 120, 3) := by decide +kernel
theorem dL_acts_90 : decode cL_acts 90 = .ok (.iconst 1, 1) := by decide +kernel
theorem dL_acts_91 : decode cL_acts 91 = .ok (.ireturn, 1) := by decide +kernel
theorem dL_acts_92 : decode cL_acts 92 = .ok (.iload 4, 2) := by decide +kernel
theorem dL_acts_94 : decode cL_acts 94 = .ok (.iconst 1, 1) := by decide +kernel
theorem dL_acts_95 : decode cL_acts 95 = .ok (.if_icmp .ne 69, 3) := by decide +kernel
theorem dL_acts_98 : decode cL_acts 98 = .ok (.aload_n 1, 1) := by decide +kernel
theorem dL_acts_99 : decode cL_acts 99 = .ok (.iload 8, 2) := by decide +kernel
theorem dL_acts_101 : decode cL_acts 101 = .ok (.iconst 2, 1) := by decide +kernel
theorem dL_acts_102 : decode cL_acts 102 = .ok (.iadd, 1) := by decide +kernel
theorem dL_acts_103 : decode cL_acts 103 = .ok (.iload 5, 2) := by decide +kernel
theorem dL_acts_105 : decode cL_acts 105 = .ok (.iconst 3, 1) := by decide +kernel
theorem dL_acts_106 : decode cL_acts 106 = .ok (.irem, 1) := by decide +kernel
theorem dL_acts_107 : decode cL_acts 107 = .ok (.ifCond .ne 14, 3) := by decide +kernel
theorem dL_acts_110 : decode cL_acts 110 = .ok (.iconst 1, 1) := by decide +kernel
theorem dL_acts_111 : decode cL_acts 111 = .ok (.aload_n 1, 1) := by decide +kernel
theorem dL_acts_112 : decode cL_acts 112 = .ok (.iload 8, 2) := by decide +kernel
theorem dL_acts_114 : decode cL_acts 114 = .ok (.iconst 2, 1) := by decide +kernel
theorem dL_acts_115 : decode cL_acts 115 = .ok (.iadd, 1) := by decide +kernel
theorem dL_acts_116 : decode cL_acts 116 = .ok (.iaload, 1) := by decide +kernel
theorem dL_acts_117 : decode cL_acts 117 = .ok (.isub, 1) := by decide +kernel
theorem dL_acts_118 : decode cL_acts 118 = .ok (.goto 9, 3) := by decide +kernel
theorem dL_acts_121 : decode cL_acts 121 = .ok (.aload_n 1, 1) := by decide +kernel
theorem dL_acts_122 : decode cL_acts 122 = .ok (.iload 8, 2) := by decide +kernel
theorem dL_acts_124 : decode cL_acts 124 = .ok (.iconst 2, 1) := by decide +kernel
theorem dL_acts_125 : decode cL_acts 125 = .ok (.iadd, 1) := by decide +kernel
theorem dL_acts_126 : decode cL_acts 126 = .ok (.iaload, 1) := by decide +kernel
theorem dL_acts_127 : decode cL_acts 127 = .ok (.iastore, 1) := by decide +kernel
theorem dL_acts_128 : decode cL_acts 128 = .ok (.iload 5, 2) := by decide +kernel
theorem dL_acts_130 : decode cL_acts 130 = .ok (.iconst 3, 1) := by decide +kernel
theorem dL_acts_131 : decode cL_acts 131 = .ok (.irem, 1) := by decide +kernel
theorem dL_acts_132 : decode cL_acts 132 = .ok (.ifCond .gt 26, 3) := by decide +kernel
theorem dL_acts_135 : decode cL_acts 135 = .ok (.aload_n 0, 1) := by decide +kernel
theorem dL_acts_136 : decode cL_acts 136 = .ok (.iload 6, 2) := by decide +kernel
theorem dL_acts_138 : decode cL_acts 138 = .ok (.invokevirtual 124, 3) := by decide +kernel
theorem dL_acts_141 : decode cL_acts 141 = .ok (.aload_n 1, 1) := by decide +kernel
theorem dL_acts_142 : decode cL_acts 142 = .ok (.iload 8, 2) := by decide +kernel
theorem dL_acts_144 : decode cL_acts 144 = .ok (.iconst 2, 1) := by decide +kernel
theorem dL_acts_145 : decode cL_acts 145 = .ok (.iadd, 1) := by decide +kernel
theorem dL_acts_146 : decode cL_acts 146 = .ok (.iaload, 1) := by decide +kernel
theorem dL_acts_147 : decode cL_acts 147 = .ok (.ifCond .ne 7, 3) := by decide +kernel
theorem dL_acts_150 : decode cL_acts 150 = .ok (.iconst 1, 1) := by decide +kernel
theorem dL_acts_151 : decode cL_acts 151 = .ok (.goto 4, 3) := by decide +kernel
theorem dL_acts_154 : decode cL_acts 154 = .ok (.iconst 0, 1) := by decide +kernel
theorem dL_acts_155 : decode cL_acts 155 = .ok (.if_icmp .ne 7, 3) := by decide +kernel
theorem dL_acts_158 : decode cL_acts 158 = .ok (.iconst 1, 1) := by decide +kernel
theorem dL_acts_159 : decode cL_acts 159 = .ok (.goto 4, 3) := by decide +kernel
theorem dL_acts_162 : decode cL_acts 162 = .ok (.iconst 0, 1) := by decide +kernel
theorem dL_acts_163 : decode cL_acts 163 = .ok (.ireturn, 1) := by decide +kernel
theorem dL_acts_164 : decode cL_acts 164 = .ok (.iload 4, 2) := by decide +kernel
theorem dL_acts_166 : decode cL_acts 166 = .ok (.iconst 2, 1) := by decide +kernel
theorem dL_acts_167 : decode cL_acts 167 = .ok (.if_icmp .ne 48, 3) := by decide +kernel
theorem dL_acts_170 : decode cL_acts 170 = .ok (.aload_n 1, 1) := by decide +kernel
theorem dL_acts_171 : decode cL_acts 171 = .ok (.iload 8, 2) := by decide +kernel
theorem dL_acts_173 : decode cL_acts 173 = .ok (.iconst 3, 1) := by decide +kernel
theorem dL_acts_174 : decode cL_acts 174 = .ok (.iadd, 1) := by decide +kernel
theorem dL_acts_175 : decode cL_acts 175 = .ok (.iaload, 1) := by decide +kernel
theorem dL_acts_176 : decode cL_acts 176 = .ok (.istore 9, 2) := by decide +kernel
theorem dL_acts_178 : decode cL_acts 178 = .ok (.aload_n 1, 1) := by decide +kernel
theorem dL_acts_179 : decode cL_acts 179 = .ok (.iload 8, 2) := by decide +kernel
theorem dL_acts_181 : decode cL_acts 181 = .ok (.iconst 3, 1) := by decide +kernel
theorem dL_acts_182 : decode cL_acts 182 = .ok (.iadd, 1) := by decide +kernel
theorem dL_acts_183 : decode cL_acts 183 = .ok (.iload 5, 2) := by decide +kernel
theorem dL_acts_185 : decode cL_acts 185 = .ok (.bipush 8, 2) := by decide +kernel
theorem dL_acts_187 : decode cL_acts 187 = .ok (.idiv, 1) := by decide +kernel
theorem dL_acts_188 : decode cL_acts 188 = .ok (.iconst 4, 1) := by decide +kernel
theorem dL_acts_189 : decode cL_acts 189 = .ok (.irem, 1) := by decide +kernel
theorem dL_acts_190 : decode cL_acts 190 = .ok (.iastore, 1) := by decide +kernel
theorem dL_acts_191 : decode cL_acts 191 = .ok (.aload_n 0, 1) := by decide +kernel
theorem dL_acts_192 : decode cL_acts 192 = .ok (.iload 6, 2) := by decide +kernel
theorem dL_acts_194 : decode cL_acts 194 = .ok (.iload 5, 2) := by decide +kernel
theorem dL_acts_196 : decode cL_acts 196 = .ok (.bipush 8, 2) := by decide +kernel
theorem dL_acts_198 : decode cL_acts 198 = .ok (.idiv, 1) := by decide +kernel
theorem dL_acts_199 : decode cL_acts 199 = .ok (.iconst 4, 1) := by decide +kernel
theorem dL_acts_200 : decode cL_acts 200 = .ok (.irem, 1) := by decide +kernel
theorem dL_acts_201 : decode cL_acts 201 = .ok (.invokevirtual 127, 3) := by decide +kernel
theorem dL_acts_204 : decode cL_acts 204 = .ok (.iload 9, 2) := by decide +kernel
theorem dL_acts_206 : decode cL_acts 206 = .ok (.if_icmp .ne 7, 3) := by decide +kernel
theorem dL_acts_209 : decode cL_acts 209 = .ok (.iconst 1, 1) := by decide +kernel
theorem dL_acts_210 : decode cL_acts 210 = .ok (.goto 4, 3) := by decide +kernel
theorem dL_acts_213 : decode cL_acts 213 = .ok (.iconst 0, 1) := by decide +kernel
theorem dL_acts_214 : decode cL_acts 214 = .ok (.ireturn, 1) := by decide +kernel
theorem dL_acts_215 : decode cL_acts 215 = .ok (.iload 4, 2) := by decide +kernel
theorem dL_acts_217 : decode cL_acts 217 = .ok (.iconst 3, 1) := by decide +kernel
theorem dL_acts_218 : decode cL_acts 218 = .ok (.if_icmp .ne 52, 3) := by decide +kernel
theorem dL_acts_221 : decode cL_acts 221 = .ok (.aload_n 1, 1) := by decide +kernel
theorem dL_acts_222 : decode cL_acts 222 = .ok (.bipush 41, 2) := by decide +kernel
theorem dL_acts_224 : decode cL_acts 224 = .ok (.iaload, 1) := by decide +kernel
theorem dL_acts_225 : decode cL_acts 225 = .ok (.istore 9, 2) := by decide +kernel
theorem dL_acts_227 : decode cL_acts 227 = .ok (.aload_n 1, 1) := by decide +kernel
theorem dL_acts_228 : decode cL_acts 228 = .ok (.bipush 41, 2) := by decide +kernel
theorem dL_acts_230 : decode cL_acts 230 = .ok (.iload 5, 2) := by decide +kernel
theorem dL_acts_232 : decode cL_acts 232 = .ok (.iconst 4, 1) := by decide +kernel
theorem dL_acts_233 : decode cL_acts 233 = .ok (.irem, 1) := by decide +kernel
theorem dL_acts_234 : decode cL_acts 234 = .ok (.ifCond .ne 14, 3) := by decide +kernel
theorem dL_acts_237 : decode cL_acts 237 = .ok (.iload 5, 2) := by decide +kernel
theorem dL_acts_239 : decode cL_acts 239 = .ok (.iconst 4, 1) := by decide +kernel
theorem dL_acts_240 : decode cL_acts 240 = .ok (.idiv, 1) := by decide +kernel
theorem dL_acts_241 : decode cL_acts 241 = .ok (.sipush 200, 3) := by decide +kernel
theorem dL_acts_244 : decode cL_acts 244 = .ok (.irem, 1) := by decide +kernel
theorem dL_acts_245 : decode cL_acts 245 = .ok (.goto 5, 3) := by decide +kernel
theorem dL_acts_248 : decode cL_acts 248 = .ok (.bipush 90, 2) := by decide +kernel
theorem dL_acts_250 : decode cL_acts 250 = .ok (.iastore, 1) := by decide +kernel
theorem dL_acts_251 : decode cL_acts 251 = .ok (.aload_n 0, 1) := by decide +kernel
theorem dL_acts_252 : decode cL_acts 252 = .ok (.aload_n 1, 1) := by decide +kernel
theorem dL_acts_253 : decode cL_acts 253 = .ok (.bipush 41, 2) := by decide +kernel
theorem dL_acts_255 : decode cL_acts 255 = .ok (.iaload, 1) := by decide +kernel
theorem dL_acts_256 : decode cL_acts 256 = .ok (.invokevirtual 130, 3) := by decide +kernel
theorem dL_acts_259 : decode cL_acts 259 = .ok (.iload 9, 2) := by decide +kernel
theorem dL_acts_261 : decode cL_acts 261 = .ok (.if_icmp .ne 7, 3) := by decide +kernel
theorem dL_acts_264 : decode cL_acts 264 = .ok (.iconst 1, 1) := by decide +kernel
theorem dL_acts_265 : decode cL_acts 265 = .ok (.goto 4, 3) := by decide +kernel
theorem dL_acts_268 : decode cL_acts 268 = .ok (.iconst 0, 1) := by decide +kernel
theorem dL_acts_269 : decode cL_acts 269 = .ok (.ireturn, 1) := by decide +kernel
theorem dL_acts_270 : decode cL_acts 270 = .ok (.iload 4, 2) := by decide +kernel
theorem dL_acts_272 : decode cL_acts 272 = .ok (.iconst 4, 1) := by decide +kernel
theorem dL_acts_273 : decode cL_acts 273 = .ok (.if_icmp .ne 65, 3) := by decide +kernel
theorem dL_acts_276 : decode cL_acts 276 = .ok (.iload 6, 2) := by decide +kernel
theorem dL_acts_278 : decode cL_acts 278 = .ok (.iload 7, 2) := by decide +kernel
theorem dL_acts_280 : decode cL_acts 280 = .ok (.if_icmp .eq 58, 3) := by decide +kernel
theorem dL_acts_283 : decode cL_acts 283 = .ok (.aload_n 2, 1) := by decide +kernel
theorem dL_acts_284 : decode cL_acts 284 = .ok (.iload 6, 2) := by decide +kernel
theorem dL_acts_286 : decode cL_acts 286 = .ok (.iload 7, 2) := by decide +kernel
theorem dL_acts_288 : decode cL_acts 288 = .ok (.invokestatic 9, 3) := by decide +kernel
theorem dL_acts_291 : decode cL_acts 291 = .ok (.iconst 1, 1) := by decide +kernel
theorem dL_acts_292 : decode cL_acts 292 = .ok (.aload_n 2, 1) := by decide +kernel
theorem dL_acts_293 : decode cL_acts 293 = .ok (.iload 6, 2) := by decide +kernel
theorem dL_acts_295 : decode cL_acts 295 = .ok (.iload 7, 2) := by decide +kernel
theorem dL_acts_297 : decode cL_acts 297 = .ok (.invokestatic 9, 3) := by decide +kernel
theorem dL_acts_300 : decode cL_acts 300 = .ok (.iaload, 1) := by decide +kernel
theorem dL_acts_301 : decode cL_acts 301 = .ok (.isub, 1) := by decide +kernel
theorem dL_acts_302 : decode cL_acts 302 = .ok (.iastore, 1) := by decide +kernel
theorem dL_acts_303 : decode cL_acts 303 = .ok (.aload_n 0, 1) := by decide +kernel
theorem dL_acts_304 : decode cL_acts 304 = .ok (.iload 6, 2) := by decide +kernel
theorem dL_acts_306 : decode cL_acts 306 = .ok (.iload 7, 2) := by decide +kernel
theorem dL_acts_308 : decode cL_acts 308 = .ok (.invokevirtual 133, 3) := by decide +kernel
theorem dL_acts_311 : decode cL_acts 311 = .ok (.aload_n 2, 1) := by decide +kernel
theorem dL_acts_312 : decode cL_acts 312 = .ok (.iload 6, 2) := by decide +kernel
theorem dL_acts_314 : decode cL_acts 314 = .ok (.iload 7, 2) := by decide +kernel
theorem dL_acts_316 : decode cL_acts 316 = .ok (.invokestatic 9, 3) := by decide +kernel
theorem dL_acts_319 : decode cL_acts 319 = .ok (.iaload, 1) := by decide +kernel
theorem dL_acts_320 : decode cL_acts 320 = .ok (.iconst 1, 1) := by decide +kernel
theorem dL_acts_321 : decode cL_acts 321 = .ok (.if_icmp .ne 7, 3) := by decide +kernel
theorem dL_acts_324 : decode cL_acts 324 = .ok (.iconst 1, 1) := by decide +kernel
theorem dL_acts_325 : decode cL_acts 325 = .ok (.goto 4, 3) := by decide +kernel
theorem dL_acts_328 : decode cL_acts 328 = .ok (.iconst 0, 1) := by decide +kernel
theorem dL_acts_329 : decode cL_acts 329 = .ok (.if_icmp .ne 7, 3) := by decide +kernel
theorem dL_acts_332 : decode cL_acts 332 = .ok (.iconst 1, 1) := by decide +kernel
theorem dL_acts_333 : decode cL_acts 333 = .ok (.goto 4, 3) := by decide +kernel
theorem dL_acts_336 : decode cL_acts 336 = .ok (.iconst 0, 1) := by decide +kernel
theorem dL_acts_337 : decode cL_acts 337 = .ok (.ireturn, 1) := by decide +kernel
theorem dL_acts_338 : decode cL_acts 338 = .ok (.iload 4, 2) := by decide +kernel
theorem dL_acts_340 : decode cL_acts 340 = .ok (.iconst 5, 1) := by decide +kernel
theorem dL_acts_341 : decode cL_acts 341 = .ok (.if_icmp .ne 53, 3) := by decide +kernel
theorem dL_acts_344 : decode cL_acts 344 = .ok (.aload_n 1, 1) := by decide +kernel
theorem dL_acts_345 : decode cL_acts 345 = .ok (.iload 8, 2) := by decide +kernel
theorem dL_acts_347 : decode cL_acts 347 = .ok (.iconst 4, 1) := by decide +kernel
theorem dL_acts_348 : decode cL_acts 348 = .ok (.iadd, 1) := by decide +kernel
theorem dL_acts_349 : decode cL_acts 349 = .ok (.iaload, 1) := by decide +kernel
theorem dL_acts_350 : decode cL_acts 350 = .ok (.istore 9, 2) := by decide +kernel
theorem dL_acts_352 : decode cL_acts 352 = .ok (.aload_n 1, 1) := by decide +kernel
theorem dL_acts_353 : decode cL_acts 353 = .ok (.iload 8, 2) := by decide +kernel
theorem dL_acts_355 : decode cL_acts 355 = .ok (.iconst 4, 1) := by decide +kernel
theorem dL_acts_356 : decode cL_acts 356 = .ok (.iadd, 1) := by decide +kernel
theorem dL_acts_357 : decode cL_acts 357 = .ok (.iload 5, 2) := by decide +kernel
theorem dL_acts_359 : decode cL_acts 359 = .ok (.bipush 8, 2) := by decide +kernel
theorem dL_acts_361 : decode cL_acts 361 = .ok (.idiv, 1) := by decide +kernel
theorem dL_acts_362 : decode cL_acts 362 = .ok (.sipush 2001, 3) := by decide +kernel
theorem dL_acts_365 : decode cL_acts 365 = .ok (.irem, 1) := by decide +kernel
theorem dL_acts_366 : decode cL_acts 366 = .ok (.sipush 1000, 3) := by decide +kernel
theorem dL_acts_369 : decode cL_acts 369 = .ok (.isub, 1) := by decide +kernel
theorem dL_acts_370 : decode cL_acts 370 = .ok (.iastore, 1) := by decide +kernel
theorem dL_acts_371 : decode cL_acts 371 = .ok (.aload_n 0, 1) := by decide +kernel
theorem dL_acts_372 : decode cL_acts 372 = .ok (.iload 6, 2) := by decide +kernel
theorem dL_acts_374 : decode cL_acts 374 = .ok (.aload_n 1, 1) := by decide +kernel
theorem dL_acts_375 : decode cL_acts 375 = .ok (.iload 8, 2) := by decide +kernel
theorem dL_acts_377 : decode cL_acts 377 = .ok (.iconst 4, 1) := by decide +kernel
theorem dL_acts_378 : decode cL_acts 378 = .ok (.iadd, 1) := by decide +kernel
theorem dL_acts_379 : decode cL_acts 379 = .ok (.iaload, 1) := by decide +kernel
theorem dL_acts_380 : decode cL_acts 380 = .ok (.invokevirtual 136, 3) := by decide +kernel
theorem dL_acts_383 : decode cL_acts 383 = .ok (.iload 9, 2) := by decide +kernel
theorem dL_acts_385 : decode cL_acts 385 = .ok (.if_icmp .ne 7, 3) := by decide +kernel
theorem dL_acts_388 : decode cL_acts 388 = .ok (.iconst 1, 1) := by decide +kernel
theorem dL_acts_389 : decode cL_acts 389 = .ok (.goto 4, 3) := by decide +kernel
theorem dL_acts_392 : decode cL_acts 392 = .ok (.iconst 0, 1) := by decide +kernel
theorem dL_acts_393 : decode cL_acts 393 = .ok (.ireturn, 1) := by decide +kernel
theorem dL_acts_394 : decode cL_acts 394 = .ok (.iload 4, 2) := by decide +kernel
theorem dL_acts_396 : decode cL_acts 396 = .ok (.bipush 6, 2) := by decide +kernel
theorem dL_acts_398 : decode cL_acts 398 = .ok (.if_icmp .ne 53, 3) := by decide +kernel
theorem dL_acts_401 : decode cL_acts 401 = .ok (.aload_n 1, 1) := by decide +kernel
theorem dL_acts_402 : decode cL_acts 402 = .ok (.iload 8, 2) := by decide +kernel
theorem dL_acts_404 : decode cL_acts 404 = .ok (.iconst 5, 1) := by decide +kernel
theorem dL_acts_405 : decode cL_acts 405 = .ok (.iadd, 1) := by decide +kernel
theorem dL_acts_406 : decode cL_acts 406 = .ok (.iaload, 1) := by decide +kernel
theorem dL_acts_407 : decode cL_acts 407 = .ok (.istore 9, 2) := by decide +kernel
theorem dL_acts_409 : decode cL_acts 409 = .ok (.aload_n 1, 1) := by decide +kernel
theorem dL_acts_410 : decode cL_acts 410 = .ok (.iload 8, 2) := by decide +kernel
theorem dL_acts_412 : decode cL_acts 412 = .ok (.iconst 5, 1) := by decide +kernel
theorem dL_acts_413 : decode cL_acts 413 = .ok (.iadd, 1) := by decide +kernel
theorem dL_acts_414 : decode cL_acts 414 = .ok (.iload 5, 2) := by decide +kernel
theorem dL_acts_416 : decode cL_acts 416 = .ok (.bipush 8, 2) := by decide +kernel
theorem dL_acts_418 : decode cL_acts 418 = .ok (.idiv, 1) := by decide +kernel
theorem dL_acts_419 : decode cL_acts 419 = .ok (.sipush 2001, 3) := by decide +kernel
theorem dL_acts_422 : decode cL_acts 422 = .ok (.irem, 1) := by decide +kernel
theorem dL_acts_423 : decode cL_acts 423 = .ok (.sipush 1000, 3) := by decide +kernel
theorem dL_acts_426 : decode cL_acts 426 = .ok (.isub, 1) := by decide +kernel
theorem dL_acts_427 : decode cL_acts 427 = .ok (.iastore, 1) := by decide +kernel
theorem dL_acts_428 : decode cL_acts 428 = .ok (.aload_n 0, 1) := by decide +kernel
theorem dL_acts_429 : decode cL_acts 429 = .ok (.iload 6, 2) := by decide +kernel
theorem dL_acts_431 : decode cL_acts 431 = .ok (.aload_n 1, 1) := by decide +kernel
theorem dL_acts_432 : decode cL_acts 432 = .ok (.iload 8, 2) := by decide +kernel
theorem dL_acts_434 : decode cL_acts 434 = .ok (.iconst 5, 1) := by decide +kernel
theorem dL_acts_435 : decode cL_acts 435 = .ok (.iadd, 1) := by decide +kernel
theorem dL_acts_436 : decode cL_acts 436 = .ok (.iaload, 1) := by decide +kernel
theorem dL_acts_437 : decode cL_acts 437 = .ok (.invokevirtual 139, 3) := by decide +kernel
theorem dL_acts_440 : decode cL_acts 440 = .ok (.iload 9, 2) := by decide +kernel
theorem dL_acts_442 : decode cL_acts 442 = .ok (.if_icmp .ne 7, 3) := by decide +kernel
theorem dL_acts_445 : decode cL_acts 445 = .ok (.iconst 1, 1) := by decide +kernel
theorem dL_acts_446 : decode cL_acts 446 = .ok (.goto 4, 3) := by decide +kernel
theorem dL_acts_449 : decode cL_acts 449 = .ok (.iconst 0, 1) := by decide +kernel
theorem dL_acts_450 : decode cL_acts 450 = .ok (.ireturn, 1) := by decide +kernel
theorem dL_acts_451 : decode cL_acts 451 = .ok (.iload 4, 2) := by decide +kernel
theorem dL_acts_453 : decode cL_acts 453 = .ok (.bipush 9, 2) := by decide +kernel
theorem dL_acts_455 : decode cL_acts 455 = .ok (.if_icmp .ge 106, 3) := by decide +kernel
theorem dL_acts_458 : decode cL_acts 458 = .ok (.iload 6, 2) := by decide +kernel
theorem dL_acts_460 : decode cL_acts 460 = .ok (.iload 7, 2) := by decide +kernel
theorem dL_acts_462 : decode cL_acts 462 = .ok (.if_icmp .eq 99, 3) := by decide +kernel
theorem dL_acts_465 : decode cL_acts 465 = .ok (.aload_n 3, 1) := by decide +kernel
theorem dL_acts_466 : decode cL_acts 466 = .ok (.iload 6, 2) := by decide +kernel
theorem dL_acts_468 : decode cL_acts 468 = .ok (.iload 7, 2) := by decide +kernel
theorem dL_acts_470 : decode cL_acts 470 = .ok (.invokestatic 9, 3) := by decide +kernel
theorem dL_acts_473 : decode cL_acts 473 = .ok (.iaload, 1) := by decide +kernel
theorem dL_acts_474 : decode cL_acts 474 = .ok (.istore 9, 2) := by decide +kernel
theorem dL_acts_476 : decode cL_acts 476 = .ok (.aload_n 3, 1) := by decide +kernel
theorem dL_acts_477 : decode cL_acts 477 = .ok (.iload 6, 2) := by decide +kernel
theorem dL_acts_479 : decode cL_acts 479 = .ok (.iload 7, 2) := by decide +kernel
theorem dL_acts_481 : decode cL_acts 481 = .ok (.invokestatic 9, 3) := by decide +kernel
theorem dL_acts_484 : decode cL_acts 484 = .ok (.iload 5, 2) := by decide +kernel
theorem dL_acts_486 : decode cL_acts 486 = .ok (.bipush 32, 2) := by decide +kernel
theorem dL_acts_488 : decode cL_acts 488 = .ok (.idiv, 1) := by decide +kernel
theorem dL_acts_489 : decode cL_acts 489 = .ok (.iconst 5, 1) := by decide +kernel
theorem dL_acts_490 : decode cL_acts 490 = .ok (.irem, 1) := by decide +kernel
theorem dL_acts_491 : decode cL_acts 491 = .ok (.ifCond .ne 7, 3) := by decide +kernel
theorem dL_acts_494 : decode cL_acts 494 = .ok (.iconst 0, 1) := by decide +kernel
theorem dL_acts_495 : decode cL_acts 495 = .ok (.goto 15, 3) := by decide +kernel
theorem dL_acts_498 : decode cL_acts 498 = .ok (.iconst 1, 1) := by decide +kernel
theorem dL_acts_499 : decode cL_acts 499 = .ok (.iload 5, 2) := by decide +kernel
theorem dL_acts_501 : decode cL_acts 501 = .ok (.sipush 160, 3) := by decide +kernel
theorem dL_acts_504 : decode cL_acts 504 = .ok (.idiv, 1) := by decide +kernel
theorem dL_acts_505 : decode cL_acts 505 = .ok (.sipush 9000, 3) := by decide +kernel
theorem dL_acts_508 : decode cL_acts 508 = .ok (.irem, 1) := by decide +kernel
theorem dL_acts_509 : decode cL_acts 509 = .ok (.iadd, 1) := by decide +kernel
theorem dL_acts_510 : decode cL_acts 510 = .ok (.iastore, 1) := by decide +kernel
theorem dL_acts_511 : decode cL_acts 511 = .ok (.aload_n 3, 1) := by decide +kernel
theorem dL_acts_512 : decode cL_acts 512 = .ok (.iload 6, 2) := by decide +kernel
theorem dL_acts_514 : decode cL_acts 514 = .ok (.iload 7, 2) := by decide +kernel
theorem dL_acts_516 : decode cL_acts 516 = .ok (.invokestatic 9, 3) := by decide +kernel
theorem dL_acts_519 : decode cL_acts 519 = .ok (.iaload, 1) := by decide +kernel
theorem dL_acts_520 : decode cL_acts 520 = .ok (.istore 10, 2) := by decide +kernel
theorem dL_acts_522 : decode cL_acts 522 = .ok (.aload_n 0, 1) := by decide +kernel
theorem dL_acts_523 : decode cL_acts 523 = .ok (.iload 6, 2) := by decide +kernel
theorem dL_acts_525 : decode cL_acts 525 = .ok (.iload 7, 2) := by decide +kernel
theorem dL_acts_527 : decode cL_acts 527 = .ok (.iload 10, 2) := by decide +kernel
theorem dL_acts_529 : decode cL_acts 529 = .ok (.ifCond .ne 7, 3) := by decide +kernel
theorem dL_acts_532 : decode cL_acts 532 = .ok (.iconst (-1), 1) := by decide +kernel
theorem dL_acts_533 : decode cL_acts 533 = .ok (.goto 5, 3) := by decide +kernel
theorem dL_acts_536 : decode cL_acts 536 = .ok (.iload 10, 2) := by decide +kernel
theorem dL_acts_538 : decode cL_acts 538 = .ok (.invokevirtual 142, 3) := by decide +kernel
theorem dL_acts_541 : decode cL_acts 541 = .ok (.iload 9, 2) := by decide +kernel
theorem dL_acts_543 : decode cL_acts 543 = .ok (.ifCond .ne 7, 3) := by decide +kernel
theorem dL_acts_546 : decode cL_acts 546 = .ok (.iconst (-1), 1) := by decide +kernel
theorem dL_acts_547 : decode cL_acts 547 = .ok (.goto 5, 3) := by decide +kernel
theorem dL_acts_550 : decode cL_acts 550 = .ok (.iload 9, 2) := by decide +kernel
theorem dL_acts_552 : decode cL_acts 552 = .ok (.if_icmp .ne 7, 3) := by decide +kernel
theorem dL_acts_555 : decode cL_acts 555 = .ok (.iconst 1, 1) := by decide +kernel
theorem dL_acts_556 : decode cL_acts 556 = .ok (.goto 4, 3) := by decide +kernel
theorem dL_acts_559 : decode cL_acts 559 = .ok (.iconst 0, 1) := by decide +kernel
theorem dL_acts_560 : decode cL_acts 560 = .ok (.ireturn, 1) := by decide +kernel
theorem dL_acts_561 : decode cL_acts 561 = .ok (.iconst 1, 1) := by decide +kernel
theorem dL_acts_562 : decode cL_acts 562 = .ok (.iload 5, 2) := by decide +kernel
theorem dL_acts_564 : decode cL_acts 564 = .ok (.iconst 3, 1) := by decide +kernel
theorem dL_acts_565 : decode cL_acts 565 = .ok (.irem, 1) := by decide +kernel
theorem dL_acts_566 : decode cL_acts 566 = .ok (.iadd, 1) := by decide +kernel
theorem dL_acts_567 : decode cL_acts 567 = .ok (.istore 9, 2) := by decide +kernel
theorem dL_acts_569 : decode cL_acts 569 = .ok (.iconst 0, 1) := by decide +kernel
theorem dL_acts_570 : decode cL_acts 570 = .ok (.istore 10, 2) := by decide +kernel
theorem dL_acts_572 : decode cL_acts 572 = .ok (.iconst 0, 1) := by decide +kernel
theorem dL_acts_573 : decode cL_acts 573 = .ok (.istore 11, 2) := by decide +kernel
theorem dL_acts_575 : decode cL_acts 575 = .ok (.iload 11, 2) := by decide +kernel
theorem dL_acts_577 : decode cL_acts 577 = .ok (.iload 9, 2) := by decide +kernel
theorem dL_acts_579 : decode cL_acts 579 = .ok (.if_icmp .ge 52, 3) := by decide +kernel
theorem dL_acts_582 : decode cL_acts 582 = .ok (.iload 4, 2) := by decide +kernel
theorem dL_acts_584 : decode cL_acts 584 = .ok (.bipush 11, 2) := by decide +kernel
theorem dL_acts_586 : decode cL_acts 586 = .ok (.if_icmp .ge 13, 3) := by decide +kernel
theorem dL_acts_589 : decode cL_acts 589 = .ok (.aload_n 1, 1) := by decide +kernel
theorem dL_acts_590 : decode cL_acts 590 = .ok (.aload_n 2, 1) := by decide +kernel
theorem dL_acts_591 : decode cL_acts 591 = .ok (.invokestatic 146, 3) := by decide +kernel
theorem dL_acts_594 : decode cL_acts 594 = .ok (.istore 10, 2) := by decide +kernel
theorem dL_acts_596 : decode cL_acts 596 = .ok (.goto 29, 3) := by decide +kernel
theorem dL_acts_599 : decode cL_acts 599 = .ok (.iload 4, 2) := by decide +kernel
theorem dL_acts_601 : decode cL_acts 601 = .ok (.bipush 13, 2) := by decide +kernel
theorem dL_acts_603 : decode cL_acts 603 = .ok (.if_icmp .ge 16, 3) := by decide +kernel
theorem dL_acts_606 : decode cL_acts 606 = .ok (.iload 10, 2) := by decide +kernel
theorem dL_acts_608 : decode cL_acts 608 = .ok (.aload_n 1, 1) := by decide +kernel
theorem dL_acts_609 : decode cL_acts 609 = .ok (.aload_n 2, 1) := by decide +kernel
theorem dL_acts_610 : decode cL_acts 610 = .ok (.invokestatic 149, 3) := by decide +kernel
theorem dL_acts_613 : decode cL_acts 613 = .ok (.iadd, 1) := by decide +kernel
theorem dL_acts_614 : decode cL_acts 614 = .ok (.istore 10, 2) := by decide +kernel
theorem dL_acts_616 : decode cL_acts 616 = .ok (.goto 9, 3) := by decide +kernel
theorem dL_acts_619 : decode cL_acts 619 = .ok (.aload_n 1, 1) := by decide +kernel
theorem dL_acts_620 : decode cL_acts 620 = .ok (.aload_n 2, 1) := by decide +kernel
theorem dL_acts_621 : decode cL_acts 621 = .ok (.aload_n 3, 1) := by decide +kernel
theorem dL_acts_622 : decode cL_acts 622 = .ok (.invokestatic 152, 3) := by decide +kernel
theorem dL_acts_625 : decode cL_acts 625 = .ok (.iinc 11 1, 3) := by decide +kernel
theorem dL_acts_628 : decode cL_acts 628 = .ok (.goto (-53), 3) := by decide +kernel
theorem dL_acts_631 : decode cL_acts 631 = .ok (.iload 4, 2) := by decide +kernel
theorem dL_acts_633 : decode cL_acts 633 = .ok (.bipush 11, 2) := by decide +kernel
theorem dL_acts_635 : decode cL_acts 635 = .ok (.if_icmp .ge 22, 3) := by decide +kernel
theorem dL_acts_638 : decode cL_acts 638 = .ok (.aload_n 0, 1) := by decide +kernel
theorem dL_acts_639 : decode cL_acts 639 = .ok (.iload 9, 2) := by decide +kernel
theorem dL_acts_641 : decode cL_acts 641 = .ok (.invokevirtual 156, 3) := by decide +kernel
theorem dL_acts_644 : decode cL_acts 644 = .ok (.iload 10, 2) := by decide +kernel
theorem dL_acts_646 : decode cL_acts 646 = .ok (.if_icmp .ne 7, 3) := by decide +kernel
theorem dL_acts_649 : decode cL_acts 649 = .ok (.iconst 1, 1) := by decide +kernel
theorem dL_acts_650 : decode cL_acts 650 = .ok (.goto 53, 3) := by decide +kernel
theorem dL_acts_653 : decode cL_acts 653 = .ok (.iconst 0, 1) := by decide +kernel
theorem dL_acts_654 : decode cL_acts 654 = .ok (.goto 49, 3) := by decide +kernel
theorem dL_acts_657 : decode cL_acts 657 = .ok (.iload 4, 2) := by decide +kernel
theorem dL_acts_659 : decode cL_acts 659 = .ok (.bipush 13, 2) := by decide +kernel
theorem dL_acts_661 : decode cL_acts 661 = .ok (.if_icmp .ge 22, 3) := by decide +kernel
theorem dL_acts_664 : decode cL_acts 664 = .ok (.aload_n 0, 1) := by decide +kernel
theorem dL_acts_665 : decode cL_acts 665 = .ok (.iload 9, 2) := by decide +kernel
theorem dL_acts_667 : decode cL_acts 667 = .ok (.invokevirtual 159, 3) := by decide +kernel
theorem dL_acts_670 : decode cL_acts 670 = .ok (.iload 10, 2) := by decide +kernel
theorem dL_acts_672 : decode cL_acts 672 = .ok (.if_icmp .ne 7, 3) := by decide +kernel
theorem dL_acts_675 : decode cL_acts 675 = .ok (.iconst 1, 1) := by decide +kernel
theorem dL_acts_676 : decode cL_acts 676 = .ok (.goto 27, 3) := by decide +kernel
theorem dL_acts_679 : decode cL_acts 679 = .ok (.iconst 0, 1) := by decide +kernel
theorem dL_acts_680 : decode cL_acts 680 = .ok (.goto 23, 3) := by decide +kernel
theorem dL_acts_683 : decode cL_acts 683 = .ok (.aload_n 0, 1) := by decide +kernel
theorem dL_acts_684 : decode cL_acts 684 = .ok (.iload 9, 2) := by decide +kernel
theorem dL_acts_686 : decode cL_acts 686 = .ok (.invokevirtual 161, 3) := by decide +kernel
theorem dL_acts_689 : decode cL_acts 689 = .ok (.aload_n 1, 1) := by decide +kernel
theorem dL_acts_690 : decode cL_acts 690 = .ok (.aload_n 2, 1) := by decide +kernel
theorem dL_acts_691 : decode cL_acts 691 = .ok (.aload_n 3, 1) := by decide +kernel
theorem dL_acts_692 : decode cL_acts 692 = .ok (.invokestatic 163, 3) := by decide +kernel
theorem dL_acts_695 : decode cL_acts 695 = .ok (.if_icmp .ne 7, 3) := by decide +kernel
theorem dL_acts_698 : decode cL_acts 698 = .ok (.iconst 1, 1) := by decide +kernel
theorem dL_acts_699 : decode cL_acts 699 = .ok (.goto 4, 3) := by decide +kernel
theorem dL_acts_702 : decode cL_acts 702 = .ok (.iconst 0, 1) := by decide +kernel
theorem dL_acts_703 : decode cL_acts 703 = .ok (.ireturn, 1) := by decide +kernel
set_option maxRecDepth 20000 in
theorem ggL_holds_X4_init : GoodIn wsL_holds wsX4_init := goodIn_r _ [8, 9, 10, 11, 4, 12, 13, 14, 15, 16, 17, 18, 19, 20, 21, 22, 23, 24, 25, 26, 27, 28, 29, 30, 31, 32, 33, 34, 35, 36, 37, 38, 39, 40, 41, 42, 43, 44, 45, 46, 47, 48, 49, 50, 51, 52, 53, 54, 55, 56, 57, 58, 59, 60, 61, 62, 63, 64, 65, 66, 67, 470, 471, 472, 473, 474, 475, 476, 477, 478, 479, 480, 481, 482, 483, 484, 485, 486, 487, 488, 489, 490, 491, 492, 493] (by decide +kernel) (by decide +kernel)
set_option maxRecDepth 20000 in
theorem gL_holds_X4_init : GoodIn wsL_holds (wsX4_init) := ggL_holds_X4_init
set_option maxRecDepth 20000 in
theorem ggL_holds_X4_agree : GoodIn wsL_holds wsX4_agree := goodIn_ca (goodIn_r _ [71, 72, 73, 3, 74, 75, 76, 77, 78, 79, 80, 81, 82, 83, 29, 27, 84, 25, 85, 86, 47, 87, 65, 66, 67, 88, 89, 90, 91, 15, 26, 28, 92, 93, 94, 95, 96, 97, 98, 99, 100, 101, 12, 13, 102, 103, 104, 105, 106, 107, 108, 109, 110, 111, 30, 17, 64, 112, 113, 114, 115, 116, 117, 118, 119, 120, 121, 122, 123, 124, 125, 126, 127, 128, 129, 130, 131, 132, 133, 134, 135, 136, 137, 138, 139, 140, 470, 471, 472, 473, 474, 475, 476, 477, 478, 479, 480, 481, 482, 483, 484, 485, 486, 487, 488] (by decide +kernel) (by decide +kernel)) (goodIn_sub (fun _ h => List.mem_cons_of_mem _ (List.mem_append_left _ (List.mem_append_left _ (List.mem_append_left _ (List.mem_append_right _ h))))) (by decide +kernel))
set_option maxRecDepth 20000 in
theorem gL_holds_X4_agree : GoodIn wsL_holds (wsV RL 156 RX4 yX4_agree wsX4_agree) := goodIn_app (goodIn_of _ (by decide +kernel)) ggL_holds_X4_agree
set_option maxRecDepth 20000 in
theorem ggL_holds_X4_spread : GoodIn wsL_holds wsX4_spread := goodIn_ca (goodIn_r _ [144, 72, 73, 3, 74, 75, 76, 77, 78, 79, 80, 81, 82, 83, 29, 27, 84, 25, 85, 86, 47, 87, 65, 66, 67, 88, 89, 90, 91, 15, 26, 28, 92, 93, 94, 95, 96, 97, 98, 99, 100, 101, 12, 13, 102, 103, 104, 105, 106, 107, 145, 146, 147, 148, 30, 31, 18, 19, 20, 64, 149, 150, 151, 152, 153, 154, 155, 130, 131, 132, 133, 470, 471, 472, 473, 474, 475, 476, 477, 478, 479, 480, 481, 482, 483, 484, 485, 486, 487, 488] (by decide +kernel) (by decide +kernel)) (goodIn_sub (fun _ h => List.mem_cons_of_mem _ (List.mem_append_left _ (List.mem_append_left _ (List.mem_append_left _ (List.mem_append_right _ h))))) (by decide +kernel))
set_option maxRecDepth 20000 in
theorem gL_holds_X4_spread : GoodIn wsL_holds (wsV RL 159 RX4 yX4_spread wsX4_spread) := goodIn_app (goodIn_of _ (by decide +kernel)) ggL_holds_X4_spread
set_option maxRecDepth 20000 in
theorem ggL_holds_X4_trees : GoodIn wsL_holds wsX4_trees := goodIn_r _ [159, 43, 29, 80, 81, 82, 3, 83, 27, 84, 25, 85, 86, 47, 87, 65, 66, 67, 88, 89, 90, 91, 15, 26, 28, 92, 93, 94, 95, 96, 97, 98, 99, 100, 101, 12, 13, 102, 103, 104, 105, 106, 107, 160, 161, 162, 163, 164, 42, 165, 166, 167, 168, 125, 169, 170, 171, 172, 173, 174, 175, 176, 63, 177, 178, 179, 180, 120, 121, 122, 123, 124, 126, 127, 128, 129, 181, 182, 183, 184, 470, 471, 472, 473, 474, 475, 476, 477, 478, 479, 480, 481, 482, 483, 484, 485, 486, 487, 488, 493] (by decide +kernel) (by decide +kernel)
set_option maxRecDepth 20000 in
theorem gL_holds_X4_trees : GoodIn wsL_holds (wsV RL 86 RX4 yX4_trees wsX4_trees) := goodIn_app (goodIn_of _ (by decide +kernel)) ggL_holds_X4_trees
set_option maxRecDepth 20000 in
theorem ggL_holds_X4_isRigid : GoodIn wsL_holds wsX4_isRigid := goodIn_r _ [188, 35, 29, 80, 81, 82, 3, 83, 27, 84, 25, 85, 86, 47, 87, 65, 66, 67, 88, 89, 90, 91, 15, 26, 28, 92, 93, 94, 95, 96, 97, 98, 99, 100, 101, 12, 13, 102, 103, 104, 105, 106, 107, 160, 161, 162, 163, 189, 124, 125, 126, 127, 128, 129, 190, 191, 192, 193, 194, 195, 196, 197, 34, 198, 199, 51, 52, 200, 201, 202, 203, 204, 205, 206, 207, 208, 209, 210, 211, 212, 53, 213, 214, 215, 216, 217, 218, 219, 220, 221, 222, 223, 224, 171, 172, 470, 471, 472, 473, 474, 475, 476, 477, 478, 479, 480, 481, 482, 483, 484, 485, 486, 487, 488, 489, 490, 491] (by decide +kernel) (by decide +kernel)
set_option maxRecDepth 20000 in
theorem gL_holds_X4_isRigid : GoodIn wsL_holds (wsV RL 98 RX4 yX4_isRigid wsX4_isRigid) := goodIn_app (goodIn_of _ (by decide +kernel)) ggL_holds_X4_isRigid
set_option maxRecDepth 20000 in
theorem ggL_holds_L_from : GoodIn wsL_holds wsL_from := goodIn_r _ [228, 229, 230] (by decide +kernel) (by decide +kernel)
set_option maxRecDepth 20000 in
theorem gL_holds_L_from : GoodIn wsL_holds (va_wsS RL 168 yL_from wsL_from) := goodIn_app (goodIn_of _ (by decide +kernel)) ggL_holds_L_from
set_option maxRecDepth 20000 in
theorem ggL_holds_X4_addMember : GoodIn wsL_holds wsX4_addMember := goodIn_ca (goodIn_ca (goodIn_r _ [234, 235, 236, 27, 12, 13, 15, 19, 20, 237, 238, 3, 239, 75, 76, 77, 78, 79, 470, 471, 472, 473, 474, 475, 476, 477, 478, 479, 480, 481, 482, 483, 484, 485, 486, 487] (by decide +kernel) (by decide +kernel)) (goodIn_sub (fun _ h => List.mem_cons_of_mem _ (List.mem_append_left _ (List.mem_append_left _ (List.mem_append_right _ h)))) (by decide +kernel))) (goodIn_sub (fun _ h => List.mem_cons_of_mem _ (List.mem_append_left _ (List.mem_append_left _ (List.mem_append_left _ (List.mem_append_right _ h))))) (by decide +kernel))
set_option maxRecDepth 20000 in
theorem gL_holds_X4_addMember : GoodIn wsL_holds (wsV RL 172 RX4 yX4_addMember wsX4_addMember) := goodIn_app (goodIn_of _ (by decide +kernel)) ggL_holds_X4_addMember
set_option maxRecDepth 20000 in
theorem ggL_holds_L_isLinked : GoodIn wsL_holds wsL_isLinked := goodIn_ca (goodIn_r _ [364, 365, 366, 227, 367, 301, 302, 303, 265, 266, 267, 304, 305, 306, 368, 369, 370, 3, 371, 29, 80, 81, 82, 83, 27, 84, 25, 85, 86, 47, 87, 65, 66, 67, 88, 89, 90, 91, 15, 26, 28, 92, 93, 94, 95, 96, 97, 98, 99, 100, 101, 12, 13, 102, 103, 104, 105, 106, 107, 372, 373, 374, 375, 120, 121, 122, 123, 124, 125, 126, 127, 128, 129, 307, 308, 309, 376, 377, 378, 379, 380, 381, 382, 383, 384, 385, 386, 247, 248, 249, 250, 251, 252, 387, 388, 389, 390, 391, 392, 393, 394, 194, 195, 196, 395, 396, 397, 398, 16, 399, 400, 401, 402, 403, 404, 405, 406, 407, 408, 409, 410, 17, 411, 412, 413, 414, 18, 415, 416, 417, 418, 19, 419, 420, 421, 422, 190, 191, 192, 193, 470, 471, 472, 473, 474, 475, 476, 477, 478, 479, 480, 481, 482, 483, 484, 485, 486, 487, 488] (by decide +kernel) (by decide +kernel)) (goodIn_sub (fun _ h => List.mem_cons_of_mem _ (List.mem_append_left _ (List.mem_append_right _ h))) (by decide +kernel))
set_option maxRecDepth 20000 in
theorem gL_holds_L_isLinked : GoodIn wsL_holds (va_wsS RL 179 yL_isLinked wsL_isLinked) := goodIn_app (goodIn_of _ (by decide +kernel)) ggL_holds_L_isLinked
set_option maxRecDepth 20000 in
theorem ggL_holds_X4_error : GoodIn wsL_holds wsX4_error := goodIn_r _ [355, 27, 356, 357, 118, 358, 80, 81, 82, 3, 83, 29, 84, 25, 85, 86, 47, 87, 65, 66, 67, 88, 89, 90, 91, 15, 26, 28, 92, 93, 94, 95, 96, 97, 98, 99, 100, 101, 12, 13, 102, 103, 104, 105, 106, 107, 345, 346, 347, 348, 22, 470, 471, 472, 473, 474, 475, 476, 477, 478, 479, 480, 481, 482, 483, 484, 485, 486, 487, 488] (by decide +kernel) (by decide +kernel)
set_option maxRecDepth 20000 in
theorem gL_holds_X4_error : GoodIn wsL_holds (wsV RL 183 RX4 yX4_error wsX4_error) := goodIn_app (goodIn_of _ (by decide +kernel)) ggL_holds_X4_error
set_option maxRecDepth 20000 in
theorem ggL_holds_L_error : GoodIn wsL_holds wsL_error := goodIn_r _ [361, 301, 302, 227, 303, 265, 266, 267, 304, 305, 306] (by decide +kernel) (by decide +kernel)
set_option maxRecDepth 20000 in
theorem gL_holds_L_error : GoodIn wsL_holds (va_wsS RL 163 yL_error wsL_error) := goodIn_app (goodIn_of _ (by decide +kernel)) ggL_holds_L_error
set_option maxRecDepth 20000 in
theorem ggL_holds_L_isFigure : GoodIn wsL_holds wsL_isFigure := goodIn_ca (goodIn_ca (goodIn_r _ [426, 365, 366, 227, 367, 301, 302, 303, 265, 266, 267, 304, 305, 306, 427, 428, 429, 307, 308, 309, 430, 431, 432, 433, 434, 435, 380, 381, 382, 156, 157, 158, 3, 159, 43, 29, 80, 81, 82, 83, 27, 84, 25, 85, 86, 47, 87, 65, 66, 67, 88, 89, 90, 91, 15, 26, 28, 92, 93, 94, 95, 96, 97, 98, 99, 100, 101, 12, 13, 102, 103, 104, 105, 106, 107, 160, 161, 162, 163, 164, 42, 165, 166, 167, 168, 125, 169, 170, 171, 172, 173, 174, 175, 176, 63, 177, 178, 179, 180, 120, 121, 122, 123, 124, 126, 127, 128, 129, 181, 182, 183, 184, 436, 437, 438, 439, 440, 441, 442, 35, 197, 34, 198, 199, 51, 52, 200, 201, 202, 203, 204, 205, 206, 207, 208, 209, 210, 211, 212, 53, 213, 214, 215, 216, 217, 218, 219, 220, 221, 222, 223, 224, 443, 444, 445, 446, 39, 447, 38, 448, 449, 57, 450, 451, 452, 453, 454, 455, 456, 457, 458, 459, 185, 186, 187, 188, 189, 190, 191, 192, 193, 194, 195, 196, 460, 461, 462, 463, 464, 465, 466, 467, 468, 469, 247, 248, 249, 250, 251, 252, 276, 277, 278, 279, 470, 471, 472, 473, 474, 475, 476, 477, 478, 479, 480, 481, 482, 483, 484, 485, 486, 487, 488, 493, 489, 490, 491, 492] (by decide +kernel) (by decide +kernel)) (goodIn_sub (fun _ h => List.mem_cons_of_mem _ (List.mem_append_right _ h)) (by decide +kernel))) (goodIn_sub (fun _ h => List.mem_cons_of_mem _ (List.mem_append_left _ (List.mem_append_right _ h))) (by decide +kernel))
set_option maxRecDepth 20000 in
theorem gL_holds_L_isFigure : GoodIn wsL_holds (va_wsS RL 185 yL_isFigure wsL_isFigure) := goodIn_app (goodIn_of _ (by decide +kernel)) ggL_holds_L_isFigure
theorem dL_holds_0 : decode cL_holds 0 = .ok (.new 39, 3) := by decide +kernel
theorem dL_holds_3 : decode cL_holds 3 = .ok (.dup, 1) := by decide +kernel
theorem dL_holds_4 : decode cL_holds 4 = .ok (.invokespecial 167, 3) := by decide +kernel
theorem dL_holds_7 : decode cL_holds 7 = .ok (.astore_n 1, 1) := by decide +kernel
theorem dL_holds_8 : decode cL_holds 8 = .ok (.bipush 48, 2) := by decide +kernel
theorem dL_holds_10 : decode cL_holds 10 = .ok (.newarray .int, 2) := by decide +kernel
theorem dL_holds_12 : decode cL_holds 12 = .ok (.astore_n 2, 1) := by decide +kernel
theorem dL_holds_13 : decode cL_holds 13 = .ok (.bipush 25, 2) := by decide +kernel
theorem dL_holds_15 : decode cL_holds 15 = .ok (.newarray .int, 2) := by decide +kernel
theorem dL_holds_17 : decode cL_holds 17 = .ok (.astore_n 3, 1) := by decide +kernel
theorem dL_holds_18 : decode cL_holds 18 = .ok (.bipush 25, 2) := by decide +kernel
theorem dL_holds_20 : decode cL_holds 20 = .ok (.newarray .int, 2) := by decide +kernel
theorem dL_holds_22 : decode cL_holds 22 = .ok (.astore 4, 2) := by decide +kernel
theorem dL_holds_24 : decode cL_holds 24 = .ok (.aload_n 2, 1) := by decide +kernel
theorem dL_holds_25 : decode cL_holds 25 = .ok (.bipush 41, 2) := by decide +kernel
theorem dL_holds_27 : decode cL_holds 27 = .ok (.bipush 100, 2) := by decide +kernel
theorem dL_holds_29 : decode cL_holds 29 = .ok (.iastore, 1) := by decide +kernel
theorem dL_holds_30 : decode cL_holds 30 = .ok (.aload_n 1, 1) := by decide +kernel
theorem dL_holds_31 : decode cL_holds 31 = .ok (.iconst 2, 1) := by decide +kernel
theorem dL_holds_32 : decode cL_holds 32 = .ok (.invokevirtual 156, 3) := by decide +kernel
theorem dL_holds_35 : decode cL_holds 35 = .ok (.ifCond .ne 31, 3) := by decide +kernel
theorem dL_holds_38 : decode cL_holds 38 = .ok (.aload_n 1, 1) := by decide +kernel
theorem dL_holds_39 : decode cL_holds 39 = .ok (.iconst 1, 1) := by decide +kernel
theorem dL_holds_40 : decode cL_holds 40 = .ok (.invokevirtual 159, 3) := by decide +kernel
theorem dL_holds_43 : decode cL_holds 43 = .ok (.ifCond .ne 23, 3) := by decide +kernel
theorem dL_holds_46 : decode cL_holds 46 = .ok (.aload_n 1, 1) := by decide +kernel
theorem dL_holds_47 : decode cL_holds 47 = .ok (.invokevirtual 86, 3) := by decide +kernel
theorem dL_holds_50 : decode cL_holds 50 = .ok (.lconst 0, 1) := by decide +kernel
theorem dL_holds_51 : decode cL_holds 51 = .ok (.lcmp, 1) := by decide +kernel
theorem dL_holds_52 : decode cL_holds 52 = .ok (.ifCond .ne 14, 3) := by decide +kernel
theorem dL_holds_55 : decode cL_holds 55 = .ok (.aload_n 1, 1) := by decide +kernel
theorem dL_holds_56 : decode cL_holds 56 = .ok (.invokevirtual 98, 3) := by decide +kernel
theorem dL_holds_59 : decode cL_holds 59 = .ok (.ifCond .ne 7, 3) := by decide +kernel
theorem dL_holds_62 : decode cL_holds 62 = .ok (.iconst 1, 1) := by decide +kernel
theorem dL_holds_63 : decode cL_holds 63 = .ok (.goto 4, 3) := by decide +kernel
theorem dL_holds_66 : decode cL_holds 66 = .ok (.iconst 0, 1) := by decide +kernel
theorem dL_holds_67 : decode cL_holds 67 = .ok (.istore 5, 2) := by decide +kernel
theorem dL_holds_69 : decode cL_holds 69 = .ok (.iconst 0, 1) := by decide +kernel
theorem dL_holds_70 : decode cL_holds 70 = .ok (.istore 6, 2) := by decide +kernel
theorem dL_holds_72 : decode cL_holds 72 = .ok (.iload 6, 2) := by decide +kernel
theorem dL_holds_74 : decode cL_holds 74 = .ok (.bipush 90, 2) := by decide +kernel
theorem dL_holds_76 : decode cL_holds 76 = .ok (.if_icmp .ge 218, 3) := by decide +kernel
theorem dL_holds_79 : decode cL_holds 79 = .ok (.iload 5, 2) := by decide +kernel
theorem dL_holds_81 : decode cL_holds 81 = .ok (.ifCond .eq 213, 3) := by decide +kernel
theorem dL_holds_84 : decode cL_holds 84 = .ok (.aload_n 0, 1) := by decide +kernel
theorem dL_holds_85 : decode cL_holds 85 = .ok (.iconst 2, 1) := by decide +kernel
theorem dL_holds_86 : decode cL_holds 86 = .ok (.iload 6, 2) := by decide +kernel
theorem dL_holds_88 : decode cL_holds 88 = .ok (.imul, 1) := by decide +kernel
theorem dL_holds_89 : decode cL_holds 89 = .ok (.bipush 15, 2) := by decide +kernel
theorem dL_holds_91 : decode cL_holds 91 = .ok (.invokestatic 168, 3) := by decide +kernel
theorem dL_holds_94 : decode cL_holds 94 = .ok (.istore 7, 2) := by decide +kernel
theorem dL_holds_96 : decode cL_holds 96 = .ok (.aload_n 0, 1) := by decide +kernel
theorem dL_holds_97 : decode cL_holds 97 = .ok (.iconst 2, 1) := by decide +kernel
theorem dL_holds_98 : decode cL_holds 98 = .ok (.iload 6, 2) := by decide +kernel
theorem dL_holds_100 : decode cL_holds 100 = .ok (.imul, 1) := by decide +kernel
theorem dL_holds_101 : decode cL_holds 101 = .ok (.iconst 1, 1) := by decide +kernel
theorem dL_holds_102 : decode cL_holds 102 = .ok (.iadd, 1) := by decide +kernel
theorem dL_holds_103 : decode cL_holds 103 = .ok (.ldc 171, 2) := by decide +kernel
theorem dL_holds_105 : decode cL_holds 105 = .ok (.invokestatic 168, 3) := by decide +kernel
theorem dL_holds_108 : decode cL_holds 108 = .ok (.istore 8, 2) := by decide +kernel
theorem dL_holds_110 : decode cL_holds 110 = .ok (.aload_n 2, 1) := by decide +kernel
theorem dL_holds_111 : decode cL_holds 111 = .ok (.bipush 40, 2) := by decide +kernel
theorem dL_holds_113 : decode cL_holds 113 = .ok (.iaload, 1) := by decide +kernel
theorem dL_holds_114 : decode cL_holds 114 = .ok (.iconst 5, 1) := by decide +kernel
theorem dL_holds_115 : decode cL_holds 115 = .ok (.if_icmp .ge 103, 3) := by decide +kernel
theorem dL_holds_118 : decode cL_holds 118 = .ok (.iload 6, 2) := by decide +kernel
theorem dL_holds_120 : decode cL_holds 120 = .ok (.iconst 3, 1) := by decide +kernel
theorem dL_holds_121 : decode cL_holds 121 = .ok (.if_icmp .lt 10, 3) := by decide +kernel
theorem dL_holds_124 : decode cL_holds 124 = .ok (.iload 7, 2) := by decide +kernel
theorem dL_holds_126 : decode cL_holds 126 = .ok (.bipush 14, 2) := by decide +kernel
theorem dL_holds_128 : decode cL_holds 128 = .ok (.if_icmp .ne 90, 3) := by decide +kernel
theorem dL_holds_131 : decode cL_holds 131 = .ok (.bipush 8, 2) := by decide +kernel
theorem dL_holds_133 : decode cL_holds 133 = .ok (.aload_n 2, 1) := by decide +kernel
theorem dL_holds_134 : decode cL_holds 134 = .ok (.bipush 40, 2) := by decide +kernel
theorem dL_holds_136 : decode cL_holds 136 = .ok (.iaload, 1) := by decide +kernel
theorem dL_holds_137 : decode cL_holds 137 = .ok (.imul, 1) := by decide +kernel
theorem dL_holds_138 : decode cL_holds 138 = .ok (.istore 9, 2) := by decide +kernel
theorem dL_holds_140 : decode cL_holds 140 = .ok (.aload_n 2, 1) := by decide +kernel
theorem dL_holds_141 : decode cL_holds 141 = .ok (.iload 9, 2) := by decide +kernel
theorem dL_holds_143 : decode cL_holds 143 = .ok (.iload 8, 2) := by decide +kernel
theorem dL_holds_145 : decode cL_holds 145 = .ok (.bipush 120, 2) := by decide +kernel
theorem dL_holds_147 : decode cL_holds 147 = .ok (.irem, 1) := by decide +kernel
theorem dL_holds_148 : decode cL_holds 148 = .ok (.bipush 60, 2) := by decide +kernel
theorem dL_holds_150 : decode cL_holds 150 = .ok (.isub, 1) := by decide +kernel
theorem dL_holds_151 : decode cL_holds 151 = .ok (.iastore, 1) := by decide +kernel
theorem dL_holds_152 : decode cL_holds 152 = .ok (.aload_n 2, 1) := by decide +kernel
theorem dL_holds_153 : decode cL_holds 153 = .ok (.iload 9, 2) := by decide +kernel
theorem dL_holds_155 : decode cL_holds 155 = .ok (.iconst 1, 1) := by decide +kernel
theorem dL_holds_156 : decode cL_holds 156 = .ok (.iadd, 1) := by decide +kernel
theorem dL_holds_157 : decode cL_holds 157 = .ok (.iload 8, 2) := by decide +kernel
theorem dL_holds_159 : decode cL_holds 159 = .ok (.bipush 120, 2) := by decide +kernel
theorem dL_holds_161 : decode cL_holds 161 = .ok (.idiv, 1) := by decide +kernel
theorem dL_holds_162 : decode cL_holds 162 = .ok (.bipush 80, 2) := by decide +kernel
theorem dL_holds_164 : decode cL_holds 164 = .ok (.irem, 1) := by decide +kernel
theorem dL_holds_165 : decode cL_holds 165 = .ok (.bipush 40, 2) := by decide +kernel
theorem dL_holds_167 : decode cL_holds 167 = .ok (.isub, 1) := by decide +kernel
theorem dL_holds_168 : decode cL_holds 168 = .ok (.iastore, 1) := by decide +kernel
theorem dL_holds_169 : decode cL_holds 169 = .ok (.aload_n 2, 1) := by decide +kernel
theorem dL_holds_170 : decode cL_holds 170 = .ok (.iload 9, 2) := by decide +kernel
theorem dL_holds_172 : decode cL_holds 172 = .ok (.bipush 6, 2) := by decide +kernel
theorem dL_holds_174 : decode cL_holds 174 = .ok (.iadd, 1) := by decide +kernel
theorem dL_holds_175 : decode cL_holds 175 = .ok (.sipush 1024, 3) := by decide +kernel
theorem dL_holds_178 : decode cL_holds 178 = .ok (.iastore, 1) := by decide +kernel
theorem dL_holds_179 : decode cL_holds 179 = .ok (.aload_n 1, 1) := by decide +kernel
theorem dL_holds_180 : decode cL_holds 180 = .ok (.aload_n 2, 1) := by decide +kernel
theorem dL_holds_181 : decode cL_holds 181 = .ok (.iload 9, 2) := by decide +kernel
theorem dL_holds_183 : decode cL_holds 183 = .ok (.iaload, 1) := by decide +kernel
theorem dL_holds_184 : decode cL_holds 184 = .ok (.aload_n 2, 1) := by decide +kernel
theorem dL_holds_185 : decode cL_holds 185 = .ok (.iload 9, 2) := by decide +kernel
theorem dL_holds_187 : decode cL_holds 187 = .ok (.iconst 1, 1) := by decide +kernel
theorem dL_holds_188 : decode cL_holds 188 = .ok (.iadd, 1) := by decide +kernel
theorem dL_holds_189 : decode cL_holds 189 = .ok (.iaload, 1) := by decide +kernel
theorem dL_holds_190 : decode cL_holds 190 = .ok (.invokevirtual 172, 3) := by decide +kernel
theorem dL_holds_193 : decode cL_holds 193 = .ok (.aload_n 2, 1) := by decide +kernel
theorem dL_holds_194 : decode cL_holds 194 = .ok (.bipush 40, 2) := by decide +kernel
theorem dL_holds_196 : decode cL_holds 196 = .ok (.iaload, 1) := by decide +kernel
theorem dL_holds_197 : decode cL_holds 197 = .ok (.if_icmp .ne 7, 3) := by decide +kernel
theorem dL_holds_200 : decode cL_holds 200 = .ok (.iconst 1, 1) := by decide +kernel
theorem dL_holds_201 : decode cL_holds 201 = .ok (.goto 4, 3) := by decide +kernel
theorem dL_holds_204 : decode cL_holds 204 = .ok (.iconst 0, 1) := by decide +kernel
theorem dL_holds_205 : decode cL_holds 205 = .ok (.istore 5, 2) := by decide +kernel
theorem dL_holds_207 : decode cL_holds 207 = .ok (.aload_n 2, 1) := by decide +kernel
theorem dL_holds_208 : decode cL_holds 208 = .ok (.bipush 40, 2) := by decide +kernel
theorem dL_holds_210 : decode cL_holds 210 = .ok (.dup2, 1) := by decide +kernel
theorem dL_holds_211 : decode cL_holds 211 = .ok (.iaload, 1) := by decide +kernel
theorem dL_holds_212 : decode cL_holds 212 = .ok (.iconst 1, 1) := by decide +kernel
theorem dL_holds_213 : decode cL_holds 213 = .ok (.iadd, 1) := by decide +kernel
theorem dL_holds_214 : decode cL_holds 214 = .ok (.iastore, 1) := by decide +kernel
theorem dL_holds_215 : decode cL_holds 215 = .ok (.goto 17, 3) := by decide +kernel
theorem dL_holds_218 : decode cL_holds 218 = .ok (.aload_n 1, 1) := by decide +kernel
theorem dL_holds_219 : decode cL_holds 219 = .ok (.aload_n 2, 1) := by decide +kernel
theorem dL_holds_220 : decode cL_holds 220 = .ok (.aload_n 3, 1) := by decide +kernel
theorem dL_holds_221 : decode cL_holds 221 = .ok (.aload 4, 2) := by decide +kernel
theorem dL_holds_223 : decode cL_holds 223 = .ok (.iload 7, 2) := by decide +kernel
theorem dL_holds_225 : decode cL_holds 225 = .ok (.iload 8, 2) := by decide +kernel
theorem dL_holds_227 : decode cL_holds 227 = .ok (.invokestatic 175, 3) := by decide +kernel
theorem dL_holds_230 : decode cL_holds 230 = .ok (.istore 5, 2) := by decide +kernel
theorem dL_holds_232 : decode cL_holds 232 = .ok (.iload 5, 2) := by decide +kernel
theorem dL_holds_234 : decode cL_holds 234 = .ok (.ifCond .eq 51, 3) := by decide +kernel
theorem dL_holds_237 : decode cL_holds 237 = .ok (.aload_n 1, 1) := by decide +kernel
theorem dL_holds_238 : decode cL_holds 238 = .ok (.aload_n 2, 1) := by decide +kernel
theorem dL_holds_239 : decode cL_holds 239 = .ok (.aload_n 3, 1) := by decide +kernel
theorem dL_holds_240 : decode cL_holds 240 = .ok (.invokestatic 179, 3) := by decide +kernel
theorem dL_holds_243 : decode cL_holds 243 = .ok (.ifCond .eq 42, 3) := by decide +kernel
theorem dL_holds_246 : decode cL_holds 246 = .ok (.aload_n 1, 1) := by decide +kernel
theorem dL_holds_247 : decode cL_holds 247 = .ok (.invokevirtual 183, 3) := by decide +kernel
theorem dL_holds_250 : decode cL_holds 250 = .ok (.aload_n 2, 1) := by decide +kernel
theorem dL_holds_251 : decode cL_holds 251 = .ok (.aload_n 3, 1) := by decide +kernel
theorem dL_holds_252 : decode cL_holds 252 = .ok (.aload 4, 2) := by decide +kernel
theorem dL_holds_254 : decode cL_holds 254 = .ok (.invokestatic 163, 3) := by decide +kernel
theorem dL_holds_257 : decode cL_holds 257 = .ok (.if_icmp .ne 28, 3) := by decide +kernel
theorem dL_holds_260 : decode cL_holds 260 = .ok (.iload 6, 2) := by decide +kernel
theorem dL_holds_262 : decode cL_holds 262 = .ok (.bipush 9, 2) := by decide +kernel
theorem dL_holds_264 : decode cL_holds 264 = .ok (.irem, 1) := by decide +kernel
theorem dL_holds_265 : decode cL_holds 265 = .ok (.bipush 8, 2) := by decide +kernel
theorem dL_holds_267 : decode cL_holds 267 = .ok (.if_icmp .lt 14, 3) := by decide +kernel
theorem dL_holds_270 : decode cL_holds 270 = .ok (.aload_n 1, 1) := by decide +kernel
theorem dL_holds_271 : decode cL_holds 271 = .ok (.aload_n 2, 1) := by decide +kernel
theorem dL_holds_272 : decode cL_holds 272 = .ok (.aload_n 3, 1) := by decide +kernel
theorem dL_holds_273 : decode cL_holds 273 = .ok (.iload 8, 2) := by decide +kernel
theorem dL_holds_275 : decode cL_holds 275 = .ok (.invokestatic 185, 3) := by decide +kernel
theorem dL_holds_278 : decode cL_holds 278 = .ok (.ifCond .eq 7, 3) := by decide +kernel
theorem dL_holds_281 : decode cL_holds 281 = .ok (.iconst 1, 1) := by decide +kernel
theorem dL_holds_282 : decode cL_holds 282 = .ok (.goto 4, 3) := by decide +kernel
theorem dL_holds_285 : decode cL_holds 285 = .ok (.iconst 0, 1) := by decide +kernel
theorem dL_holds_286 : decode cL_holds 286 = .ok (.istore 5, 2) := by decide +kernel
theorem dL_holds_288 : decode cL_holds 288 = .ok (.iinc 6 1, 3) := by decide +kernel
theorem dL_holds_291 : decode cL_holds 291 = .ok (.goto (-219), 3) := by decide +kernel
theorem dL_holds_294 : decode cL_holds 294 = .ok (.iload 5, 2) := by decide +kernel
theorem dL_holds_296 : decode cL_holds 296 = .ok (.ireturn, 1) := by decide +kernel
theorem dL_isHeld_0 : decode cL_isHeld 0 = .ok (.aload_n 0, 1) := by decide +kernel
theorem dL_isHeld_1 : decode cL_isHeld 1 = .ok (.invokestatic 189, 3) := by decide +kernel
theorem dL_isHeld_4 : decode cL_isHeld 4 = .ok (.ireturn, 1) := by decide +kernel
theorem dL_isHeld_5 : decode cL_isHeld 5 = .ok (.astore_n 1, 1) := by decide +kernel
theorem dL_isHeld_6 : decode cL_isHeld 6 = .ok (.iconst 0, 1) := by decide +kernel
theorem dL_isHeld_7 : decode cL_isHeld 7 = .ok (.ireturn, 1) := by decide +kernel
theorem dL_isHeld_8 : decode cL_isHeld 8 = .ok (.astore_n 1, 1) := by decide +kernel
theorem dL_isHeld_9 : decode cL_isHeld 9 = .ok (.iconst 0, 1) := by decide +kernel
theorem dL_isHeld_10 : decode cL_isHeld 10 = .ok (.ireturn, 1) := by decide +kernel
theorem dL_isHeld_11 : decode cL_isHeld 11 = .ok (.astore_n 1, 1) := by decide +kernel
theorem dL_isHeld_12 : decode cL_isHeld 12 = .ok (.iconst 0, 1) := by decide +kernel
theorem dL_isHeld_13 : decode cL_isHeld 13 = .ok (.ireturn, 1) := by decide +kernel
theorem dL_law_0 : decode cL_law 0 = .ok (.aload_n 0, 1) := by decide +kernel
theorem dL_law_1 : decode cL_law 1 = .ok (.invokestatic 199, 3) := by decide +kernel
theorem dL_law_4 : decode cL_law 4 = .ok (.ireturn, 1) := by decide +kernel

