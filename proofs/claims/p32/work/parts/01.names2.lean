theorem dX0_init_0 : decode cX0_init 0 = .ok (.aload_n 0, 1) := by decide +kernel
theorem dX0_init_1 : decode cX0_init 1 = .ok (.invokespecial 3, 3) := by decide +kernel
theorem dX0_init_4 : decode cX0_init 4 = .ok (.aload_n 0, 1) := by decide +kernel
theorem dX0_init_5 : decode cX0_init 5 = .ok (.sipush 256, 3) := by decide +kernel
theorem dX0_init_8 : decode cX0_init 8 = .ok (.newarray .int, 2) := by decide +kernel
theorem dX0_init_10 : decode cX0_init 10 = .ok (.putfield 11, 3) := by decide +kernel
theorem dX0_init_13 : decode cX0_init 13 = .ok (.return_, 1) := by decide +kernel
set_option maxRecDepth 20000 in
theorem ggX0_rankOf_J7_fill_53178 : GoodIn wsX0_rankOf wsJ7_fill_53178 := goodIn_r _ [5] (by decide +kernel) (by decide +kernel)
set_option maxRecDepth 20000 in
theorem gX0_rankOf_J7_fill_53178 : GoodIn wsX0_rankOf (va_wsS RX0 15 yJ7_fill_53178 wsJ7_fill_53178) := goodIn_app (goodIn_of _ (by decide +kernel)) ggX0_rankOf_J7_fill_53178
set_option maxRecDepth 20000 in
theorem ggX0_rankOf_X1_with : GoodIn wsX0_rankOf wsX1_with := goodIn_r _ [8] (by decide +kernel) (by decide +kernel)
set_option maxRecDepth 20000 in
theorem gX0_rankOf_X1_with_n21 : GoodIn wsX0_rankOf (wsX1_with) := ggX0_rankOf_X1_with
set_option maxRecDepth 20000 in
theorem ggX0_rankOf_X1_joins : GoodIn wsX0_rankOf wsX1_joins := goodIn_r _ [11, 12, 13, 14, 7, 15, 33] (by decide +kernel) (by decide +kernel)
set_option maxRecDepth 20000 in
theorem gX0_rankOf_X1_joins_n27 : GoodIn wsX0_rankOf (wsX1_joins) := ggX0_rankOf_X1_joins
set_option maxRecDepth 20000 in
theorem ggX0_rankOf_X0_leavesFree : GoodIn wsX0_rankOf wsX0_leavesFree := goodIn_r _ [20, 1, 21, 22, 23, 24, 25, 26, 27, 32] (by decide +kernel) (by decide +kernel)
set_option maxRecDepth 20000 in
theorem gX0_rankOf_X0_leavesFree : GoodIn wsX0_rankOf (wsV RX0 31 RX0 yX0_leavesFree wsX0_leavesFree) := goodIn_app (goodIn_of _ (by decide +kernel)) ggX0_rankOf_X0_leavesFree
set_option maxRecDepth 20000 in
theorem ggX0_rankOf_X0_keepLink : GoodIn wsX0_rankOf wsX0_keepLink := goodIn_r _ [31, 1, 32] (by decide +kernel) (by decide +kernel)
set_option maxRecDepth 20000 in
theorem gX0_rankOf_X0_keepLink : GoodIn wsX0_rankOf (wsV RX0 35 RX0 yX0_keepLink wsX0_keepLink) := goodIn_app (goodIn_of _ (by decide +kernel)) ggX0_rankOf_X0_keepLink
theorem dX0_rankOf_0 : decode cX0_rankOf 0 = .ok (.aload_n 0, 1) := by decide +kernel
theorem dX0_rankOf_1 : decode cX0_rankOf 1 = .ok (.getfield 11, 3) := by decide +kernel
theorem dX0_rankOf_4 : decode cX0_rankOf 4 = .ok (.iconst 0, 1) := by decide +kernel
theorem dX0_rankOf_5 : decode cX0_rankOf 5 = .ok (.invokestatic 15, 3) := by decide +kernel
theorem dX0_rankOf_8 : decode cX0_rankOf 8 = .ok (.iconst 0, 1) := by decide +kernel
theorem dX0_rankOf_9 : decode cX0_rankOf 9 = .ok (.istore_n 2, 1) := by decide +kernel
theorem dX0_rankOf_10 : decode cX0_rankOf 10 = .ok (.iconst 0, 1) := by decide +kernel
theorem dX0_rankOf_11 : decode cX0_rankOf 11 = .ok (.istore_n 3, 1) := by decide +kernel
theorem dX0_rankOf_12 : decode cX0_rankOf 12 = .ok (.iload_n 3, 1) := by decide +kernel
theorem dX0_rankOf_13 : decode cX0_rankOf 13 = .ok (.bipush 8, 2) := by decide +kernel
theorem dX0_rankOf_15 : decode cX0_rankOf 15 = .ok (.if_icmp .ge 64, 3) := by decide +kernel
theorem dX0_rankOf_18 : decode cX0_rankOf 18 = .ok (.iconst 0, 1) := by decide +kernel
theorem dX0_rankOf_19 : decode cX0_rankOf 19 = .ok (.istore 4, 2) := by decide +kernel
theorem dX0_rankOf_21 : decode cX0_rankOf 21 = .ok (.iload 4, 2) := by decide +kernel
theorem dX0_rankOf_23 : decode cX0_rankOf 23 = .ok (.iload_n 3, 1) := by decide +kernel
theorem dX0_rankOf_24 : decode cX0_rankOf 24 = .ok (.if_icmp .ge 49, 3) := by decide +kernel
theorem dX0_rankOf_27 : decode cX0_rankOf 27 = .ok (.iconst 0, 1) := by decide +kernel
theorem dX0_rankOf_28 : decode cX0_rankOf 28 = .ok (.iload_n 3, 1) := by decide +kernel
theorem dX0_rankOf_29 : decode cX0_rankOf 29 = .ok (.invokestatic 21, 3) := by decide +kernel
theorem dX0_rankOf_32 : decode cX0_rankOf 32 = .ok (.iload 4, 2) := by decide +kernel
theorem dX0_rankOf_34 : decode cX0_rankOf 34 = .ok (.invokestatic 21, 3) := by decide +kernel
theorem dX0_rankOf_37 : decode cX0_rankOf 37 = .ok (.istore 5, 2) := by decide +kernel
theorem dX0_rankOf_39 : decode cX0_rankOf 39 = .ok (.aload_n 1, 1) := by decide +kernel
theorem dX0_rankOf_40 : decode cX0_rankOf 40 = .ok (.iload_n 3, 1) := by decide +kernel
theorem dX0_rankOf_41 : decode cX0_rankOf 41 = .ok (.iload 4, 2) := by decide +kernel
theorem dX0_rankOf_43 : decode cX0_rankOf 43 = .ok (.invokevirtual 27, 3) := by decide +kernel
theorem dX0_rankOf_46 : decode cX0_rankOf 46 = .ok (.ifCond .eq 21, 3) := by decide +kernel
theorem dX0_rankOf_49 : decode cX0_rankOf 49 = .ok (.aload_n 0, 1) := by decide +kernel
theorem dX0_rankOf_50 : decode cX0_rankOf 50 = .ok (.iload 5, 2) := by decide +kernel
theorem dX0_rankOf_52 : decode cX0_rankOf 52 = .ok (.invokevirtual 31, 3) := by decide +kernel
theorem dX0_rankOf_55 : decode cX0_rankOf 55 = .ok (.ifCond .eq 12, 3) := by decide +kernel
theorem dX0_rankOf_58 : decode cX0_rankOf 58 = .ok (.aload_n 0, 1) := by decide +kernel
theorem dX0_rankOf_59 : decode cX0_rankOf 59 = .ok (.iload 5, 2) := by decide +kernel
theorem dX0_rankOf_61 : decode cX0_rankOf 61 = .ok (.invokevirtual 35, 3) := by decide +kernel
theorem dX0_rankOf_64 : decode cX0_rankOf 64 = .ok (.iinc 2 1, 3) := by decide +kernel
theorem dX0_rankOf_67 : decode cX0_rankOf 67 = .ok (.iinc 4 1, 3) := by decide +kernel
theorem dX0_rankOf_70 : decode cX0_rankOf 70 = .ok (.goto (-49), 3) := by decide +kernel
theorem dX0_rankOf_73 : decode cX0_rankOf 73 = .ok (.iinc 3 1, 3) := by decide +kernel
theorem dX0_rankOf_76 : decode cX0_rankOf 76 = .ok (.goto (-64), 3) := by decide +kernel
theorem dX0_rankOf_79 : decode cX0_rankOf 79 = .ok (.iload_n 2, 1) := by decide +kernel
theorem dX0_rankOf_80 : decode cX0_rankOf 80 = .ok (.ireturn, 1) := by decide +kernel
set_option maxRecDepth 20000 in
theorem ggX0_leavesFree_J6_bitCount_0f7a4 : GoodIn wsX0_leavesFree wsJ6_bitCount_0f7a4 := goodIn_r _ [5, 6, 7, 8] (by decide +kernel) (by decide +kernel)
set_option maxRecDepth 20000 in
theorem gX0_leavesFree_J6_bitCount_0f7a4 : GoodIn wsX0_leavesFree (va_wsS RX0 39 yJ6_bitCount_0f7a4 wsJ6_bitCount_0f7a4) := goodIn_app (goodIn_of _ (by decide +kernel)) ggX0_leavesFree_J6_bitCount_0f7a4
theorem dX0_leavesFree_0 : decode cX0_leavesFree 0 = .ok (.iload_n 1, 1) := by decide +kernel
theorem dX0_leavesFree_1 : decode cX0_leavesFree 1 = .ok (.istore_n 2, 1) := by decide +kernel
theorem dX0_leavesFree_2 : decode cX0_leavesFree 2 = .ok (.iload_n 2, 1) := by decide +kernel
theorem dX0_leavesFree_3 : decode cX0_leavesFree 3 = .ok (.sipush 256, 3) := by decide +kernel
theorem dX0_leavesFree_6 : decode cX0_leavesFree 6 = .ok (.if_icmp .ge 45, 3) := by decide +kernel
theorem dX0_leavesFree_9 : decode cX0_leavesFree 9 = .ok (.iload_n 2, 1) := by decide +kernel
theorem dX0_leavesFree_10 : decode cX0_leavesFree 10 = .ok (.iload_n 1, 1) := by decide +kernel
theorem dX0_leavesFree_11 : decode cX0_leavesFree 11 = .ok (.iand, 1) := by decide +kernel
theorem dX0_leavesFree_12 : decode cX0_leavesFree 12 = .ok (.iload_n 1, 1) := by decide +kernel
theorem dX0_leavesFree_13 : decode cX0_leavesFree 13 = .ok (.if_icmp .ne 7, 3) := by decide +kernel
theorem dX0_leavesFree_16 : decode cX0_leavesFree 16 = .ok (.iconst 1, 1) := by decide +kernel
theorem dX0_leavesFree_17 : decode cX0_leavesFree 17 = .ok (.goto 4, 3) := by decide +kernel
theorem dX0_leavesFree_20 : decode cX0_leavesFree 20 = .ok (.iconst 0, 1) := by decide +kernel
theorem dX0_leavesFree_21 : decode cX0_leavesFree 21 = .ok (.istore_n 3, 1) := by decide +kernel
theorem dX0_leavesFree_22 : decode cX0_leavesFree 22 = .ok (.iload_n 3, 1) := by decide +kernel
theorem dX0_leavesFree_23 : decode cX0_leavesFree 23 = .ok (.ifCond .eq 22, 3) := by decide +kernel
theorem dX0_leavesFree_26 : decode cX0_leavesFree 26 = .ok (.aload_n 0, 1) := by decide +kernel
theorem dX0_leavesFree_27 : decode cX0_leavesFree 27 = .ok (.getfield 11, 3) := by decide +kernel
theorem dX0_leavesFree_30 : decode cX0_leavesFree 30 = .ok (.iload_n 2, 1) := by decide +kernel
theorem dX0_leavesFree_31 : decode cX0_leavesFree 31 = .ok (.iaload, 1) := by decide +kernel
theorem dX0_leavesFree_32 : decode cX0_leavesFree 32 = .ok (.iconst 2, 1) := by decide +kernel
theorem dX0_leavesFree_33 : decode cX0_leavesFree 33 = .ok (.iload_n 2, 1) := by decide +kernel
theorem dX0_leavesFree_34 : decode cX0_leavesFree 34 = .ok (.invokestatic 39, 3) := by decide +kernel
theorem dX0_leavesFree_37 : decode cX0_leavesFree 37 = .ok (.imul, 1) := by decide +kernel
theorem dX0_leavesFree_38 : decode cX0_leavesFree 38 = .ok (.iconst 3, 1) := by decide +kernel
theorem dX0_leavesFree_39 : decode cX0_leavesFree 39 = .ok (.isub, 1) := by decide +kernel
theorem dX0_leavesFree_40 : decode cX0_leavesFree 40 = .ok (.if_icmp .lt 5, 3) := by decide +kernel
theorem dX0_leavesFree_43 : decode cX0_leavesFree 43 = .ok (.iconst 0, 1) := by decide +kernel
theorem dX0_leavesFree_44 : decode cX0_leavesFree 44 = .ok (.ireturn, 1) := by decide +kernel
theorem dX0_leavesFree_45 : decode cX0_leavesFree 45 = .ok (.iinc 2 1, 3) := by decide +kernel
theorem dX0_leavesFree_48 : decode cX0_leavesFree 48 = .ok (.goto (-46), 3) := by decide +kernel
theorem dX0_leavesFree_51 : decode cX0_leavesFree 51 = .ok (.iconst 1, 1) := by decide +kernel
theorem dX0_leavesFree_52 : decode cX0_leavesFree 52 = .ok (.ireturn, 1) := by decide +kernel
theorem dX0_keepLink_0 : decode cX0_keepLink 0 = .ok (.iload_n 1, 1) := by decide +kernel
theorem dX0_keepLink_1 : decode cX0_keepLink 1 = .ok (.istore_n 2, 1) := by decide +kernel
theorem dX0_keepLink_2 : decode cX0_keepLink 2 = .ok (.iload_n 2, 1) := by decide +kernel
theorem dX0_keepLink_3 : decode cX0_keepLink 3 = .ok (.sipush 256, 3) := by decide +kernel
theorem dX0_keepLink_6 : decode cX0_keepLink 6 = .ok (.if_icmp .ge 26, 3) := by decide +kernel
theorem dX0_keepLink_9 : decode cX0_keepLink 9 = .ok (.iload_n 2, 1) := by decide +kernel
theorem dX0_keepLink_10 : decode cX0_keepLink 10 = .ok (.iload_n 1, 1) := by decide +kernel
theorem dX0_keepLink_11 : decode cX0_keepLink 11 = .ok (.iand, 1) := by decide +kernel
theorem dX0_keepLink_12 : decode cX0_keepLink 12 = .ok (.iload_n 1, 1) := by decide +kernel
theorem dX0_keepLink_13 : decode cX0_keepLink 13 = .ok (.if_icmp .ne 13, 3) := by decide +kernel
theorem dX0_keepLink_16 : decode cX0_keepLink 16 = .ok (.aload_n 0, 1) := by decide +kernel
theorem dX0_keepLink_17 : decode cX0_keepLink 17 = .ok (.getfield 11, 3) := by decide +kernel
theorem dX0_keepLink_20 : decode cX0_keepLink 20 = .ok (.iload_n 2, 1) := by decide +kernel
theorem dX0_keepLink_21 : decode cX0_keepLink 21 = .ok (.dup2, 1) := by decide +kernel
theorem dX0_keepLink_22 : decode cX0_keepLink 22 = .ok (.iaload, 1) := by decide +kernel
theorem dX0_keepLink_23 : decode cX0_keepLink 23 = .ok (.iconst 1, 1) := by decide +kernel
theorem dX0_keepLink_24 : decode cX0_keepLink 24 = .ok (.iadd, 1) := by decide +kernel
theorem dX0_keepLink_25 : decode cX0_keepLink 25 = .ok (.iastore, 1) := by decide +kernel
theorem dX0_keepLink_26 : decode cX0_keepLink 26 = .ok (.iinc 2 1, 3) := by decide +kernel
theorem dX0_keepLink_29 : decode cX0_keepLink 29 = .ok (.goto (-27), 3) := by decide +kernel
theorem dX0_keepLink_32 : decode cX0_keepLink 32 = .ok (.return_, 1) := by decide +kernel
theorem dX1_init_0 : decode cX1_init 0 = .ok (.aload_n 0, 1) := by decide +kernel
theorem dX1_init_1 : decode cX1_init 1 = .ok (.invokespecial 3, 3) := by decide +kernel
theorem dX1_init_4 : decode cX1_init 4 = .ok (.aload_n 0, 1) := by decide +kernel
theorem dX1_init_5 : decode cX1_init 5 = .ok (.bipush 8, 2) := by decide +kernel
theorem dX1_init_7 : decode cX1_init 7 = .ok (.newarray .int, 2) := by decide +kernel
theorem dX1_init_9 : decode cX1_init 9 = .ok (.putfield 9, 3) := by decide +kernel
theorem dX1_init_12 : decode cX1_init 12 = .ok (.return_, 1) := by decide +kernel
theorem dX1_holds_0 : decode cX1_holds 0 = .ok (.iload_n 0, 1) := by decide +kernel
theorem dX1_holds_1 : decode cX1_holds 1 = .ok (.iconst 1, 1) := by decide +kernel
theorem dX1_holds_2 : decode cX1_holds 2 = .ok (.iload_n 1, 1) := by decide +kernel
theorem dX1_holds_3 : decode cX1_holds 3 = .ok (.ishl, 1) := by decide +kernel
theorem dX1_holds_4 : decode cX1_holds 4 = .ok (.iand, 1) := by decide +kernel
theorem dX1_holds_5 : decode cX1_holds 5 = .ok (.ifCond .eq 7, 3) := by decide +kernel
theorem dX1_holds_8 : decode cX1_holds 8 = .ok (.iconst 1, 1) := by decide +kernel
theorem dX1_holds_9 : decode cX1_holds 9 = .ok (.goto 4, 3) := by decide +kernel
theorem dX1_holds_12 : decode cX1_holds 12 = .ok (.iconst 0, 1) := by decide +kernel
theorem dX1_holds_13 : decode cX1_holds 13 = .ok (.ireturn, 1) := by decide +kernel
theorem dX1_with_0 : decode cX1_with 0 = .ok (.iload_n 0, 1) := by decide +kernel
theorem dX1_with_1 : decode cX1_with 1 = .ok (.iconst 1, 1) := by decide +kernel
theorem dX1_with_2 : decode cX1_with 2 = .ok (.iload_n 1, 1) := by decide +kernel
theorem dX1_with_3 : decode cX1_with 3 = .ok (.ishl, 1) := by decide +kernel
theorem dX1_with_4 : decode cX1_with 4 = .ok (.ior, 1) := by decide +kernel
theorem dX1_with_5 : decode cX1_with 5 = .ok (.ireturn, 1) := by decide +kernel
theorem dX1_without_0 : decode cX1_without 0 = .ok (.iload_n 0, 1) := by decide +kernel
theorem dX1_without_1 : decode cX1_without 1 = .ok (.iconst 1, 1) := by decide +kernel
theorem dX1_without_2 : decode cX1_without 2 = .ok (.iload_n 1, 1) := by decide +kernel
theorem dX1_without_3 : decode cX1_without 3 = .ok (.ishl, 1) := by decide +kernel
theorem dX1_without_4 : decode cX1_without 4 = .ok (.iconst (-1), 1) := by decide +kernel
theorem dX1_without_5 : decode cX1_without 5 = .ok (.ixor, 1) := by decide +kernel
theorem dX1_without_6 : decode cX1_without 6 = .ok (.iand, 1) := by decide +kernel
theorem dX1_without_7 : decode cX1_without 7 = .ok (.ireturn, 1) := by decide +kernel
set_option maxRecDepth 20000 in
theorem ggX1_clear_J7_fill_53178 : GoodIn wsX1_clear wsJ7_fill_53178 := goodIn_r _ [5] (by decide +kernel) (by decide +kernel)
set_option maxRecDepth 20000 in
theorem gX1_clear_J7_fill_53178 : GoodIn wsX1_clear (va_wsS RX1 15 yJ7_fill_53178 wsJ7_fill_53178) := goodIn_app (goodIn_of _ (by decide +kernel)) ggX1_clear_J7_fill_53178
theorem dX1_clear_0 : decode cX1_clear 0 = .ok (.aload_n 0, 1) := by decide +kernel
theorem dX1_clear_1 : decode cX1_clear 1 = .ok (.getfield 9, 3) := by decide +kernel
theorem dX1_clear_4 : decode cX1_clear 4 = .ok (.iconst 0, 1) := by decide +kernel
theorem dX1_clear_5 : decode cX1_clear 5 = .ok (.invokestatic 15, 3) := by decide +kernel
theorem dX1_clear_8 : decode cX1_clear 8 = .ok (.return_, 1) := by decide +kernel
set_option maxRecDepth 20000 in
theorem ggX1_join_X1_with : GoodIn wsX1_join wsX1_with := goodIn_r _ [5] (by decide +kernel) (by decide +kernel)
set_option maxRecDepth 20000 in
theorem gX1_join_X1_with : GoodIn wsX1_join (va_wsS RX1 21 yX1_with wsX1_with) := goodIn_app (goodIn_of _ (by decide +kernel)) ggX1_join_X1_with
theorem dX1_join_0 : decode cX1_join 0 = .ok (.aload_n 0, 1) := by decide +kernel
theorem dX1_join_1 : decode cX1_join 1 = .ok (.getfield 9, 3) := by decide +kernel
theorem dX1_join_4 : decode cX1_join 4 = .ok (.iload_n 1, 1) := by decide +kernel
theorem dX1_join_5 : decode cX1_join 5 = .ok (.aload_n 0, 1) := by decide +kernel
theorem dX1_join_6 : decode cX1_join 6 = .ok (.getfield 9, 3) := by decide +kernel
theorem dX1_join_9 : decode cX1_join 9 = .ok (.iload_n 1, 1) := by decide +kernel
theorem dX1_join_10 : decode cX1_join 10 = .ok (.iaload, 1) := by decide +kernel
theorem dX1_join_11 : decode cX1_join 11 = .ok (.iload_n 2, 1) := by decide +kernel
theorem dX1_join_12 : decode cX1_join 12 = .ok (.invokestatic 21, 3) := by decide +kernel
theorem dX1_join_15 : decode cX1_join 15 = .ok (.iastore, 1) := by decide +kernel
theorem dX1_join_16 : decode cX1_join 16 = .ok (.aload_n 0, 1) := by decide +kernel
theorem dX1_join_17 : decode cX1_join 17 = .ok (.getfield 9, 3) := by decide +kernel
theorem dX1_join_20 : decode cX1_join 20 = .ok (.iload_n 2, 1) := by decide +kernel
theorem dX1_join_21 : decode cX1_join 21 = .ok (.aload_n 0, 1) := by decide +kernel
theorem dX1_join_22 : decode cX1_join 22 = .ok (.getfield 9, 3) := by decide +kernel
theorem dX1_join_25 : decode cX1_join 25 = .ok (.iload_n 2, 1) := by decide +kernel
theorem dX1_join_26 : decode cX1_join 26 = .ok (.iaload, 1) := by decide +kernel
theorem dX1_join_27 : decode cX1_join 27 = .ok (.iload_n 1, 1) := by decide +kernel
theorem dX1_join_28 : decode cX1_join 28 = .ok (.invokestatic 21, 3) := by decide +kernel
theorem dX1_join_31 : decode cX1_join 31 = .ok (.iastore, 1) := by decide +kernel
theorem dX1_join_32 : decode cX1_join 32 = .ok (.return_, 1) := by decide +kernel
set_option maxRecDepth 20000 in
theorem ggX1_cut_X1_without : GoodIn wsX1_cut wsX1_without := goodIn_r _ [5] (by decide +kernel) (by decide +kernel)
set_option maxRecDepth 20000 in
theorem gX1_cut_X1_without : GoodIn wsX1_cut (va_wsS RX1 25 yX1_without wsX1_without) := goodIn_app (goodIn_of _ (by decide +kernel)) ggX1_cut_X1_without
theorem dX1_cut_0 : decode cX1_cut 0 = .ok (.aload_n 0, 1) := by decide +kernel
theorem dX1_cut_1 : decode cX1_cut 1 = .ok (.getfield 9, 3) := by decide +kernel
theorem dX1_cut_4 : decode cX1_cut 4 = .ok (.iload_n 1, 1) := by decide +kernel
theorem dX1_cut_5 : decode cX1_cut 5 = .ok (.aload_n 0, 1) := by decide +kernel
theorem dX1_cut_6 : decode cX1_cut 6 = .ok (.getfield 9, 3) := by decide +kernel
theorem dX1_cut_9 : decode cX1_cut 9 = .ok (.iload_n 1, 1) := by decide +kernel
theorem dX1_cut_10 : decode cX1_cut 10 = .ok (.iaload, 1) := by decide +kernel
theorem dX1_cut_11 : decode cX1_cut 11 = .ok (.iload_n 2, 1) := by decide +kernel
theorem dX1_cut_12 : decode cX1_cut 12 = .ok (.invokestatic 25, 3) := by decide +kernel
theorem dX1_cut_15 : decode cX1_cut 15 = .ok (.iastore, 1) := by decide +kernel
theorem dX1_cut_16 : decode cX1_cut 16 = .ok (.aload_n 0, 1) := by decide +kernel
theorem dX1_cut_17 : decode cX1_cut 17 = .ok (.getfield 9, 3) := by decide +kernel
theorem dX1_cut_20 : decode cX1_cut 20 = .ok (.iload_n 2, 1) := by decide +kernel
theorem dX1_cut_21 : decode cX1_cut 21 = .ok (.aload_n 0, 1) := by decide +kernel
theorem dX1_cut_22 : decode cX1_cut 22 = .ok (.getfield 9, 3) := by decide +kernel
theorem dX1_cut_25 : decode cX1_cut 25 = .ok (.iload_n 2, 1) := by decide +kernel
theorem dX1_cut_26 : decode cX1_cut 26 = .ok (.iaload, 1) := by decide +kernel
theorem dX1_cut_27 : decode cX1_cut 27 = .ok (.iload_n 1, 1) := by decide +kernel
theorem dX1_cut_28 : decode cX1_cut 28 = .ok (.invokestatic 25, 3) := by decide +kernel
theorem dX1_cut_31 : decode cX1_cut 31 = .ok (.iastore, 1) := by decide +kernel
theorem dX1_cut_32 : decode cX1_cut 32 = .ok (.return_, 1) := by decide +kernel
set_option maxRecDepth 20000 in
theorem ggX1_joins_X1_holds : GoodIn wsX1_joins wsX1_holds := goodIn_r _ [5] (by decide +kernel) (by decide +kernel)
set_option maxRecDepth 20000 in
theorem gX1_joins_X1_holds : GoodIn wsX1_joins (va_wsS RX1 28 yX1_holds wsX1_holds) := goodIn_app (goodIn_of _ (by decide +kernel)) ggX1_joins_X1_holds
theorem dX1_joins_0 : decode cX1_joins 0 = .ok (.aload_n 0, 1) := by decide +kernel
theorem dX1_joins_1 : decode cX1_joins 1 = .ok (.getfield 9, 3) := by decide +kernel
theorem dX1_joins_4 : decode cX1_joins 4 = .ok (.iload_n 1, 1) := by decide +kernel
theorem dX1_joins_5 : decode cX1_joins 5 = .ok (.iaload, 1) := by decide +kernel
theorem dX1_joins_6 : decode cX1_joins 6 = .ok (.iload_n 2, 1) := by decide +kernel
theorem dX1_joins_7 : decode cX1_joins 7 = .ok (.invokestatic 28, 3) := by decide +kernel
theorem dX1_joins_10 : decode cX1_joins 10 = .ok (.ireturn, 1) := by decide +kernel
set_option maxRecDepth 20000 in
theorem ggX1_degreeOf_J6_bitCount_0f7a4 : GoodIn wsX1_degreeOf wsJ6_bitCount_0f7a4 := goodIn_r _ [5, 6, 7, 8] (by decide +kernel) (by decide +kernel)
set_option maxRecDepth 20000 in
theorem gX1_degreeOf_J6_bitCount_0f7a4 : GoodIn wsX1_degreeOf (va_wsS RX1 32 yJ6_bitCount_0f7a4 wsJ6_bitCount_0f7a4) := goodIn_app (goodIn_of _ (by decide +kernel)) ggX1_degreeOf_J6_bitCount_0f7a4
theorem dX1_degreeOf_0 : decode cX1_degreeOf 0 = .ok (.aload_n 0, 1) := by decide +kernel
theorem dX1_degreeOf_1 : decode cX1_degreeOf 1 = .ok (.getfield 9, 3) := by decide +kernel
theorem dX1_degreeOf_4 : decode cX1_degreeOf 4 = .ok (.iload_n 1, 1) := by decide +kernel
theorem dX1_degreeOf_5 : decode cX1_degreeOf 5 = .ok (.iaload, 1) := by decide +kernel
theorem dX1_degreeOf_6 : decode cX1_degreeOf 6 = .ok (.invokestatic 32, 3) := by decide +kernel
theorem dX1_degreeOf_9 : decode cX1_degreeOf 9 = .ok (.ireturn, 1) := by decide +kernel
set_option maxRecDepth 20000 in
theorem ggX1_pairCount_X1_degreeOf : GoodIn wsX1_pairCount wsX1_degreeOf := goodIn_r _ [5, 6, 7, 8, 9, 10, 11, 12, 13, 14] (by decide +kernel) (by decide +kernel)
set_option maxRecDepth 20000 in
theorem gX1_pairCount_X1_degreeOf : GoodIn wsX1_pairCount (wsV RX1 38 RX1 yX1_degreeOf wsX1_degreeOf) := goodIn_app (goodIn_of _ (by decide +kernel)) ggX1_pairCount_X1_degreeOf
theorem dX1_pairCount_0 : decode cX1_pairCount 0 = .ok (.iconst 0, 1) := by decide +kernel
theorem dX1_pairCount_1 : decode cX1_pairCount 1 = .ok (.istore_n 1, 1) := by decide +kernel
theorem dX1_pairCount_2 : decode cX1_pairCount 2 = .ok (.iconst 0, 1) := by decide +kernel
theorem dX1_pairCount_3 : decode cX1_pairCount 3 = .ok (.istore_n 2, 1) := by decide +kernel
theorem dX1_pairCount_4 : decode cX1_pairCount 4 = .ok (.iload_n 2, 1) := by decide +kernel
theorem dX1_pairCount_5 : decode cX1_pairCount 5 = .ok (.bipush 8, 2) := by decide +kernel
theorem dX1_pairCount_7 : decode cX1_pairCount 7 = .ok (.if_icmp .ge 17, 3) := by decide +kernel
theorem dX1_pairCount_10 : decode cX1_pairCount 10 = .ok (.iload_n 1, 1) := by decide +kernel
theorem dX1_pairCount_11 : decode cX1_pairCount 11 = .ok (.aload_n 0, 1) := by decide +kernel
theorem dX1_pairCount_12 : decode cX1_pairCount 12 = .ok (.iload_n 2, 1) := by decide +kernel
theorem dX1_pairCount_13 : decode cX1_pairCount 13 = .ok (.invokevirtual 38, 3) := by decide +kernel
theorem dX1_pairCount_16 : decode cX1_pairCount 16 = .ok (.iadd, 1) := by decide +kernel
theorem dX1_pairCount_17 : decode cX1_pairCount 17 = .ok (.istore_n 1, 1) := by decide +kernel
theorem dX1_pairCount_18 : decode cX1_pairCount 18 = .ok (.iinc 2 1, 3) := by decide +kernel
theorem dX1_pairCount_21 : decode cX1_pairCount 21 = .ok (.goto (-17), 3) := by decide +kernel
theorem dX1_pairCount_24 : decode cX1_pairCount 24 = .ok (.iload_n 1, 1) := by decide +kernel
theorem dX1_pairCount_25 : decode cX1_pairCount 25 = .ok (.iconst 2, 1) := by decide +kernel
theorem dX1_pairCount_26 : decode cX1_pairCount 26 = .ok (.idiv, 1) := by decide +kernel
theorem dX1_pairCount_27 : decode cX1_pairCount 27 = .ok (.ireturn, 1) := by decide +kernel
set_option maxRecDepth 20000 in
theorem ggX1_groupOf_X1_with : GoodIn wsX1_groupOf wsX1_with := goodIn_r _ [5] (by decide +kernel) (by decide +kernel)
set_option maxRecDepth 20000 in
theorem gX1_groupOf_X1_with : GoodIn wsX1_groupOf (va_wsS RX1 21 yX1_with wsX1_with) := goodIn_app (goodIn_of _ (by decide +kernel)) ggX1_groupOf_X1_with
set_option maxRecDepth 20000 in
theorem ggX1_groupOf_X1_holds : GoodIn wsX1_groupOf wsX1_holds := goodIn_r _ [8] (by decide +kernel) (by decide +kernel)
set_option maxRecDepth 20000 in
theorem gX1_groupOf_X1_holds : GoodIn wsX1_groupOf (va_wsS RX1 28 yX1_holds wsX1_holds) := goodIn_app (goodIn_of _ (by decide +kernel)) ggX1_groupOf_X1_holds
theorem dX1_groupOf_0 : decode cX1_groupOf 0 = .ok (.iconst 0, 1) := by decide +kernel
theorem dX1_groupOf_1 : decode cX1_groupOf 1 = .ok (.iload_n 1, 1) := by decide +kernel
theorem dX1_groupOf_2 : decode cX1_groupOf 2 = .ok (.invokestatic 21, 3) := by decide +kernel
theorem dX1_groupOf_5 : decode cX1_groupOf 5 = .ok (.istore_n 2, 1) := by decide +kernel
theorem dX1_groupOf_6 : decode cX1_groupOf 6 = .ok (.iconst 1, 1) := by decide +kernel
theorem dX1_groupOf_7 : decode cX1_groupOf 7 = .ok (.istore_n 3, 1) := by decide +kernel
theorem dX1_groupOf_8 : decode cX1_groupOf 8 = .ok (.iload_n 3, 1) := by decide +kernel
theorem dX1_groupOf_9 : decode cX1_groupOf 9 = .ok (.bipush 8, 2) := by decide +kernel
theorem dX1_groupOf_11 : decode cX1_groupOf 11 = .ok (.if_icmp .ge 52, 3) := by decide +kernel
theorem dX1_groupOf_14 : decode cX1_groupOf 14 = .ok (.iload_n 2, 1) := by decide +kernel
theorem dX1_groupOf_15 : decode cX1_groupOf 15 = .ok (.istore 4, 2) := by decide +kernel
theorem dX1_groupOf_17 : decode cX1_groupOf 17 = .ok (.iconst 0, 1) := by decide +kernel
theorem dX1_groupOf_18 : decode cX1_groupOf 18 = .ok (.istore 5, 2) := by decide +kernel
theorem dX1_groupOf_20 : decode cX1_groupOf 20 = .ok (.iload 5, 2) := by decide +kernel
theorem dX1_groupOf_22 : decode cX1_groupOf 22 = .ok (.bipush 8, 2) := by decide +kernel
theorem dX1_groupOf_24 : decode cX1_groupOf 24 = .ok (.if_icmp .ge 30, 3) := by decide +kernel
theorem dX1_groupOf_27 : decode cX1_groupOf 27 = .ok (.iload_n 2, 1) := by decide +kernel
theorem dX1_groupOf_28 : decode cX1_groupOf 28 = .ok (.iload 5, 2) := by decide +kernel
theorem dX1_groupOf_30 : decode cX1_groupOf 30 = .ok (.invokestatic 28, 3) := by decide +kernel
theorem dX1_groupOf_33 : decode cX1_groupOf 33 = .ok (.ifCond .eq 15, 3) := by decide +kernel
theorem dX1_groupOf_36 : decode cX1_groupOf 36 = .ok (.iload 4, 2) := by decide +kernel
theorem dX1_groupOf_38 : decode cX1_groupOf 38 = .ok (.aload_n 0, 1) := by decide +kernel
theorem dX1_groupOf_39 : decode cX1_groupOf 39 = .ok (.getfield 9, 3) := by decide +kernel
theorem dX1_groupOf_42 : decode cX1_groupOf 42 = .ok (.iload 5, 2) := by decide +kernel
theorem dX1_groupOf_44 : decode cX1_groupOf 44 = .ok (.iaload, 1) := by decide +kernel
theorem dX1_groupOf_45 : decode cX1_groupOf 45 = .ok (.ior, 1) := by decide +kernel
theorem dX1_groupOf_46 : decode cX1_groupOf 46 = .ok (.istore 4, 2) := by decide +kernel
theorem dX1_groupOf_48 : decode cX1_groupOf 48 = .ok (.iinc 5 1, 3) := by decide +kernel
theorem dX1_groupOf_51 : decode cX1_groupOf 51 = .ok (.goto (-31), 3) := by decide +kernel
theorem dX1_groupOf_54 : decode cX1_groupOf 54 = .ok (.iload 4, 2) := by decide +kernel
theorem dX1_groupOf_56 : decode cX1_groupOf 56 = .ok (.istore_n 2, 1) := by decide +kernel
theorem dX1_groupOf_57 : decode cX1_groupOf 57 = .ok (.iinc 3 1, 3) := by decide +kernel
theorem dX1_groupOf_60 : decode cX1_groupOf 60 = .ok (.goto (-52), 3) := by decide +kernel
theorem dX1_groupOf_63 : decode cX1_groupOf 63 = .ok (.iload_n 2, 1) := by decide +kernel
theorem dX1_groupOf_64 : decode cX1_groupOf 64 = .ok (.ireturn, 1) := by decide +kernel
theorem dX2_init_0 : decode cX2_init 0 = .ok (.aload_n 0, 1) := by decide +kernel
theorem dX2_init_1 : decode cX2_init 1 = .ok (.invokespecial 3, 3) := by decide +kernel
theorem dX2_init_4 : decode cX2_init 4 = .ok (.aload_n 0, 1) := by decide +kernel
theorem dX2_init_5 : decode cX2_init 5 = .ok (.bipush 8, 2) := by decide +kernel
theorem dX2_init_7 : decode cX2_init 7 = .ok (.newarray .int, 2) := by decide +kernel
theorem dX2_init_9 : decode cX2_init 9 = .ok (.putfield 9, 3) := by decide +kernel
theorem dX2_init_12 : decode cX2_init 12 = .ok (.aload_n 0, 1) := by decide +kernel
theorem dX2_init_13 : decode cX2_init 13 = .ok (.bipush 8, 2) := by decide +kernel
theorem dX2_init_15 : decode cX2_init 15 = .ok (.newarray .int, 2) := by decide +kernel
theorem dX2_init_17 : decode cX2_init 17 = .ok (.putfield 15, 3) := by decide +kernel
theorem dX2_init_20 : decode cX2_init 20 = .ok (.aload_n 0, 1) := by decide +kernel
theorem dX2_init_21 : decode cX2_init 21 = .ok (.bipush 8, 2) := by decide +kernel
theorem dX2_init_23 : decode cX2_init 23 = .ok (.newarray .int, 2) := by decide +kernel
theorem dX2_init_25 : decode cX2_init 25 = .ok (.putfield 18, 3) := by decide +kernel
theorem dX2_init_28 : decode cX2_init 28 = .ok (.return_, 1) := by decide +kernel
set_option maxRecDepth 20000 in
theorem ggX2_rankOf_J7_fill_53178 : GoodIn wsX2_rankOf wsJ7_fill_53178 := goodIn_r _ [6] (by decide +kernel) (by decide +kernel)
set_option maxRecDepth 20000 in
theorem gX2_rankOf_J7_fill_53178 : GoodIn wsX2_rankOf (va_wsS RX2 21 yJ7_fill_53178 wsJ7_fill_53178) := goodIn_app (goodIn_of _ (by decide +kernel)) ggX2_rankOf_J7_fill_53178
set_option maxRecDepth 20000 in
theorem ggX2_rankOf_X1_joins : GoodIn wsX2_rankOf wsX1_joins := goodIn_r _ [10, 11, 12, 13, 8, 14, 48] (by decide +kernel) (by decide +kernel)
set_option maxRecDepth 20000 in
theorem gX2_rankOf_X1_joins_n27 : GoodIn wsX2_rankOf (wsX1_joins) := ggX2_rankOf_X1_joins
set_option maxRecDepth 20000 in
theorem ggX2_rankOf_X2_gatherPebbles : GoodIn wsX2_rankOf wsX2_gatherPebbles := goodIn_r _ [19, 1, 20, 21, 22, 18, 23, 24, 25, 26, 27, 28, 2, 3, 4, 5, 6, 29, 8, 30, 13, 14, 31, 32, 33, 34, 35, 36, 37, 38, 39, 40, 41, 42, 43, 44, 45, 46, 47] (by decide +kernel) (by decide +kernel)
set_option maxRecDepth 20000 in
theorem gX2_rankOf_X2_gatherPebbles : GoodIn wsX2_rankOf (wsV RX2 33 RX2 yX2_gatherPebbles wsX2_gatherPebbles) := goodIn_app (goodIn_of _ (by decide +kernel)) ggX2_rankOf_X2_gatherPebbles
set_option maxRecDepth 20000 in
theorem ggX2_rankOf_X1_with : GoodIn wsX2_rankOf wsX1_with := goodIn_r _ [30] (by decide +kernel) (by decide +kernel)
set_option maxRecDepth 20000 in
theorem gX2_rankOf_X1_with_n36 : GoodIn wsX2_rankOf (wsX1_with) := ggX2_rankOf_X1_with
theorem dX2_rankOf_0 : decode cX2_rankOf 0 = .ok (.aload_n 0, 1) := by decide +kernel
theorem dX2_rankOf_1 : decode cX2_rankOf 1 = .ok (.getfield 9, 3) := by decide +kernel
theorem dX2_rankOf_4 : decode cX2_rankOf 4 = .ok (.iconst 2, 1) := by decide +kernel
theorem dX2_rankOf_5 : decode cX2_rankOf 5 = .ok (.invokestatic 21, 3) := by decide +kernel
theorem dX2_rankOf_8 : decode cX2_rankOf 8 = .ok (.aload_n 0, 1) := by decide +kernel
theorem dX2_rankOf_9 : decode cX2_rankOf 9 = .ok (.getfield 15, 3) := by decide +kernel
theorem dX2_rankOf_12 : decode cX2_rankOf 12 = .ok (.iconst 0, 1) := by decide +kernel
theorem dX2_rankOf_13 : decode cX2_rankOf 13 = .ok (.invokestatic 21, 3) := by decide +kernel
theorem dX2_rankOf_16 : decode cX2_rankOf 16 = .ok (.iconst 0, 1) := by decide +kernel
theorem dX2_rankOf_17 : decode cX2_rankOf 17 = .ok (.istore_n 2, 1) := by decide +kernel
theorem dX2_rankOf_18 : decode cX2_rankOf 18 = .ok (.iconst 0, 1) := by decide +kernel
theorem dX2_rankOf_19 : decode cX2_rankOf 19 = .ok (.istore_n 3, 1) := by decide +kernel
theorem dX2_rankOf_20 : decode cX2_rankOf 20 = .ok (.iload_n 3, 1) := by decide +kernel
theorem dX2_rankOf_21 : decode cX2_rankOf 21 = .ok (.bipush 8, 2) := by decide +kernel
theorem dX2_rankOf_23 : decode cX2_rankOf 23 = .ok (.if_icmp .ge 74, 3) := by decide +kernel
theorem dX2_rankOf_26 : decode cX2_rankOf 26 = .ok (.iconst 0, 1) := by decide +kernel
theorem dX2_rankOf_27 : decode cX2_rankOf 27 = .ok (.istore 4, 2) := by decide +kernel
theorem dX2_rankOf_29 : decode cX2_rankOf 29 = .ok (.iload 4, 2) := by decide +kernel
theorem dX2_rankOf_31 : decode cX2_rankOf 31 = .ok (.iload_n 3, 1) := by decide +kernel
theorem dX2_rankOf_32 : decode cX2_rankOf 32 = .ok (.if_icmp .ge 59, 3) := by decide +kernel
theorem dX2_rankOf_35 : decode cX2_rankOf 35 = .ok (.aload_n 1, 1) := by decide +kernel
theorem dX2_rankOf_36 : decode cX2_rankOf 36 = .ok (.iload_n 3, 1) := by decide +kernel
theorem dX2_rankOf_37 : decode cX2_rankOf 37 = .ok (.iload 4, 2) := by decide +kernel
theorem dX2_rankOf_39 : decode cX2_rankOf 39 = .ok (.invokevirtual 27, 3) := by decide +kernel
theorem dX2_rankOf_42 : decode cX2_rankOf 42 = .ok (.ifCond .eq 43, 3) := by decide +kernel
theorem dX2_rankOf_45 : decode cX2_rankOf 45 = .ok (.aload_n 0, 1) := by decide +kernel
theorem dX2_rankOf_46 : decode cX2_rankOf 46 = .ok (.iload_n 3, 1) := by decide +kernel
theorem dX2_rankOf_47 : decode cX2_rankOf 47 = .ok (.iload 4, 2) := by decide +kernel
theorem dX2_rankOf_49 : decode cX2_rankOf 49 = .ok (.invokevirtual 33, 3) := by decide +kernel
theorem dX2_rankOf_52 : decode cX2_rankOf 52 = .ok (.ifCond .eq 33, 3) := by decide +kernel
theorem dX2_rankOf_55 : decode cX2_rankOf 55 = .ok (.aload_n 0, 1) := by decide +kernel
theorem dX2_rankOf_56 : decode cX2_rankOf 56 = .ok (.getfield 9, 3) := by decide +kernel
theorem dX2_rankOf_59 : decode cX2_rankOf 59 = .ok (.iload_n 3, 1) := by decide +kernel
theorem dX2_rankOf_60 : decode cX2_rankOf 60 = .ok (.dup2, 1) := by decide +kernel
theorem dX2_rankOf_61 : decode cX2_rankOf 61 = .ok (.iaload, 1) := by decide +kernel
theorem dX2_rankOf_62 : decode cX2_rankOf 62 = .ok (.iconst 1, 1) := by decide +kernel
theorem dX2_rankOf_63 : decode cX2_rankOf 63 = .ok (.isub, 1) := by decide +kernel
theorem dX2_rankOf_64 : decode cX2_rankOf 64 = .ok (.iastore, 1) := by decide +kernel
theorem dX2_rankOf_65 : decode cX2_rankOf 65 = .ok (.aload_n 0, 1) := by decide +kernel
theorem dX2_rankOf_66 : decode cX2_rankOf 66 = .ok (.getfield 15, 3) := by decide +kernel
theorem dX2_rankOf_69 : decode cX2_rankOf 69 = .ok (.iload_n 3, 1) := by decide +kernel
theorem dX2_rankOf_70 : decode cX2_rankOf 70 = .ok (.aload_n 0, 1) := by decide +kernel
theorem dX2_rankOf_71 : decode cX2_rankOf 71 = .ok (.getfield 15, 3) := by decide +kernel
theorem dX2_rankOf_74 : decode cX2_rankOf 74 = .ok (.iload_n 3, 1) := by decide +kernel
theorem dX2_rankOf_75 : decode cX2_rankOf 75 = .ok (.iaload, 1) := by decide +kernel
theorem dX2_rankOf_76 : decode cX2_rankOf 76 = .ok (.iload 4, 2) := by decide +kernel
theorem dX2_rankOf_78 : decode cX2_rankOf 78 = .ok (.invokestatic 36, 3) := by decide +kernel
theorem dX2_rankOf_81 : decode cX2_rankOf 81 = .ok (.iastore, 1) := by decide +kernel
theorem dX2_rankOf_82 : decode cX2_rankOf 82 = .ok (.iinc 2 1, 3) := by decide +kernel
theorem dX2_rankOf_85 : decode cX2_rankOf 85 = .ok (.iinc 4 1, 3) := by decide +kernel
theorem dX2_rankOf_88 : decode cX2_rankOf 88 = .ok (.goto (-59), 3) := by decide +kernel
theorem dX2_rankOf_91 : decode cX2_rankOf 91 = .ok (.iinc 3 1, 3) := by decide +kernel
theorem dX2_rankOf_94 : decode cX2_rankOf 94 = .ok (.goto (-74), 3) := by decide +kernel
theorem dX2_rankOf_97 : decode cX2_rankOf 97 = .ok (.iload_n 2, 1) := by decide +kernel
theorem dX2_rankOf_98 : decode cX2_rankOf 98 = .ok (.ireturn, 1) := by decide +kernel
set_option maxRecDepth 20000 in
theorem ggX2_gatherPebbles_X2_fetchPebble : GoodIn wsX2_gatherPebbles wsX2_fetchPebble := goodIn_r _ [6, 1, 7, 8, 9, 5, 10, 11, 12, 13, 14, 15, 16, 17, 18, 19, 20, 21, 22, 23, 24, 25, 26, 27, 28, 29, 30, 31, 32, 33, 34, 35, 36, 37, 38] (by decide +kernel) (by decide +kernel)
set_option maxRecDepth 20000 in
theorem gX2_gatherPebbles_X2_fetchPebble : GoodIn wsX2_gatherPebbles (wsV RX2 40 RX2 yX2_fetchPebble wsX2_fetchPebble) := goodIn_app (goodIn_of _ (by decide +kernel)) ggX2_gatherPebbles_X2_fetchPebble
theorem dX2_gatherPebbles_0 : decode cX2_gatherPebbles 0 = .ok (.iconst 0, 1) := by decide +kernel
theorem dX2_gatherPebbles_1 : decode cX2_gatherPebbles 1 = .ok (.istore_n 3, 1) := by decide +kernel
theorem dX2_gatherPebbles_2 : decode cX2_gatherPebbles 2 = .ok (.iload_n 3, 1) := by decide +kernel
theorem dX2_gatherPebbles_3 : decode cX2_gatherPebbles 3 = .ok (.iconst 4, 1) := by decide +kernel
theorem dX2_gatherPebbles_4 : decode cX2_gatherPebbles 4 = .ok (.if_icmp .ge 48, 3) := by decide +kernel
theorem dX2_gatherPebbles_7 : decode cX2_gatherPebbles 7 = .ok (.aload_n 0, 1) := by decide +kernel
theorem dX2_gatherPebbles_8 : decode cX2_gatherPebbles 8 = .ok (.getfield 9, 3) := by decide +kernel
theorem dX2_gatherPebbles_11 : decode cX2_gatherPebbles 11 = .ok (.iload_n 1, 1) := by decide +kernel
theorem dX2_gatherPebbles_12 : decode cX2_gatherPebbles 12 = .ok (.iaload, 1) := by decide +kernel
theorem dX2_gatherPebbles_13 : decode cX2_gatherPebbles 13 = .ok (.aload_n 0, 1) := by decide +kernel
theorem dX2_gatherPebbles_14 : decode cX2_gatherPebbles 14 = .ok (.getfield 9, 3) := by decide +kernel
theorem dX2_gatherPebbles_17 : decode cX2_gatherPebbles 17 = .ok (.iload_n 2, 1) := by decide +kernel
theorem dX2_gatherPebbles_18 : decode cX2_gatherPebbles 18 = .ok (.iaload, 1) := by decide +kernel
theorem dX2_gatherPebbles_19 : decode cX2_gatherPebbles 19 = .ok (.iadd, 1) := by decide +kernel
theorem dX2_gatherPebbles_20 : decode cX2_gatherPebbles 20 = .ok (.iconst 4, 1) := by decide +kernel
theorem dX2_gatherPebbles_21 : decode cX2_gatherPebbles 21 = .ok (.if_icmp .lt 5, 3) := by decide +kernel
theorem dX2_gatherPebbles_24 : decode cX2_gatherPebbles 24 = .ok (.iconst 1, 1) := by decide +kernel
theorem dX2_gatherPebbles_25 : decode cX2_gatherPebbles 25 = .ok (.ireturn, 1) := by decide +kernel
theorem dX2_gatherPebbles_26 : decode cX2_gatherPebbles 26 = .ok (.aload_n 0, 1) := by decide +kernel
theorem dX2_gatherPebbles_27 : decode cX2_gatherPebbles 27 = .ok (.iload_n 1, 1) := by decide +kernel
theorem dX2_gatherPebbles_28 : decode cX2_gatherPebbles 28 = .ok (.iload_n 2, 1) := by decide +kernel
theorem dX2_gatherPebbles_29 : decode cX2_gatherPebbles 29 = .ok (.invokevirtual 40, 3) := by decide +kernel
theorem dX2_gatherPebbles_32 : decode cX2_gatherPebbles 32 = .ok (.ifCond .ne 14, 3) := by decide +kernel
theorem dX2_gatherPebbles_35 : decode cX2_gatherPebbles 35 = .ok (.aload_n 0, 1) := by decide +kernel
theorem dX2_gatherPebbles_36 : decode cX2_gatherPebbles 36 = .ok (.iload_n 2, 1) := by decide +kernel
theorem dX2_gatherPebbles_37 : decode cX2_gatherPebbles 37 = .ok (.iload_n 1, 1) := by decide +kernel
theorem dX2_gatherPebbles_38 : decode cX2_gatherPebbles 38 = .ok (.invokevirtual 40, 3) := by decide +kernel
theorem dX2_gatherPebbles_41 : decode cX2_gatherPebbles 41 = .ok (.ifCond .ne 5, 3) := by decide +kernel
theorem dX2_gatherPebbles_44 : decode cX2_gatherPebbles 44 = .ok (.iconst 0, 1) := by decide +kernel
theorem dX2_gatherPebbles_45 : decode cX2_gatherPebbles 45 = .ok (.ireturn, 1) := by decide +kernel
theorem dX2_gatherPebbles_46 : decode cX2_gatherPebbles 46 = .ok (.iinc 3 1, 3) := by decide +kernel
theorem dX2_gatherPebbles_49 : decode cX2_gatherPebbles 49 = .ok (.goto (-47), 3) := by decide +kernel
theorem dX2_gatherPebbles_52 : decode cX2_gatherPebbles 52 = .ok (.aload_n 0, 1) := by decide +kernel
theorem dX2_gatherPebbles_53 : decode cX2_gatherPebbles 53 = .ok (.getfield 9, 3) := by decide +kernel
theorem dX2_gatherPebbles_56 : decode cX2_gatherPebbles 56 = .ok (.iload_n 1, 1) := by decide +kernel
theorem dX2_gatherPebbles_57 : decode cX2_gatherPebbles 57 = .ok (.iaload, 1) := by decide +kernel
theorem dX2_gatherPebbles_58 : decode cX2_gatherPebbles 58 = .ok (.aload_n 0, 1) := by decide +kernel
theorem dX2_gatherPebbles_59 : decode cX2_gatherPebbles 59 = .ok (.getfield 9, 3) := by decide +kernel
theorem dX2_gatherPebbles_62 : decode cX2_gatherPebbles 62 = .ok (.iload_n 2, 1) := by decide +kernel
theorem dX2_gatherPebbles_63 : decode cX2_gatherPebbles 63 = .ok (.iaload, 1) := by decide +kernel
theorem dX2_gatherPebbles_64 : decode cX2_gatherPebbles 64 = .ok (.iadd, 1) := by decide +kernel
theorem dX2_gatherPebbles_65 : decode cX2_gatherPebbles 65 = .ok (.iconst 4, 1) := by decide +kernel
theorem dX2_gatherPebbles_66 : decode cX2_gatherPebbles 66 = .ok (.if_icmp .lt 7, 3) := by decide +kernel
theorem dX2_gatherPebbles_69 : decode cX2_gatherPebbles 69 = .ok (.iconst 1, 1) := by decide +kernel
theorem dX2_gatherPebbles_70 : decode cX2_gatherPebbles 70 = .ok (.goto 4, 3) := by decide +kernel
theorem dX2_gatherPebbles_73 : decode cX2_gatherPebbles 73 = .ok (.iconst 0, 1) := by decide +kernel
theorem dX2_gatherPebbles_74 : decode cX2_gatherPebbles 74 = .ok (.ireturn, 1) := by decide +kernel
set_option maxRecDepth 20000 in
theorem ggX2_fetchPebble_X2_findPebble : GoodIn wsX2_fetchPebble wsX2_findPebble := goodIn_r _ [6, 7, 8, 9, 10, 11, 12, 13, 14, 15, 16, 17, 18, 19, 20, 5, 21, 22, 23, 24, 25, 1, 32, 33, 34] (by decide +kernel) (by decide +kernel)
set_option maxRecDepth 20000 in
theorem gX2_fetchPebble_X2_findPebble : GoodIn wsX2_fetchPebble (wsV RX2 43 RX2 yX2_findPebble wsX2_findPebble) := goodIn_app (goodIn_of _ (by decide +kernel)) ggX2_fetchPebble_X2_findPebble
set_option maxRecDepth 20000 in
theorem ggX2_fetchPebble_X2_turnArcs : GoodIn wsX2_fetchPebble wsX2_turnArcs := goodIn_r _ [29, 7, 8, 30, 14, 31, 13, 15, 32, 33, 34] (by decide +kernel) (by decide +kernel)
set_option maxRecDepth 20000 in
theorem gX2_fetchPebble_X2_turnArcs : GoodIn wsX2_fetchPebble (wsV RX2 46 RX2 yX2_turnArcs wsX2_turnArcs) := goodIn_app (goodIn_of _ (by decide +kernel)) ggX2_fetchPebble_X2_turnArcs
theorem dX2_fetchPebble_0 : decode cX2_fetchPebble 0 = .ok (.aload_n 0, 1) := by decide +kernel
theorem dX2_fetchPebble_1 : decode cX2_fetchPebble 1 = .ok (.iload_n 1, 1) := by decide +kernel
theorem dX2_fetchPebble_2 : decode cX2_fetchPebble 2 = .ok (.iload_n 2, 1) := by decide +kernel
theorem dX2_fetchPebble_3 : decode cX2_fetchPebble 3 = .ok (.invokevirtual 43, 3) := by decide +kernel
theorem dX2_fetchPebble_6 : decode cX2_fetchPebble 6 = .ok (.istore_n 3, 1) := by decide +kernel
theorem dX2_fetchPebble_7 : decode cX2_fetchPebble 7 = .ok (.iload_n 3, 1) := by decide +kernel
theorem dX2_fetchPebble_8 : decode cX2_fetchPebble 8 = .ok (.ifCond .ge 5, 3) := by decide +kernel
theorem dX2_fetchPebble_11 : decode cX2_fetchPebble 11 = .ok (.iconst 0, 1) := by decide +kernel
theorem dX2_fetchPebble_12 : decode cX2_fetchPebble 12 = .ok (.ireturn, 1) := by decide +kernel
theorem dX2_fetchPebble_13 : decode cX2_fetchPebble 13 = .ok (.aload_n 0, 1) := by decide +kernel
theorem dX2_fetchPebble_14 : decode cX2_fetchPebble 14 = .ok (.getfield 9, 3) := by decide +kernel
theorem dX2_fetchPebble_17 : decode cX2_fetchPebble 17 = .ok (.iload_n 3, 1) := by decide +kernel
theorem dX2_fetchPebble_18 : decode cX2_fetchPebble 18 = .ok (.dup2, 1) := by decide +kernel
theorem dX2_fetchPebble_19 : decode cX2_fetchPebble 19 = .ok (.iaload, 1) := by decide +kernel
theorem dX2_fetchPebble_20 : decode cX2_fetchPebble 20 = .ok (.iconst 1, 1) := by decide +kernel
theorem dX2_fetchPebble_21 : decode cX2_fetchPebble 21 = .ok (.isub, 1) := by decide +kernel
theorem dX2_fetchPebble_22 : decode cX2_fetchPebble 22 = .ok (.iastore, 1) := by decide +kernel
theorem dX2_fetchPebble_23 : decode cX2_fetchPebble 23 = .ok (.aload_n 0, 1) := by decide +kernel
theorem dX2_fetchPebble_24 : decode cX2_fetchPebble 24 = .ok (.getfield 9, 3) := by decide +kernel
theorem dX2_fetchPebble_27 : decode cX2_fetchPebble 27 = .ok (.iload_n 1, 1) := by decide +kernel
theorem dX2_fetchPebble_28 : decode cX2_fetchPebble 28 = .ok (.dup2, 1) := by decide +kernel
theorem dX2_fetchPebble_29 : decode cX2_fetchPebble 29 = .ok (.iaload, 1) := by decide +kernel
theorem dX2_fetchPebble_30 : decode cX2_fetchPebble 30 = .ok (.iconst 1, 1) := by decide +kernel
theorem dX2_fetchPebble_31 : decode cX2_fetchPebble 31 = .ok (.iadd, 1) := by decide +kernel
theorem dX2_fetchPebble_32 : decode cX2_fetchPebble 32 = .ok (.iastore, 1) := by decide +kernel
theorem dX2_fetchPebble_33 : decode cX2_fetchPebble 33 = .ok (.aload_n 0, 1) := by decide +kernel
theorem dX2_fetchPebble_34 : decode cX2_fetchPebble 34 = .ok (.iload_n 3, 1) := by decide +kernel
theorem dX2_fetchPebble_35 : decode cX2_fetchPebble 35 = .ok (.invokevirtual 46, 3) := by decide +kernel
theorem dX2_fetchPebble_38 : decode cX2_fetchPebble 38 = .ok (.iconst 1, 1) := by decide +kernel
theorem dX2_fetchPebble_39 : decode cX2_fetchPebble 39 = .ok (.ireturn, 1) := by decide +kernel
set_option maxRecDepth 20000 in
theorem ggX2_findPebble_J7_fill_53178 : GoodIn wsX2_findPebble wsJ7_fill_53178 := goodIn_r _ [6] (by decide +kernel) (by decide +kernel)
set_option maxRecDepth 20000 in
theorem gX2_findPebble_J7_fill_53178 : GoodIn wsX2_findPebble (va_wsS RX2 21 yJ7_fill_53178 wsJ7_fill_53178) := goodIn_app (goodIn_of _ (by decide +kernel)) ggX2_findPebble_J7_fill_53178
set_option maxRecDepth 20000 in
theorem ggX2_findPebble_X1_with : GoodIn wsX2_findPebble wsX1_with := goodIn_r _ [9] (by decide +kernel) (by decide +kernel)
set_option maxRecDepth 20000 in
theorem gX2_findPebble_X1_with_n36 : GoodIn wsX2_findPebble (wsX1_with) := ggX2_findPebble_X1_with
set_option maxRecDepth 20000 in
theorem ggX2_findPebble_X1_holds : GoodIn wsX2_findPebble wsX1_holds := goodIn_r _ [11] (by decide +kernel) (by decide +kernel)
set_option maxRecDepth 20000 in
theorem gX2_findPebble_X1_holds_n50 : GoodIn wsX2_findPebble (wsX1_holds) := ggX2_findPebble_X1_holds
set_option maxRecDepth 20000 in
theorem ggX2_findPebble_X2_noteWay : GoodIn wsX2_findPebble wsX2_noteWay := goodIn_r _ [16, 1, 10, 8, 11, 22, 23, 24] (by decide +kernel) (by decide +kernel)
set_option maxRecDepth 20000 in
theorem gX2_findPebble_X2_noteWay : GoodIn wsX2_findPebble (wsV RX2 53 RX2 yX2_noteWay wsX2_noteWay) := goodIn_app (goodIn_of _ (by decide +kernel)) ggX2_findPebble_X2_noteWay
set_option maxRecDepth 20000 in
theorem ggX2_findPebble_X2_holderAmong : GoodIn wsX2_findPebble wsX2_holderAmong := goodIn_r _ [20, 21, 10, 8, 11, 22, 23, 24] (by decide +kernel) (by decide +kernel)
set_option maxRecDepth 20000 in
theorem gX2_findPebble_X2_holderAmong : GoodIn wsX2_findPebble (wsV RX2 57 RX2 yX2_holderAmong wsX2_holderAmong) := goodIn_app (goodIn_of _ (by decide +kernel)) ggX2_findPebble_X2_holderAmong
theorem dX2_findPebble_0 : decode cX2_findPebble 0 = .ok (.aload_n 0, 1) := by decide +kernel
theorem dX2_findPebble_1 : decode cX2_findPebble 1 = .ok (.getfield 18, 3) := by decide +kernel
theorem dX2_findPebble_4 : decode cX2_findPebble 4 = .ok (.iconst (-1), 1) := by decide +kernel
theorem dX2_findPebble_5 : decode cX2_findPebble 5 = .ok (.invokestatic 21, 3) := by decide +kernel
theorem dX2_findPebble_8 : decode cX2_findPebble 8 = .ok (.iconst 0, 1) := by decide +kernel
theorem dX2_findPebble_9 : decode cX2_findPebble 9 = .ok (.iload_n 1, 1) := by decide +kernel
theorem dX2_findPebble_10 : decode cX2_findPebble 10 = .ok (.invokestatic 36, 3) := by decide +kernel
theorem dX2_findPebble_13 : decode cX2_findPebble 13 = .ok (.iload_n 2, 1) := by decide +kernel
theorem dX2_findPebble_14 : decode cX2_findPebble 14 = .ok (.invokestatic 36, 3) := by decide +kernel
theorem dX2_findPebble_17 : decode cX2_findPebble 17 = .ok (.istore_n 3, 1) := by decide +kernel
theorem dX2_findPebble_18 : decode cX2_findPebble 18 = .ok (.iconst 0, 1) := by decide +kernel
theorem dX2_findPebble_19 : decode cX2_findPebble 19 = .ok (.iload_n 1, 1) := by decide +kernel
theorem dX2_findPebble_20 : decode cX2_findPebble 20 = .ok (.invokestatic 36, 3) := by decide +kernel
theorem dX2_findPebble_23 : decode cX2_findPebble 23 = .ok (.istore 4, 2) := by decide +kernel
theorem dX2_findPebble_25 : decode cX2_findPebble 25 = .ok (.iconst 1, 1) := by decide +kernel
theorem dX2_findPebble_26 : decode cX2_findPebble 26 = .ok (.istore 5, 2) := by decide +kernel
theorem dX2_findPebble_28 : decode cX2_findPebble 28 = .ok (.iload 5, 2) := by decide +kernel
theorem dX2_findPebble_30 : decode cX2_findPebble 30 = .ok (.bipush 8, 2) := by decide +kernel
theorem dX2_findPebble_32 : decode cX2_findPebble 32 = .ok (.if_icmp .ge 96, 3) := by decide +kernel
theorem dX2_findPebble_35 : decode cX2_findPebble 35 = .ok (.iconst 0, 1) := by decide +kernel
theorem dX2_findPebble_36 : decode cX2_findPebble 36 = .ok (.istore 6, 2) := by decide +kernel
theorem dX2_findPebble_38 : decode cX2_findPebble 38 = .ok (.iconst 0, 1) := by decide +kernel
theorem dX2_findPebble_39 : decode cX2_findPebble 39 = .ok (.istore 7, 2) := by decide +kernel
theorem dX2_findPebble_41 : decode cX2_findPebble 41 = .ok (.iload 7, 2) := by decide +kernel
theorem dX2_findPebble_43 : decode cX2_findPebble 43 = .ok (.bipush 8, 2) := by decide +kernel
theorem dX2_findPebble_45 : decode cX2_findPebble 45 = .ok (.if_icmp .ge 52, 3) := by decide +kernel
theorem dX2_findPebble_48 : decode cX2_findPebble 48 = .ok (.iload 4, 2) := by decide +kernel
theorem dX2_findPebble_50 : decode cX2_findPebble 50 = .ok (.iload 7, 2) := by decide +kernel
theorem dX2_findPebble_52 : decode cX2_findPebble 52 = .ok (.invokestatic 50, 3) := by decide +kernel
theorem dX2_findPebble_55 : decode cX2_findPebble 55 = .ok (.ifCond .eq 36, 3) := by decide +kernel
theorem dX2_findPebble_58 : decode cX2_findPebble 58 = .ok (.aload_n 0, 1) := by decide +kernel
theorem dX2_findPebble_59 : decode cX2_findPebble 59 = .ok (.getfield 15, 3) := by decide +kernel
theorem dX2_findPebble_62 : decode cX2_findPebble 62 = .ok (.iload 7, 2) := by decide +kernel
theorem dX2_findPebble_64 : decode cX2_findPebble 64 = .ok (.iaload, 1) := by decide +kernel
theorem dX2_findPebble_65 : decode cX2_findPebble 65 = .ok (.iload_n 3, 1) := by decide +kernel
theorem dX2_findPebble_66 : decode cX2_findPebble 66 = .ok (.iconst (-1), 1) := by decide +kernel
theorem dX2_findPebble_67 : decode cX2_findPebble 67 = .ok (.ixor, 1) := by decide +kernel
theorem dX2_findPebble_68 : decode cX2_findPebble 68 = .ok (.iand, 1) := by decide +kernel
theorem dX2_findPebble_69 : decode cX2_findPebble 69 = .ok (.iload 6, 2) := by decide +kernel
theorem dX2_findPebble_71 : decode cX2_findPebble 71 = .ok (.iconst (-1), 1) := by decide +kernel
theorem dX2_findPebble_72 : decode cX2_findPebble 72 = .ok (.ixor, 1) := by decide +kernel
theorem dX2_findPebble_73 : decode cX2_findPebble 73 = .ok (.iand, 1) := by decide +kernel
theorem dX2_findPebble_74 : decode cX2_findPebble 74 = .ok (.istore 8, 2) := by decide +kernel
theorem dX2_findPebble_76 : decode cX2_findPebble 76 = .ok (.aload_n 0, 1) := by decide +kernel
theorem dX2_findPebble_77 : decode cX2_findPebble 77 = .ok (.iload 7, 2) := by decide +kernel
theorem dX2_findPebble_79 : decode cX2_findPebble 79 = .ok (.iload 8, 2) := by decide +kernel
theorem dX2_findPebble_81 : decode cX2_findPebble 81 = .ok (.invokevirtual 53, 3) := by decide +kernel
theorem dX2_findPebble_84 : decode cX2_findPebble 84 = .ok (.iload 6, 2) := by decide +kernel
theorem dX2_findPebble_86 : decode cX2_findPebble 86 = .ok (.iload 8, 2) := by decide +kernel
theorem dX2_findPebble_88 : decode cX2_findPebble 88 = .ok (.ior, 1) := by decide +kernel
theorem dX2_findPebble_89 : decode cX2_findPebble 89 = .ok (.istore 6, 2) := by decide +kernel
theorem dX2_findPebble_91 : decode cX2_findPebble 91 = .ok (.iinc 7 1, 3) := by decide +kernel
theorem dX2_findPebble_94 : decode cX2_findPebble 94 = .ok (.goto (-53), 3) := by decide +kernel
theorem dX2_findPebble_97 : decode cX2_findPebble 97 = .ok (.aload_n 0, 1) := by decide +kernel
theorem dX2_findPebble_98 : decode cX2_findPebble 98 = .ok (.iload 6, 2) := by decide +kernel
theorem dX2_findPebble_100 : decode cX2_findPebble 100 = .ok (.invokevirtual 57, 3) := by decide +kernel
theorem dX2_findPebble_103 : decode cX2_findPebble 103 = .ok (.istore 7, 2) := by decide +kernel
theorem dX2_findPebble_105 : decode cX2_findPebble 105 = .ok (.iload 7, 2) := by decide +kernel
theorem dX2_findPebble_107 : decode cX2_findPebble 107 = .ok (.ifCond .lt 6, 3) := by decide +kernel
theorem dX2_findPebble_110 : decode cX2_findPebble 110 = .ok (.iload 7, 2) := by decide +kernel
theorem dX2_findPebble_112 : decode cX2_findPebble 112 = .ok (.ireturn, 1) := by decide +kernel
theorem dX2_findPebble_113 : decode cX2_findPebble 113 = .ok (.iload_n 3, 1) := by decide +kernel
theorem dX2_findPebble_114 : decode cX2_findPebble 114 = .ok (.iload 6, 2) := by decide +kernel
theorem dX2_findPebble_116 : decode cX2_findPebble 116 = .ok (.ior, 1) := by decide +kernel
theorem dX2_findPebble_117 : decode cX2_findPebble 117 = .ok (.istore_n 3, 1) := by decide +kernel
theorem dX2_findPebble_118 : decode cX2_findPebble 118 = .ok (.iload 6, 2) := by decide +kernel
theorem dX2_findPebble_120 : decode cX2_findPebble 120 = .ok (.istore 4, 2) := by decide +kernel
theorem dX2_findPebble_122 : decode cX2_findPebble 122 = .ok (.iinc 5 1, 3) := by decide +kernel
theorem dX2_findPebble_125 : decode cX2_findPebble 125 = .ok (.goto (-97), 3) := by decide +kernel
theorem dX2_findPebble_128 : decode cX2_findPebble 128 = .ok (.iconst (-1), 1) := by decide +kernel
theorem dX2_findPebble_129 : decode cX2_findPebble 129 = .ok (.ireturn, 1) := by decide +kernel
set_option maxRecDepth 20000 in
theorem ggX2_noteWay_X1_holds : GoodIn wsX2_noteWay wsX1_holds := goodIn_r _ [4] (by decide +kernel) (by decide +kernel)
set_option maxRecDepth 20000 in
theorem gX2_noteWay_X1_holds_n50 : GoodIn wsX2_noteWay (wsX1_holds) := ggX2_noteWay_X1_holds
theorem dX2_noteWay_0 : decode cX2_noteWay 0 = .ok (.iconst 0, 1) := by decide +kernel
theorem dX2_noteWay_1 : decode cX2_noteWay 1 = .ok (.istore_n 3, 1) := by decide +kernel
theorem dX2_noteWay_2 : decode cX2_noteWay 2 = .ok (.iload_n 3, 1) := by decide +kernel
theorem dX2_noteWay_3 : decode cX2_noteWay 3 = .ok (.bipush 8, 2) := by decide +kernel
theorem dX2_noteWay_5 : decode cX2_noteWay 5 = .ok (.if_icmp .ge 24, 3) := by decide +kernel
theorem dX2_noteWay_8 : decode cX2_noteWay 8 = .ok (.iload_n 2, 1) := by decide +kernel
theorem dX2_noteWay_9 : decode cX2_noteWay 9 = .ok (.iload_n 3, 1) := by decide +kernel
theorem dX2_noteWay_10 : decode cX2_noteWay 10 = .ok (.invokestatic 50, 3) := by decide +kernel
theorem dX2_noteWay_13 : decode cX2_noteWay 13 = .ok (.ifCond .eq 10, 3) := by decide +kernel
theorem dX2_noteWay_16 : decode cX2_noteWay 16 = .ok (.aload_n 0, 1) := by decide +kernel
theorem dX2_noteWay_17 : decode cX2_noteWay 17 = .ok (.getfield 18, 3) := by decide +kernel
theorem dX2_noteWay_20 : decode cX2_noteWay 20 = .ok (.iload_n 3, 1) := by decide +kernel
theorem dX2_noteWay_21 : decode cX2_noteWay 21 = .ok (.iload_n 1, 1) := by decide +kernel
theorem dX2_noteWay_22 : decode cX2_noteWay 22 = .ok (.iastore, 1) := by decide +kernel
theorem dX2_noteWay_23 : decode cX2_noteWay 23 = .ok (.iinc 3 1, 3) := by decide +kernel
theorem dX2_noteWay_26 : decode cX2_noteWay 26 = .ok (.goto (-24), 3) := by decide +kernel
theorem dX2_noteWay_29 : decode cX2_noteWay 29 = .ok (.return_, 1) := by decide +kernel
set_option maxRecDepth 20000 in
theorem ggX2_holderAmong_X1_holds : GoodIn wsX2_holderAmong wsX1_holds := goodIn_r _ [4] (by decide +kernel) (by decide +kernel)
set_option maxRecDepth 20000 in
theorem gX2_holderAmong_X1_holds_n50 : GoodIn wsX2_holderAmong (wsX1_holds) := ggX2_holderAmong_X1_holds
theorem dX2_holderAmong_0 : decode cX2_holderAmong 0 = .ok (.iconst 0, 1) := by decide +kernel
theorem dX2_holderAmong_1 : decode cX2_holderAmong 1 = .ok (.istore_n 2, 1) := by decide +kernel
theorem dX2_holderAmong_2 : decode cX2_holderAmong 2 = .ok (.iload_n 2, 1) := by decide +kernel
theorem dX2_holderAmong_3 : decode cX2_holderAmong 3 = .ok (.bipush 8, 2) := by decide +kernel
theorem dX2_holderAmong_5 : decode cX2_holderAmong 5 = .ok (.if_icmp .ge 28, 3) := by decide +kernel
theorem dX2_holderAmong_8 : decode cX2_holderAmong 8 = .ok (.iload_n 1, 1) := by decide +kernel
theorem dX2_holderAmong_9 : decode cX2_holderAmong 9 = .ok (.iload_n 2, 1) := by decide +kernel
theorem dX2_holderAmong_10 : decode cX2_holderAmong 10 = .ok (.invokestatic 50, 3) := by decide +kernel
theorem dX2_holderAmong_13 : decode cX2_holderAmong 13 = .ok (.ifCond .eq 14, 3) := by decide +kernel
theorem dX2_holderAmong_16 : decode cX2_holderAmong 16 = .ok (.aload_n 0, 1) := by decide +kernel
theorem dX2_holderAmong_17 : decode cX2_holderAmong 17 = .ok (.getfield 9, 3) := by decide +kernel
theorem dX2_holderAmong_20 : decode cX2_holderAmong 20 = .ok (.iload_n 2, 1) := by decide +kernel
theorem dX2_holderAmong_21 : decode cX2_holderAmong 21 = .ok (.iaload, 1) := by decide +kernel
theorem dX2_holderAmong_22 : decode cX2_holderAmong 22 = .ok (.ifCond .le 5, 3) := by decide +kernel
theorem dX2_holderAmong_25 : decode cX2_holderAmong 25 = .ok (.iload_n 2, 1) := by decide +kernel
theorem dX2_holderAmong_26 : decode cX2_holderAmong 26 = .ok (.ireturn, 1) := by decide +kernel
theorem dX2_holderAmong_27 : decode cX2_holderAmong 27 = .ok (.iinc 2 1, 3) := by decide +kernel
theorem dX2_holderAmong_30 : decode cX2_holderAmong 30 = .ok (.goto (-28), 3) := by decide +kernel
theorem dX2_holderAmong_33 : decode cX2_holderAmong 33 = .ok (.iconst (-1), 1) := by decide +kernel
theorem dX2_holderAmong_34 : decode cX2_holderAmong 34 = .ok (.ireturn, 1) := by decide +kernel
set_option maxRecDepth 20000 in
theorem ggX2_turnArcs_X1_without : GoodIn wsX2_turnArcs wsX1_without := goodIn_r _ [5] (by decide +kernel) (by decide +kernel)
set_option maxRecDepth 20000 in
theorem gX2_turnArcs_X1_without_n61 : GoodIn wsX2_turnArcs (wsX1_without) := ggX2_turnArcs_X1_without
set_option maxRecDepth 20000 in
theorem ggX2_turnArcs_X1_with : GoodIn wsX2_turnArcs wsX1_with := goodIn_r _ [7] (by decide +kernel) (by decide +kernel)
set_option maxRecDepth 20000 in
theorem gX2_turnArcs_X1_with_n36 : GoodIn wsX2_turnArcs (wsX1_with) := ggX2_turnArcs_X1_with
theorem dX2_turnArcs_0 : decode cX2_turnArcs 0 = .ok (.iload_n 1, 1) := by decide +kernel
theorem dX2_turnArcs_1 : decode cX2_turnArcs 1 = .ok (.istore_n 2, 1) := by decide +kernel
theorem dX2_turnArcs_2 : decode cX2_turnArcs 2 = .ok (.iconst 1, 1) := by decide +kernel
theorem dX2_turnArcs_3 : decode cX2_turnArcs 3 = .ok (.istore_n 3, 1) := by decide +kernel
theorem dX2_turnArcs_4 : decode cX2_turnArcs 4 = .ok (.iload_n 3, 1) := by decide +kernel
theorem dX2_turnArcs_5 : decode cX2_turnArcs 5 = .ok (.bipush 8, 2) := by decide +kernel
theorem dX2_turnArcs_7 : decode cX2_turnArcs 7 = .ok (.if_icmp .ge 61, 3) := by decide +kernel
theorem dX2_turnArcs_10 : decode cX2_turnArcs 10 = .ok (.aload_n 0, 1) := by decide +kernel
theorem dX2_turnArcs_11 : decode cX2_turnArcs 11 = .ok (.getfield 18, 3) := by decide +kernel
theorem dX2_turnArcs_14 : decode cX2_turnArcs 14 = .ok (.iload_n 2, 1) := by decide +kernel
theorem dX2_turnArcs_15 : decode cX2_turnArcs 15 = .ok (.iaload, 1) := by decide +kernel
theorem dX2_turnArcs_16 : decode cX2_turnArcs 16 = .ok (.istore 4, 2) := by decide +kernel
theorem dX2_turnArcs_18 : decode cX2_turnArcs 18 = .ok (.iload 4, 2) := by decide +kernel
theorem dX2_turnArcs_20 : decode cX2_turnArcs 20 = .ok (.ifCond .ge 4, 3) := by decide +kernel
theorem dX2_turnArcs_23 : decode cX2_turnArcs 23 = .ok (.return_, 1) := by decide +kernel
theorem dX2_turnArcs_24 : decode cX2_turnArcs 24 = .ok (.aload_n 0, 1) := by decide +kernel
theorem dX2_turnArcs_25 : decode cX2_turnArcs 25 = .ok (.getfield 15, 3) := by decide +kernel
theorem dX2_turnArcs_28 : decode cX2_turnArcs 28 = .ok (.iload 4, 2) := by decide +kernel
theorem dX2_turnArcs_30 : decode cX2_turnArcs 30 = .ok (.aload_n 0, 1) := by decide +kernel
theorem dX2_turnArcs_31 : decode cX2_turnArcs 31 = .ok (.getfield 15, 3) := by decide +kernel
theorem dX2_turnArcs_34 : decode cX2_turnArcs 34 = .ok (.iload 4, 2) := by decide +kernel
theorem dX2_turnArcs_36 : decode cX2_turnArcs 36 = .ok (.iaload, 1) := by decide +kernel
theorem dX2_turnArcs_37 : decode cX2_turnArcs 37 = .ok (.iload_n 2, 1) := by decide +kernel
theorem dX2_turnArcs_38 : decode cX2_turnArcs 38 = .ok (.invokestatic 61, 3) := by decide +kernel
theorem dX2_turnArcs_41 : decode cX2_turnArcs 41 = .ok (.iastore, 1) := by decide +kernel
theorem dX2_turnArcs_42 : decode cX2_turnArcs 42 = .ok (.aload_n 0, 1) := by decide +kernel
theorem dX2_turnArcs_43 : decode cX2_turnArcs 43 = .ok (.getfield 15, 3) := by decide +kernel
theorem dX2_turnArcs_46 : decode cX2_turnArcs 46 = .ok (.iload_n 2, 1) := by decide +kernel
theorem dX2_turnArcs_47 : decode cX2_turnArcs 47 = .ok (.aload_n 0, 1) := by decide +kernel
theorem dX2_turnArcs_48 : decode cX2_turnArcs 48 = .ok (.getfield 15, 3) := by decide +kernel
theorem dX2_turnArcs_51 : decode cX2_turnArcs 51 = .ok (.iload_n 2, 1) := by decide +kernel
theorem dX2_turnArcs_52 : decode cX2_turnArcs 52 = .ok (.iaload, 1) := by decide +kernel
theorem dX2_turnArcs_53 : decode cX2_turnArcs 53 = .ok (.iload 4, 2) := by decide +kernel
theorem dX2_turnArcs_55 : decode cX2_turnArcs 55 = .ok (.invokestatic 36, 3) := by decide +kernel
theorem dX2_turnArcs_58 : decode cX2_turnArcs 58 = .ok (.iastore, 1) := by decide +kernel
theorem dX2_turnArcs_59 : decode cX2_turnArcs 59 = .ok (.iload 4, 2) := by decide +kernel
theorem dX2_turnArcs_61 : decode cX2_turnArcs 61 = .ok (.istore_n 2, 1) := by decide +kernel
theorem dX2_turnArcs_62 : decode cX2_turnArcs 62 = .ok (.iinc 3 1, 3) := by decide +kernel
theorem dX2_turnArcs_65 : decode cX2_turnArcs 65 = .ok (.goto (-61), 3) := by decide +kernel
theorem dX2_turnArcs_68 : decode cX2_turnArcs 68 = .ok (.return_, 1) := by decide +kernel
theorem dX3_init_0 : decode cX3_init 0 = .ok (.aload_n 0, 1) := by decide +kernel
theorem dX3_init_1 : decode cX3_init 1 = .ok (.invokespecial 3, 3) := by decide +kernel
theorem dX3_init_4 : decode cX3_init 4 = .ok (.aload_n 0, 1) := by decide +kernel
theorem dX3_init_5 : decode cX3_init 5 = .ok (.bipush 8, 2) := by decide +kernel
theorem dX3_init_7 : decode cX3_init 7 = .ok (.bipush 8, 2) := by decide +kernel
theorem dX3_init_9 : decode cX3_init 9 = .ok (.multianewarray 9 2, 4) := by decide +kernel
theorem dX3_init_13 : decode cX3_init 13 = .ok (.putfield 11, 3) := by decide +kernel
theorem dX3_init_16 : decode cX3_init 16 = .ok (.return_, 1) := by decide +kernel
set_option maxRecDepth 20000 in
theorem ggX3_treesOf_J6_numberOfTrailingZeros_0f7a4 : GoodIn wsX3_treesOf wsJ6_numberOfTrailingZeros_0f7a4 := goodIn_r _ [4, 5] (by decide +kernel) (by decide +kernel)
set_option maxRecDepth 20000 in
theorem gX3_treesOf_J6_numberOfTrailingZeros_0f7a4 : GoodIn wsX3_treesOf (va_wsS RX3 16 yJ6_numberOfTrailingZeros_0f7a4 wsJ6_numberOfTrailingZeros_0f7a4) := goodIn_app (goodIn_of _ (by decide +kernel)) ggX3_treesOf_J6_numberOfTrailingZeros_0f7a4
set_option maxRecDepth 20000 in
theorem ggX3_treesOf_X1_without : GoodIn wsX3_treesOf wsX1_without := goodIn_r _ [8] (by decide +kernel) (by decide +kernel)
set_option maxRecDepth 20000 in
theorem gX3_treesOf_X1_without_n22 : GoodIn wsX3_treesOf (wsX1_without) := ggX3_treesOf_X1_without
set_option maxRecDepth 20000 in
theorem ggX3_treesOf_X3_fill : GoodIn wsX3_treesOf wsX3_fill := goodIn_r _ [13, 14, 15, 7, 16, 17, 18, 12, 19, 20, 21, 22, 23, 24, 25, 26, 27, 28, 29, 30, 3, 31, 32, 33, 34, 39, 40] (by decide +kernel) (by decide +kernel)
set_option maxRecDepth 20000 in
theorem gX3_treesOf_X3_fill : GoodIn wsX3_treesOf (wsV RX3 28 RX3 yX3_fill wsX3_fill) := goodIn_app (goodIn_of _ (by decide +kernel)) ggX3_treesOf_X3_fill
set_option maxRecDepth 20000 in
theorem ggX3_treesOf_X3_determinant : GoodIn wsX3_treesOf wsX3_determinant := goodIn_r _ [38, 14, 39] (by decide +kernel) (by decide +kernel)
set_option maxRecDepth 20000 in
theorem gX3_treesOf_X3_determinant : GoodIn wsX3_treesOf (wsV RX3 32 RX3 yX3_determinant wsX3_determinant) := goodIn_app (goodIn_of _ (by decide +kernel)) ggX3_treesOf_X3_determinant
theorem dX3_treesOf_0 : decode cX3_treesOf 0 = .ok (.iload_n 2, 1) := by decide +kernel
theorem dX3_treesOf_1 : decode cX3_treesOf 1 = .ok (.ifCond .ne 5, 3) := by decide +kernel
theorem dX3_treesOf_4 : decode cX3_treesOf 4 = .ok (.lconst 0, 1) := by decide +kernel
theorem dX3_treesOf_5 : decode cX3_treesOf 5 = .ok (.lreturn, 1) := by decide +kernel
theorem dX3_treesOf_6 : decode cX3_treesOf 6 = .ok (.iload_n 2, 1) := by decide +kernel
theorem dX3_treesOf_7 : decode cX3_treesOf 7 = .ok (.invokestatic 16, 3) := by decide +kernel
theorem dX3_treesOf_10 : decode cX3_treesOf 10 = .ok (.istore_n 3, 1) := by decide +kernel
theorem dX3_treesOf_11 : decode cX3_treesOf 11 = .ok (.aload_n 0, 1) := by decide +kernel
theorem dX3_treesOf_12 : decode cX3_treesOf 12 = .ok (.aload_n 0, 1) := by decide +kernel
theorem dX3_treesOf_13 : decode cX3_treesOf 13 = .ok (.aload_n 1, 1) := by decide +kernel
theorem dX3_treesOf_14 : decode cX3_treesOf 14 = .ok (.iload_n 2, 1) := by decide +kernel
theorem dX3_treesOf_15 : decode cX3_treesOf 15 = .ok (.iload_n 3, 1) := by decide +kernel
theorem dX3_treesOf_16 : decode cX3_treesOf 16 = .ok (.invokestatic 22, 3) := by decide +kernel
theorem dX3_treesOf_19 : decode cX3_treesOf 19 = .ok (.invokevirtual 28, 3) := by decide +kernel
theorem dX3_treesOf_22 : decode cX3_treesOf 22 = .ok (.invokevirtual 32, 3) := by decide +kernel
theorem dX3_treesOf_25 : decode cX3_treesOf 25 = .ok (.lreturn, 1) := by decide +kernel
set_option maxRecDepth 20000 in
theorem ggX3_fill_X1_holds : GoodIn wsX3_fill wsX1_holds := goodIn_r _ [4] (by decide +kernel) (by decide +kernel)
set_option maxRecDepth 20000 in
theorem gX3_fill_X1_holds_n36 : GoodIn wsX3_fill (wsX1_holds) := ggX3_fill_X1_holds
set_option maxRecDepth 20000 in
theorem ggX3_fill_X3_fillRow : GoodIn wsX3_fill wsX3_fillRow := goodIn_r _ [8, 9, 2, 3, 4, 10, 11, 12, 13, 14, 15, 16, 17, 18, 19, 20, 21, 22, 23, 24, 26] (by decide +kernel) (by decide +kernel)
set_option maxRecDepth 20000 in
theorem gX3_fill_X3_fillRow : GoodIn wsX3_fill (va_wsS RX3 40 yX3_fillRow wsX3_fillRow) := goodIn_app (goodIn_of _ (by decide +kernel)) ggX3_fill_X3_fillRow
theorem dX3_fill_0 : decode cX3_fill 0 = .ok (.iconst 0, 1) := by decide +kernel
theorem dX3_fill_1 : decode cX3_fill 1 = .ok (.istore_n 3, 1) := by decide +kernel
theorem dX3_fill_2 : decode cX3_fill 2 = .ok (.iconst 0, 1) := by decide +kernel
theorem dX3_fill_3 : decode cX3_fill 3 = .ok (.istore 4, 2) := by decide +kernel
theorem dX3_fill_5 : decode cX3_fill 5 = .ok (.iload 4, 2) := by decide +kernel
theorem dX3_fill_7 : decode cX3_fill 7 = .ok (.bipush 8, 2) := by decide +kernel
theorem dX3_fill_9 : decode cX3_fill 9 = .ok (.if_icmp .ge 34, 3) := by decide +kernel
theorem dX3_fill_12 : decode cX3_fill 12 = .ok (.iload_n 2, 1) := by decide +kernel
theorem dX3_fill_13 : decode cX3_fill 13 = .ok (.iload 4, 2) := by decide +kernel
theorem dX3_fill_15 : decode cX3_fill 15 = .ok (.invokestatic 36, 3) := by decide +kernel
theorem dX3_fill_18 : decode cX3_fill 18 = .ok (.ifCond .eq 19, 3) := by decide +kernel
theorem dX3_fill_21 : decode cX3_fill 21 = .ok (.aload_n 1, 1) := by decide +kernel
theorem dX3_fill_22 : decode cX3_fill 22 = .ok (.iload_n 2, 1) := by decide +kernel
theorem dX3_fill_23 : decode cX3_fill 23 = .ok (.iload 4, 2) := by decide +kernel
theorem dX3_fill_25 : decode cX3_fill 25 = .ok (.aload_n 0, 1) := by decide +kernel
theorem dX3_fill_26 : decode cX3_fill 26 = .ok (.getfield 11, 3) := by decide +kernel
theorem dX3_fill_29 : decode cX3_fill 29 = .ok (.iload_n 3, 1) := by decide +kernel
theorem dX3_fill_30 : decode cX3_fill 30 = .ok (.aaload, 1) := by decide +kernel
theorem dX3_fill_31 : decode cX3_fill 31 = .ok (.invokestatic 40, 3) := by decide +kernel
theorem dX3_fill_34 : decode cX3_fill 34 = .ok (.iinc 3 1, 3) := by decide +kernel
theorem dX3_fill_37 : decode cX3_fill 37 = .ok (.iinc 4 1, 3) := by decide +kernel
theorem dX3_fill_40 : decode cX3_fill 40 = .ok (.goto (-35), 3) := by decide +kernel
theorem dX3_fill_43 : decode cX3_fill 43 = .ok (.iload_n 3, 1) := by decide +kernel
theorem dX3_fill_44 : decode cX3_fill 44 = .ok (.ireturn, 1) := by decide +kernel
set_option maxRecDepth 20000 in
theorem ggX3_fillRow_X1_holds : GoodIn wsX3_fillRow wsX1_holds := goodIn_r _ [4] (by decide +kernel) (by decide +kernel)
set_option maxRecDepth 20000 in
theorem gX3_fillRow_X1_holds_n36 : GoodIn wsX3_fillRow (wsX1_holds) := ggX3_fillRow_X1_holds
set_option maxRecDepth 20000 in
theorem ggX3_fillRow_X1_joins : GoodIn wsX3_fillRow wsX1_joins := goodIn_r _ [7, 8, 9, 2, 3, 4, 20] (by decide +kernel) (by decide +kernel)
set_option maxRecDepth 20000 in
theorem gX3_fillRow_X1_joins_n44 : GoodIn wsX3_fillRow (wsX1_joins) := ggX3_fillRow_X1_joins
set_option maxRecDepth 20000 in
theorem ggX3_fillRow_X1_degreeOf : GoodIn wsX3_fillRow wsX1_degreeOf := goodIn_r _ [12, 8, 13, 14, 15, 16, 17, 18, 19, 20] (by decide +kernel) (by decide +kernel)
set_option maxRecDepth 20000 in
theorem gX3_fillRow_X1_degreeOf_n49 : GoodIn wsX3_fillRow (wsX1_degreeOf) := ggX3_fillRow_X1_degreeOf
theorem dX3_fillRow_0 : decode cX3_fillRow 0 = .ok (.iconst 0, 1) := by decide +kernel
theorem dX3_fillRow_1 : decode cX3_fillRow 1 = .ok (.istore 4, 2) := by decide +kernel
theorem dX3_fillRow_3 : decode cX3_fillRow 3 = .ok (.iconst 0, 1) := by decide +kernel
theorem dX3_fillRow_4 : decode cX3_fillRow 4 = .ok (.istore 5, 2) := by decide +kernel
theorem dX3_fillRow_6 : decode cX3_fillRow 6 = .ok (.iload 5, 2) := by decide +kernel
theorem dX3_fillRow_8 : decode cX3_fillRow 8 = .ok (.bipush 8, 2) := by decide +kernel
theorem dX3_fillRow_10 : decode cX3_fillRow 10 = .ok (.if_icmp .ge 58, 3) := by decide +kernel
theorem dX3_fillRow_13 : decode cX3_fillRow 13 = .ok (.iload_n 1, 1) := by decide +kernel
theorem dX3_fillRow_14 : decode cX3_fillRow 14 = .ok (.iload 5, 2) := by decide +kernel
theorem dX3_fillRow_16 : decode cX3_fillRow 16 = .ok (.invokestatic 36, 3) := by decide +kernel
theorem dX3_fillRow_19 : decode cX3_fillRow 19 = .ok (.ifCond .eq 43, 3) := by decide +kernel
theorem dX3_fillRow_22 : decode cX3_fillRow 22 = .ok (.aload_n 3, 1) := by decide +kernel
theorem dX3_fillRow_23 : decode cX3_fillRow 23 = .ok (.iload 4, 2) := by decide +kernel
theorem dX3_fillRow_25 : decode cX3_fillRow 25 = .ok (.aload_n 0, 1) := by decide +kernel
theorem dX3_fillRow_26 : decode cX3_fillRow 26 = .ok (.iload_n 2, 1) := by decide +kernel
theorem dX3_fillRow_27 : decode cX3_fillRow 27 = .ok (.iload 5, 2) := by decide +kernel
theorem dX3_fillRow_29 : decode cX3_fillRow 29 = .ok (.invokevirtual 44, 3) := by decide +kernel
theorem dX3_fillRow_32 : decode cX3_fillRow 32 = .ok (.ifCond .eq 9, 3) := by decide +kernel
theorem dX3_fillRow_35 : decode cX3_fillRow 35 = .ok (.ldc2_w 47, 3) := by decide +kernel
theorem dX3_fillRow_38 : decode cX3_fillRow 38 = .ok (.goto 4, 3) := by decide +kernel
theorem dX3_fillRow_41 : decode cX3_fillRow 41 = .ok (.lconst 0, 1) := by decide +kernel
theorem dX3_fillRow_42 : decode cX3_fillRow 42 = .ok (.lastore, 1) := by decide +kernel
theorem dX3_fillRow_43 : decode cX3_fillRow 43 = .ok (.iload 5, 2) := by decide +kernel
theorem dX3_fillRow_45 : decode cX3_fillRow 45 = .ok (.iload_n 2, 1) := by decide +kernel
theorem dX3_fillRow_46 : decode cX3_fillRow 46 = .ok (.if_icmp .ne 13, 3) := by decide +kernel
theorem dX3_fillRow_49 : decode cX3_fillRow 49 = .ok (.aload_n 3, 1) := by decide +kernel
theorem dX3_fillRow_50 : decode cX3_fillRow 50 = .ok (.iload 4, 2) := by decide +kernel
theorem dX3_fillRow_52 : decode cX3_fillRow 52 = .ok (.aload_n 0, 1) := by decide +kernel
theorem dX3_fillRow_53 : decode cX3_fillRow 53 = .ok (.iload_n 2, 1) := by decide +kernel
theorem dX3_fillRow_54 : decode cX3_fillRow 54 = .ok (.invokevirtual 49, 3) := by decide +kernel
theorem dX3_fillRow_57 : decode cX3_fillRow 57 = .ok (.i2l, 1) := by decide +kernel
theorem dX3_fillRow_58 : decode cX3_fillRow 58 = .ok (.lastore, 1) := by decide +kernel
theorem dX3_fillRow_59 : decode cX3_fillRow 59 = .ok (.iinc 4 1, 3) := by decide +kernel
theorem dX3_fillRow_62 : decode cX3_fillRow 62 = .ok (.iinc 5 1, 3) := by decide +kernel
theorem dX3_fillRow_65 : decode cX3_fillRow 65 = .ok (.goto (-59), 3) := by decide +kernel
theorem dX3_fillRow_68 : decode cX3_fillRow 68 = .ok (.return_, 1) := by decide +kernel
theorem dX3_determinant_0 : decode cX3_determinant 0 = .ok (.lconst 1, 1) := by decide +kernel
theorem dX3_determinant_1 : decode cX3_determinant 1 = .ok (.lstore_n 2, 1) := by decide +kernel
theorem dX3_determinant_2 : decode cX3_determinant 2 = .ok (.iconst 0, 1) := by decide +kernel
theorem dX3_determinant_3 : decode cX3_determinant 3 = .ok (.istore 4, 2) := by decide +kernel
theorem dX3_determinant_5 : decode cX3_determinant 5 = .ok (.iload 4, 2) := by decide +kernel
theorem dX3_determinant_7 : decode cX3_determinant 7 = .ok (.iload_n 1, 1) := by decide +kernel
theorem dX3_determinant_8 : decode cX3_determinant 8 = .ok (.if_icmp .ge 120, 3) := by decide +kernel
theorem dX3_determinant_11 : decode cX3_determinant 11 = .ok (.aload_n 0, 1) := by decide +kernel
theorem dX3_determinant_12 : decode cX3_determinant 12 = .ok (.getfield 11, 3) := by decide +kernel
theorem dX3_determinant_15 : decode cX3_determinant 15 = .ok (.iload 4, 2) := by decide +kernel
theorem dX3_determinant_17 : decode cX3_determinant 17 = .ok (.aaload, 1) := by decide +kernel
theorem dX3_determinant_18 : decode cX3_determinant 18 = .ok (.iload 4, 2) := by decide +kernel
theorem dX3_determinant_20 : decode cX3_determinant 20 = .ok (.laload, 1) := by decide +kernel
theorem dX3_determinant_21 : decode cX3_determinant 21 = .ok (.lstore 5, 2) := by decide +kernel
theorem dX3_determinant_23 : decode cX3_determinant 23 = .ok (.lload 5, 2) := by decide +kernel
theorem dX3_determinant_25 : decode cX3_determinant 25 = .ok (.lconst 0, 1) := by decide +kernel
theorem dX3_determinant_26 : decode cX3_determinant 26 = .ok (.lcmp, 1) := by decide +kernel
theorem dX3_determinant_27 : decode cX3_determinant 27 = .ok (.ifCond .ne 5, 3) := by decide +kernel
theorem dX3_determinant_30 : decode cX3_determinant 30 = .ok (.lconst 0, 1) := by decide +kernel
theorem dX3_determinant_31 : decode cX3_determinant 31 = .ok (.lreturn, 1) := by decide +kernel
theorem dX3_determinant_32 : decode cX3_determinant 32 = .ok (.iload 4, 2) := by decide +kernel
theorem dX3_determinant_34 : decode cX3_determinant 34 = .ok (.iconst 1, 1) := by decide +kernel
theorem dX3_determinant_35 : decode cX3_determinant 35 = .ok (.iadd, 1) := by decide +kernel
theorem dX3_determinant_36 : decode cX3_determinant 36 = .ok (.istore 7, 2) := by decide +kernel
theorem dX3_determinant_38 : decode cX3_determinant 38 = .ok (.iload 7, 2) := by decide +kernel
theorem dX3_determinant_40 : decode cX3_determinant 40 = .ok (.iload_n 1, 1) := by decide +kernel
theorem dX3_determinant_41 : decode cX3_determinant 41 = .ok (.if_icmp .ge 78, 3) := by decide +kernel
theorem dX3_determinant_44 : decode cX3_determinant 44 = .ok (.iload 4, 2) := by decide +kernel
theorem dX3_determinant_46 : decode cX3_determinant 46 = .ok (.iconst 1, 1) := by decide +kernel
theorem dX3_determinant_47 : decode cX3_determinant 47 = .ok (.iadd, 1) := by decide +kernel
theorem dX3_determinant_48 : decode cX3_determinant 48 = .ok (.istore 8, 2) := by decide +kernel
theorem dX3_determinant_50 : decode cX3_determinant 50 = .ok (.iload 8, 2) := by decide +kernel
theorem dX3_determinant_52 : decode cX3_determinant 52 = .ok (.iload_n 1, 1) := by decide +kernel
theorem dX3_determinant_53 : decode cX3_determinant 53 = .ok (.if_icmp .ge 60, 3) := by decide +kernel
theorem dX3_determinant_56 : decode cX3_determinant 56 = .ok (.aload_n 0, 1) := by decide +kernel
theorem dX3_determinant_57 : decode cX3_determinant 57 = .ok (.getfield 11, 3) := by decide +kernel
theorem dX3_determinant_60 : decode cX3_determinant 60 = .ok (.iload 7, 2) := by decide +kernel
theorem dX3_determinant_62 : decode cX3_determinant 62 = .ok (.aaload, 1) := by decide +kernel
theorem dX3_determinant_63 : decode cX3_determinant 63 = .ok (.iload 4, 2) := by decide +kernel
theorem dX3_determinant_65 : decode cX3_determinant 65 = .ok (.laload, 1) := by decide +kernel
theorem dX3_determinant_66 : decode cX3_determinant 66 = .ok (.aload_n 0, 1) := by decide +kernel
theorem dX3_determinant_67 : decode cX3_determinant 67 = .ok (.getfield 11, 3) := by decide +kernel
theorem dX3_determinant_70 : decode cX3_determinant 70 = .ok (.iload 4, 2) := by decide +kernel
theorem dX3_determinant_72 : decode cX3_determinant 72 = .ok (.aaload, 1) := by decide +kernel
theorem dX3_determinant_73 : decode cX3_determinant 73 = .ok (.iload 8, 2) := by decide +kernel
theorem dX3_determinant_75 : decode cX3_determinant 75 = .ok (.laload, 1) := by decide +kernel
theorem dX3_determinant_76 : decode cX3_determinant 76 = .ok (.lmul, 1) := by decide +kernel
theorem dX3_determinant_77 : decode cX3_determinant 77 = .ok (.lstore 9, 2) := by decide +kernel
theorem dX3_determinant_79 : decode cX3_determinant 79 = .ok (.aload_n 0, 1) := by decide +kernel
theorem dX3_determinant_80 : decode cX3_determinant 80 = .ok (.getfield 11, 3) := by decide +kernel
theorem dX3_determinant_83 : decode cX3_determinant 83 = .ok (.iload 7, 2) := by decide +kernel
theorem dX3_determinant_85 : decode cX3_determinant 85 = .ok (.aaload, 1) := by decide +kernel
theorem dX3_determinant_86 : decode cX3_determinant 86 = .ok (.iload 8, 2) := by decide +kernel
theorem dX3_determinant_88 : decode cX3_determinant 88 = .ok (.aload_n 0, 1) := by decide +kernel
theorem dX3_determinant_89 : decode cX3_determinant 89 = .ok (.getfield 11, 3) := by decide +kernel
theorem dX3_determinant_92 : decode cX3_determinant 92 = .ok (.iload 7, 2) := by decide +kernel
theorem dX3_determinant_94 : decode cX3_determinant 94 = .ok (.aaload, 1) := by decide +kernel
theorem dX3_determinant_95 : decode cX3_determinant 95 = .ok (.iload 8, 2) := by decide +kernel
theorem dX3_determinant_97 : decode cX3_determinant 97 = .ok (.laload, 1) := by decide +kernel
theorem dX3_determinant_98 : decode cX3_determinant 98 = .ok (.lload 5, 2) := by decide +kernel
theorem dX3_determinant_100 : decode cX3_determinant 100 = .ok (.lmul, 1) := by decide +kernel
theorem dX3_determinant_101 : decode cX3_determinant 101 = .ok (.lload 9, 2) := by decide +kernel
theorem dX3_determinant_103 : decode cX3_determinant 103 = .ok (.lsub, 1) := by decide +kernel
theorem dX3_determinant_104 : decode cX3_determinant 104 = .ok (.lload_n 2, 1) := by decide +kernel
theorem dX3_determinant_105 : decode cX3_determinant 105 = .ok (.ldiv, 1) := by decide +kernel
theorem dX3_determinant_106 : decode cX3_determinant 106 = .ok (.lastore, 1) := by decide +kernel
theorem dX3_determinant_107 : decode cX3_determinant 107 = .ok (.iinc 8 1, 3) := by decide +kernel
theorem dX3_determinant_110 : decode cX3_determinant 110 = .ok (.goto (-60), 3) := by decide +kernel
theorem dX3_determinant_113 : decode cX3_determinant 113 = .ok (.iinc 7 1, 3) := by decide +kernel
theorem dX3_determinant_116 : decode cX3_determinant 116 = .ok (.goto (-78), 3) := by decide +kernel
theorem dX3_determinant_119 : decode cX3_determinant 119 = .ok (.lload 5, 2) := by decide +kernel
theorem dX3_determinant_121 : decode cX3_determinant 121 = .ok (.lstore_n 2, 1) := by decide +kernel
theorem dX3_determinant_122 : decode cX3_determinant 122 = .ok (.iinc 4 1, 3) := by decide +kernel
theorem dX3_determinant_125 : decode cX3_determinant 125 = .ok (.goto (-120), 3) := by decide +kernel
theorem dX3_determinant_128 : decode cX3_determinant 128 = .ok (.lload_n 2, 1) := by decide +kernel
theorem dX3_determinant_129 : decode cX3_determinant 129 = .ok (.lreturn, 1) := by decide +kernel
set_option maxRecDepth 20000 in
theorem ggX4_init_X1_init : GoodIn wsX4_init wsX1_init := goodIn_r _ [38, 39, 2, 3, 4, 40, 79] (by decide +kernel) (by decide +kernel)
set_option maxRecDepth 20000 in
theorem gX4_init_X1_init_n42 : GoodIn wsX4_init (wsX1_init) := ggX4_init_X1_init
set_option maxRecDepth 20000 in
theorem ggX4_init_X2_init : GoodIn wsX4_init wsX2_init := goodIn_r _ [42, 43, 2, 3, 4, 44, 45, 46, 80, 81, 82] (by decide +kernel) (by decide +kernel)
set_option maxRecDepth 20000 in
theorem gX4_init_X2_init_n65 : GoodIn wsX4_init (wsX2_init) := ggX4_init_X2_init
set_option maxRecDepth 20000 in
theorem ggX4_init_X0_init : GoodIn wsX4_init wsX0_init := goodIn_r _ [48, 49, 2, 3, 4, 50, 83] (by decide +kernel) (by decide +kernel)
set_option maxRecDepth 20000 in
theorem gX4_init_X0_init_n72 : GoodIn wsX4_init (wsX0_init) := ggX4_init_X0_init
set_option maxRecDepth 20000 in
theorem ggX4_init_X3_init : GoodIn wsX4_init wsX3_init := goodIn_r _ [52, 53, 2, 3, 54, 55, 56, 84] (by decide +kernel) (by decide +kernel)
set_option maxRecDepth 20000 in
theorem gX4_init_X3_init_n79 : GoodIn wsX4_init (wsX3_init) := ggX4_init_X3_init
set_option maxRecDepth 20000 in
theorem ggX4_init_J7_fill_53178 : GoodIn wsX4_init wsJ7_fill_53178 := goodIn_r _ [60] (by decide +kernel) (by decide +kernel)
set_option maxRecDepth 20000 in
theorem gX4_init_J7_fill_53178 : GoodIn wsX4_init (va_wsS RX4 84 yJ7_fill_53178 wsJ7_fill_53178) := goodIn_app (goodIn_of _ (by decide +kernel)) ggX4_init_J7_fill_53178
theorem dX4_init_0 : decode cX4_init 0 = .ok (.aload_n 0, 1) := by decide +kernel
theorem dX4_init_1 : decode cX4_init 1 = .ok (.invokespecial 1, 3) := by decide +kernel
theorem dX4_init_4 : decode cX4_init 4 = .ok (.aload_n 0, 1) := by decide +kernel
theorem dX4_init_5 : decode cX4_init 5 = .ok (.bipush 8, 2) := by decide +kernel
theorem dX4_init_7 : decode cX4_init 7 = .ok (.newarray .int, 2) := by decide +kernel
theorem dX4_init_9 : decode cX4_init 9 = .ok (.putfield 9, 3) := by decide +kernel
theorem dX4_init_12 : decode cX4_init 12 = .ok (.aload_n 0, 1) := by decide +kernel
theorem dX4_init_13 : decode cX4_init 13 = .ok (.bipush 8, 2) := by decide +kernel
theorem dX4_init_15 : decode cX4_init 15 = .ok (.newarray .int, 2) := by decide +kernel
theorem dX4_init_17 : decode cX4_init 17 = .ok (.putfield 13, 3) := by decide +kernel
theorem dX4_init_20 : decode cX4_init 20 = .ok (.aload_n 0, 1) := by decide +kernel
theorem dX4_init_21 : decode cX4_init 21 = .ok (.bipush 8, 2) := by decide +kernel
theorem dX4_init_23 : decode cX4_init 23 = .ok (.newarray .boolean, 2) := by decide +kernel
theorem dX4_init_25 : decode cX4_init 25 = .ok (.putfield 16, 3) := by decide +kernel
theorem dX4_init_28 : decode cX4_init 28 = .ok (.aload_n 0, 1) := by decide +kernel
theorem dX4_init_29 : decode cX4_init 29 = .ok (.bipush 8, 2) := by decide +kernel
theorem dX4_init_31 : decode cX4_init 31 = .ok (.newarray .int, 2) := by decide +kernel
theorem dX4_init_33 : decode cX4_init 33 = .ok (.putfield 20, 3) := by decide +kernel
theorem dX4_init_36 : decode cX4_init 36 = .ok (.aload_n 0, 1) := by decide +kernel
theorem dX4_init_37 : decode cX4_init 37 = .ok (.bipush 8, 2) := by decide +kernel
theorem dX4_init_39 : decode cX4_init 39 = .ok (.newarray .int, 2) := by decide +kernel
theorem dX4_init_41 : decode cX4_init 41 = .ok (.putfield 23, 3) := by decide +kernel
theorem dX4_init_44 : decode cX4_init 44 = .ok (.aload_n 0, 1) := by decide +kernel
theorem dX4_init_45 : decode cX4_init 45 = .ok (.bipush 8, 2) := by decide +kernel
theorem dX4_init_47 : decode cX4_init 47 = .ok (.newarray .int, 2) := by decide +kernel
theorem dX4_init_49 : decode cX4_init 49 = .ok (.putfield 26, 3) := by decide +kernel
theorem dX4_init_52 : decode cX4_init 52 = .ok (.aload_n 0, 1) := by decide +kernel
theorem dX4_init_53 : decode cX4_init 53 = .ok (.bipush 8, 2) := by decide +kernel
theorem dX4_init_55 : decode cX4_init 55 = .ok (.newarray .int, 2) := by decide +kernel
theorem dX4_init_57 : decode cX4_init 57 = .ok (.putfield 29, 3) := by decide +kernel
theorem dX4_init_60 : decode cX4_init 60 = .ok (.aload_n 0, 1) := by decide +kernel
theorem dX4_init_61 : decode cX4_init 61 = .ok (.bipush 8, 2) := by decide +kernel
theorem dX4_init_63 : decode cX4_init 63 = .ok (.newarray .int, 2) := by decide +kernel
theorem dX4_init_65 : decode cX4_init 65 = .ok (.putfield 32, 3) := by decide +kernel
theorem dX4_init_68 : decode cX4_init 68 = .ok (.aload_n 0, 1) := by decide +kernel
theorem dX4_init_69 : decode cX4_init 69 = .ok (.bipush 8, 2) := by decide +kernel
theorem dX4_init_71 : decode cX4_init 71 = .ok (.bipush 8, 2) := by decide +kernel
theorem dX4_init_73 : decode cX4_init 73 = .ok (.multianewarray 35 2, 4) := by decide +kernel
theorem dX4_init_77 : decode cX4_init 77 = .ok (.putfield 37, 3) := by decide +kernel
theorem dX4_init_80 : decode cX4_init 80 = .ok (.aload_n 0, 1) := by decide +kernel
theorem dX4_init_81 : decode cX4_init 81 = .ok (.new 40, 3) := by decide +kernel
theorem dX4_init_84 : decode cX4_init 84 = .ok (.dup, 1) := by decide +kernel
theorem dX4_init_85 : decode cX4_init 85 = .ok (.invokespecial 42, 3) := by decide +kernel
theorem dX4_init_88 : decode cX4_init 88 = .ok (.putfield 43, 3) := by decide +kernel
theorem dX4_init_91 : decode cX4_init 91 = .ok (.aload_n 0, 1) := by decide +kernel
theorem dX4_init_92 : decode cX4_init 92 = .ok (.iconst 0, 1) := by decide +kernel
theorem dX4_init_93 : decode cX4_init 93 = .ok (.putfield 47, 3) := by decide +kernel
theorem dX4_init_96 : decode cX4_init 96 = .ok (.aload_n 0, 1) := by decide +kernel
theorem dX4_init_97 : decode cX4_init 97 = .ok (.bipush 100, 2) := by decide +kernel
theorem dX4_init_99 : decode cX4_init 99 = .ok (.putfield 51, 3) := by decide +kernel
theorem dX4_init_102 : decode cX4_init 102 = .ok (.aload_n 0, 1) := by decide +kernel
theorem dX4_init_103 : decode cX4_init 103 = .ok (.new 40, 3) := by decide +kernel
theorem dX4_init_106 : decode cX4_init 106 = .ok (.dup, 1) := by decide +kernel
theorem dX4_init_107 : decode cX4_init 107 = .ok (.invokespecial 42, 3) := by decide +kernel
theorem dX4_init_110 : decode cX4_init 110 = .ok (.putfield 54, 3) := by decide +kernel
theorem dX4_init_113 : decode cX4_init 113 = .ok (.aload_n 0, 1) := by decide +kernel
theorem dX4_init_114 : decode cX4_init 114 = .ok (.bipush 8, 2) := by decide +kernel
theorem dX4_init_116 : decode cX4_init 116 = .ok (.newarray .int, 2) := by decide +kernel
theorem dX4_init_118 : decode cX4_init 118 = .ok (.putfield 57, 3) := by decide +kernel
theorem dX4_init_121 : decode cX4_init 121 = .ok (.aload_n 0, 1) := by decide +kernel
theorem dX4_init_122 : decode cX4_init 122 = .ok (.bipush 8, 2) := by decide +kernel
theorem dX4_init_124 : decode cX4_init 124 = .ok (.newarray .int, 2) := by decide +kernel
theorem dX4_init_126 : decode cX4_init 126 = .ok (.putfield 60, 3) := by decide +kernel
theorem dX4_init_129 : decode cX4_init 129 = .ok (.aload_n 0, 1) := by decide +kernel
theorem dX4_init_130 : decode cX4_init 130 = .ok (.new 63, 3) := by decide +kernel
theorem dX4_init_133 : decode cX4_init 133 = .ok (.dup, 1) := by decide +kernel
theorem dX4_init_134 : decode cX4_init 134 = .ok (.invokespecial 65, 3) := by decide +kernel
theorem dX4_init_137 : decode cX4_init 137 = .ok (.putfield 66, 3) := by decide +kernel
theorem dX4_init_140 : decode cX4_init 140 = .ok (.aload_n 0, 1) := by decide +kernel
theorem dX4_init_141 : decode cX4_init 141 = .ok (.new 70, 3) := by decide +kernel
theorem dX4_init_144 : decode cX4_init 144 = .ok (.dup, 1) := by decide +kernel
theorem dX4_init_145 : decode cX4_init 145 = .ok (.invokespecial 72, 3) := by decide +kernel
theorem dX4_init_148 : decode cX4_init 148 = .ok (.putfield 73, 3) := by decide +kernel
theorem dX4_init_151 : decode cX4_init 151 = .ok (.aload_n 0, 1) := by decide +kernel
theorem dX4_init_152 : decode cX4_init 152 = .ok (.new 77, 3) := by decide +kernel
theorem dX4_init_155 : decode cX4_init 155 = .ok (.dup, 1) := by decide +kernel
theorem dX4_init_156 : decode cX4_init 156 = .ok (.invokespecial 79, 3) := by decide +kernel
theorem dX4_init_159 : decode cX4_init 159 = .ok (.putfield 80, 3) := by decide +kernel
theorem dX4_init_162 : decode cX4_init 162 = .ok (.iconst 0, 1) := by decide +kernel
theorem dX4_init_163 : decode cX4_init 163 = .ok (.istore_n 1, 1) := by decide +kernel
theorem dX4_init_164 : decode cX4_init 164 = .ok (.iload_n 1, 1) := by decide +kernel
theorem dX4_init_165 : decode cX4_init 165 = .ok (.bipush 8, 2) := by decide +kernel
theorem dX4_init_167 : decode cX4_init 167 = .ok (.if_icmp .ge 19, 3) := by decide +kernel
theorem dX4_init_170 : decode cX4_init 170 = .ok (.aload_n 0, 1) := by decide +kernel
theorem dX4_init_171 : decode cX4_init 171 = .ok (.getfield 37, 3) := by decide +kernel
theorem dX4_init_174 : decode cX4_init 174 = .ok (.iload_n 1, 1) := by decide +kernel
theorem dX4_init_175 : decode cX4_init 175 = .ok (.aaload, 1) := by decide +kernel
theorem dX4_init_176 : decode cX4_init 176 = .ok (.iconst (-1), 1) := by decide +kernel
theorem dX4_init_177 : decode cX4_init 177 = .ok (.invokestatic 84, 3) := by decide +kernel
theorem dX4_init_180 : decode cX4_init 180 = .ok (.iinc 1 1, 3) := by decide +kernel
theorem dX4_init_183 : decode cX4_init 183 = .ok (.goto (-19), 3) := by decide +kernel
theorem dX4_init_186 : decode cX4_init 186 = .ok (.return_, 1) := by decide +kernel
set_option maxRecDepth 20000 in
theorem ggX4_addMember_X4_requirePlace : GoodIn wsX4_addMember wsX4_requirePlace := goodIn_ca (goodIn_r _ [12, 13, 14, 11, 15, 16, 17] (by decide +kernel) (by decide +kernel)) (goodIn_sub (fun _ h => List.mem_cons_of_mem _ (List.mem_append_right _ h)) (by decide +kernel))
set_option maxRecDepth 20000 in
theorem gX4_addMember_X4_requirePlace : GoodIn wsX4_addMember (va_wsS RX4 90 yX4_requirePlace wsX4_requirePlace) := goodIn_app (goodIn_of _ (by decide +kernel)) ggX4_addMember_X4_requirePlace
theorem dX4_addMember_0 : decode cX4_addMember 0 = .ok (.iload_n 1, 1) := by decide +kernel
theorem dX4_addMember_1 : decode cX4_addMember 1 = .ok (.iload_n 2, 1) := by decide +kernel
theorem dX4_addMember_2 : decode cX4_addMember 2 = .ok (.invokestatic 90, 3) := by decide +kernel
theorem dX4_addMember_5 : decode cX4_addMember 5 = .ok (.aload_n 0, 1) := by decide +kernel
theorem dX4_addMember_6 : decode cX4_addMember 6 = .ok (.getfield 47, 3) := by decide +kernel
theorem dX4_addMember_9 : decode cX4_addMember 9 = .ok (.bipush 8, 2) := by decide +kernel
theorem dX4_addMember_11 : decode cX4_addMember 11 = .ok (.if_icmp .lt 13, 3) := by decide +kernel
theorem dX4_addMember_14 : decode cX4_addMember 14 = .ok (.new 94, 3) := by decide +kernel
theorem dX4_addMember_17 : decode cX4_addMember 17 = .ok (.dup, 1) := by decide +kernel
theorem dX4_addMember_18 : decode cX4_addMember 18 = .ok (.ldc 96, 2) := by decide +kernel
theorem dX4_addMember_20 : decode cX4_addMember 20 = .ok (.invokespecial 98, 3) := by decide +kernel
theorem dX4_addMember_23 : decode cX4_addMember 23 = .ok (.athrow, 1) := by decide +kernel
theorem dX4_addMember_24 : decode cX4_addMember 24 = .ok (.aload_n 0, 1) := by decide +kernel
theorem dX4_addMember_25 : decode cX4_addMember 25 = .ok (.getfield 47, 3) := by decide +kernel
theorem dX4_addMember_28 : decode cX4_addMember 28 = .ok (.istore_n 3, 1) := by decide +kernel
theorem dX4_addMember_29 : decode cX4_addMember 29 = .ok (.aload_n 0, 1) := by decide +kernel
theorem dX4_addMember_30 : decode cX4_addMember 30 = .ok (.getfield 9, 3) := by decide +kernel
theorem dX4_addMember_33 : decode cX4_addMember 33 = .ok (.iload_n 3, 1) := by decide +kernel
theorem dX4_addMember_34 : decode cX4_addMember 34 = .ok (.iload_n 1, 1) := by decide +kernel
theorem dX4_addMember_35 : decode cX4_addMember 35 = .ok (.iastore, 1) := by decide +kernel
theorem dX4_addMember_36 : decode cX4_addMember 36 = .ok (.aload_n 0, 1) := by decide +kernel
theorem dX4_addMember_37 : decode cX4_addMember 37 = .ok (.getfield 13, 3) := by decide +kernel
theorem dX4_addMember_40 : decode cX4_addMember 40 = .ok (.iload_n 3, 1) := by decide +kernel
theorem dX4_addMember_41 : decode cX4_addMember 41 = .ok (.iload_n 2, 1) := by decide +kernel
theorem dX4_addMember_42 : decode cX4_addMember 42 = .ok (.iastore, 1) := by decide +kernel
theorem dX4_addMember_43 : decode cX4_addMember 43 = .ok (.aload_n 0, 1) := by decide +kernel
theorem dX4_addMember_44 : decode cX4_addMember 44 = .ok (.getfield 16, 3) := by decide +kernel
theorem dX4_addMember_47 : decode cX4_addMember 47 = .ok (.iload_n 3, 1) := by decide +kernel
theorem dX4_addMember_48 : decode cX4_addMember 48 = .ok (.iconst 1, 1) := by decide +kernel
theorem dX4_addMember_49 : decode cX4_addMember 49 = .ok (.bastore, 1) := by decide +kernel
theorem dX4_addMember_50 : decode cX4_addMember 50 = .ok (.aload_n 0, 1) := by decide +kernel
theorem dX4_addMember_51 : decode cX4_addMember 51 = .ok (.getfield 29, 3) := by decide +kernel
theorem dX4_addMember_54 : decode cX4_addMember 54 = .ok (.iload_n 3, 1) := by decide +kernel
theorem dX4_addMember_55 : decode cX4_addMember 55 = .ok (.sipush 1024, 3) := by decide +kernel
theorem dX4_addMember_58 : decode cX4_addMember 58 = .ok (.iastore, 1) := by decide +kernel
theorem dX4_addMember_59 : decode cX4_addMember 59 = .ok (.aload_n 0, 1) := by decide +kernel
theorem dX4_addMember_60 : decode cX4_addMember 60 = .ok (.getfield 32, 3) := by decide +kernel
theorem dX4_addMember_63 : decode cX4_addMember 63 = .ok (.iload_n 3, 1) := by decide +kernel
theorem dX4_addMember_64 : decode cX4_addMember 64 = .ok (.iconst (-1), 1) := by decide +kernel
theorem dX4_addMember_65 : decode cX4_addMember 65 = .ok (.iastore, 1) := by decide +kernel
theorem dX4_addMember_66 : decode cX4_addMember 66 = .ok (.aload_n 0, 1) := by decide +kernel
theorem dX4_addMember_67 : decode cX4_addMember 67 = .ok (.dup, 1) := by decide +kernel
theorem dX4_addMember_68 : decode cX4_addMember 68 = .ok (.getfield 47, 3) := by decide +kernel
theorem dX4_addMember_71 : decode cX4_addMember 71 = .ok (.iconst 1, 1) := by decide +kernel
theorem dX4_addMember_72 : decode cX4_addMember 72 = .ok (.iadd, 1) := by decide +kernel
theorem dX4_addMember_73 : decode cX4_addMember 73 = .ok (.putfield 47, 3) := by decide +kernel
theorem dX4_addMember_76 : decode cX4_addMember 76 = .ok (.iload_n 3, 1) := by decide +kernel
theorem dX4_addMember_77 : decode cX4_addMember 77 = .ok (.ireturn, 1) := by decide +kernel
set_option maxRecDepth 20000 in
theorem ggX4_move_X4_requireMember : GoodIn wsX4_move wsX4_requireMember := goodIn_ca (goodIn_r _ [7, 8, 9, 10, 19, 20, 21, 22, 23, 24, 25, 26, 27, 28, 29, 30, 31, 32, 33, 34, 35, 36] (by decide +kernel) (by decide +kernel)) (goodIn_sub (fun _ h => List.mem_cons_of_mem _ (List.mem_append_left _ (List.mem_append_right _ h))) (by decide +kernel))
set_option maxRecDepth 20000 in
theorem gX4_move_X4_requireMember : GoodIn wsX4_move (wsV RX4 101 RX4 yX4_requireMember wsX4_requireMember) := goodIn_app (goodIn_of _ (by decide +kernel)) ggX4_move_X4_requireMember
set_option maxRecDepth 20000 in
theorem ggX4_move_X4_requirePlace : GoodIn wsX4_move wsX4_requirePlace := goodIn_ca (goodIn_r _ [13, 14, 15, 6, 16, 17, 18] (by decide +kernel) (by decide +kernel)) (goodIn_sub (fun _ h => List.mem_cons_of_mem _ (List.mem_append_right _ h)) (by decide +kernel))
set_option maxRecDepth 20000 in
theorem gX4_move_X4_requirePlace : GoodIn wsX4_move (va_wsS RX4 90 yX4_requirePlace wsX4_requirePlace) := goodIn_app (goodIn_of _ (by decide +kernel)) ggX4_move_X4_requirePlace
theorem dX4_move_0 : decode cX4_move 0 = .ok (.aload_n 0, 1) := by decide +kernel
theorem dX4_move_1 : decode cX4_move 1 = .ok (.iload_n 1, 1) := by decide +kernel
theorem dX4_move_2 : decode cX4_move 2 = .ok (.invokevirtual 101, 3) := by decide +kernel
theorem dX4_move_5 : decode cX4_move 5 = .ok (.iload_n 2, 1) := by decide +kernel
theorem dX4_move_6 : decode cX4_move 6 = .ok (.iload_n 3, 1) := by decide +kernel
theorem dX4_move_7 : decode cX4_move 7 = .ok (.invokestatic 90, 3) := by decide +kernel
theorem dX4_move_10 : decode cX4_move 10 = .ok (.aload_n 0, 1) := by decide +kernel
theorem dX4_move_11 : decode cX4_move 11 = .ok (.getfield 9, 3) := by decide +kernel
theorem dX4_move_14 : decode cX4_move 14 = .ok (.iload_n 1, 1) := by decide +kernel
theorem dX4_move_15 : decode cX4_move 15 = .ok (.iload_n 2, 1) := by decide +kernel
theorem dX4_move_16 : decode cX4_move 16 = .ok (.iastore, 1) := by decide +kernel
theorem dX4_move_17 : decode cX4_move 17 = .ok (.aload_n 0, 1) := by decide +kernel
theorem dX4_move_18 : decode cX4_move 18 = .ok (.getfield 13, 3) := by decide +kernel
theorem dX4_move_21 : decode cX4_move 21 = .ok (.iload_n 1, 1) := by decide +kernel
theorem dX4_move_22 : decode cX4_move 22 = .ok (.iload_n 3, 1) := by decide +kernel
theorem dX4_move_23 : decode cX4_move 23 = .ok (.iastore, 1) := by decide +kernel
theorem dX4_move_24 : decode cX4_move 24 = .ok (.return_, 1) := by decide +kernel
set_option maxRecDepth 20000 in
theorem ggX4_toggle_X4_requireMember : GoodIn wsX4_toggle wsX4_requireMember := goodIn_ca (goodIn_r _ [6, 7, 8, 9, 10, 11, 12, 13, 14, 15, 16, 17, 18, 19, 20, 21, 22, 23, 24, 25, 26, 27] (by decide +kernel) (by decide +kernel)) (goodIn_sub (fun _ h => List.mem_cons_of_mem _ (List.mem_append_right _ h)) (by decide +kernel))
set_option maxRecDepth 20000 in
theorem gX4_toggle_X4_requireMember : GoodIn wsX4_toggle (wsV RX4 101 RX4 yX4_requireMember wsX4_requireMember) := goodIn_app (goodIn_of _ (by decide +kernel)) ggX4_toggle_X4_requireMember
theorem dX4_toggle_0 : decode cX4_toggle 0 = .ok (.aload_n 0, 1) := by decide +kernel
theorem dX4_toggle_1 : decode cX4_toggle 1 = .ok (.iload_n 1, 1) := by decide +kernel
theorem dX4_toggle_2 : decode cX4_toggle 2 = .ok (.invokevirtual 101, 3) := by decide +kernel
theorem dX4_toggle_5 : decode cX4_toggle 5 = .ok (.aload_n 0, 1) := by decide +kernel
theorem dX4_toggle_6 : decode cX4_toggle 6 = .ok (.getfield 16, 3) := by decide +kernel
theorem dX4_toggle_9 : decode cX4_toggle 9 = .ok (.iload_n 1, 1) := by decide +kernel
theorem dX4_toggle_10 : decode cX4_toggle 10 = .ok (.aload_n 0, 1) := by decide +kernel
theorem dX4_toggle_11 : decode cX4_toggle 11 = .ok (.getfield 16, 3) := by decide +kernel
theorem dX4_toggle_14 : decode cX4_toggle 14 = .ok (.iload_n 1, 1) := by decide +kernel
theorem dX4_toggle_15 : decode cX4_toggle 15 = .ok (.baload, 1) := by decide +kernel
theorem dX4_toggle_16 : decode cX4_toggle 16 = .ok (.ifCond .ne 7, 3) := by decide +kernel
theorem dX4_toggle_19 : decode cX4_toggle 19 = .ok (.iconst 1, 1) := by decide +kernel
theorem dX4_toggle_20 : decode cX4_toggle 20 = .ok (.goto 4, 3) := by decide +kernel
theorem dX4_toggle_23 : decode cX4_toggle 23 = .ok (.iconst 0, 1) := by decide +kernel
theorem dX4_toggle_24 : decode cX4_toggle 24 = .ok (.bastore, 1) := by decide +kernel
theorem dX4_toggle_25 : decode cX4_toggle 25 = .ok (.aload_n 0, 1) := by decide +kernel
theorem dX4_toggle_26 : decode cX4_toggle 26 = .ok (.getfield 16, 3) := by decide +kernel
theorem dX4_toggle_29 : decode cX4_toggle 29 = .ok (.iload_n 1, 1) := by decide +kernel
theorem dX4_toggle_30 : decode cX4_toggle 30 = .ok (.baload, 1) := by decide +kernel
theorem dX4_toggle_31 : decode cX4_toggle 31 = .ok (.ireturn, 1) := by decide +kernel
set_option maxRecDepth 20000 in
theorem ggX4_setPriority_X4_requireMember : GoodIn wsX4_setPriority wsX4_requireMember := goodIn_ca (goodIn_r _ [6, 7, 8, 9, 15, 16, 17, 18, 19, 20, 21, 22, 23, 24, 25, 26, 27, 28, 29, 30, 31, 32] (by decide +kernel) (by decide +kernel)) (goodIn_sub (fun _ h => List.mem_cons_of_mem _ (List.mem_append_left _ (List.mem_append_right _ h))) (by decide +kernel))
set_option maxRecDepth 20000 in
theorem gX4_setPriority_X4_requireMember : GoodIn wsX4_setPriority (wsV RX4 101 RX4 yX4_requireMember wsX4_requireMember) := goodIn_app (goodIn_of _ (by decide +kernel)) ggX4_setPriority_X4_requireMember
set_option maxRecDepth 20000 in
theorem ggX4_setPriority_X4_requireWithin : GoodIn wsX4_setPriority wsX4_requireWithin := goodIn_ca (goodIn_r _ [12, 13, 14] (by decide +kernel) (by decide +kernel)) (goodIn_sub (fun _ h => List.mem_cons_of_mem _ (List.mem_append_right _ h)) (by decide +kernel))
set_option maxRecDepth 20000 in
theorem gX4_setPriority_X4_requireWithin : GoodIn wsX4_setPriority (va_wsS RX4 105 yX4_requireWithin wsX4_requireWithin) := goodIn_app (goodIn_of _ (by decide +kernel)) ggX4_setPriority_X4_requireWithin
theorem dX4_setPriority_0 : decode cX4_setPriority 0 = .ok (.aload_n 0, 1) := by decide +kernel
theorem dX4_setPriority_1 : decode cX4_setPriority 1 = .ok (.iload_n 1, 1) := by decide +kernel
theorem dX4_setPriority_2 : decode cX4_setPriority 2 = .ok (.invokevirtual 101, 3) := by decide +kernel
theorem dX4_setPriority_5 : decode cX4_setPriority 5 = .ok (.iload_n 2, 1) := by decide +kernel
theorem dX4_setPriority_6 : decode cX4_setPriority 6 = .ok (.iconst 0, 1) := by decide +kernel
theorem dX4_setPriority_7 : decode cX4_setPriority 7 = .ok (.bipush 99, 2) := by decide +kernel
theorem dX4_setPriority_9 : decode cX4_setPriority 9 = .ok (.invokestatic 105, 3) := by decide +kernel
theorem dX4_setPriority_12 : decode cX4_setPriority 12 = .ok (.aload_n 0, 1) := by decide +kernel
theorem dX4_setPriority_13 : decode cX4_setPriority 13 = .ok (.getfield 20, 3) := by decide +kernel
theorem dX4_setPriority_16 : decode cX4_setPriority 16 = .ok (.iload_n 1, 1) := by decide +kernel
theorem dX4_setPriority_17 : decode cX4_setPriority 17 = .ok (.iaload, 1) := by decide +kernel
theorem dX4_setPriority_18 : decode cX4_setPriority 18 = .ok (.istore_n 3, 1) := by decide +kernel
theorem dX4_setPriority_19 : decode cX4_setPriority 19 = .ok (.aload_n 0, 1) := by decide +kernel
theorem dX4_setPriority_20 : decode cX4_setPriority 20 = .ok (.getfield 20, 3) := by decide +kernel
theorem dX4_setPriority_23 : decode cX4_setPriority 23 = .ok (.iload_n 1, 1) := by decide +kernel
theorem dX4_setPriority_24 : decode cX4_setPriority 24 = .ok (.iload_n 2, 1) := by decide +kernel
theorem dX4_setPriority_25 : decode cX4_setPriority 25 = .ok (.iastore, 1) := by decide +kernel
theorem dX4_setPriority_26 : decode cX4_setPriority 26 = .ok (.iload_n 3, 1) := by decide +kernel
theorem dX4_setPriority_27 : decode cX4_setPriority 27 = .ok (.ireturn, 1) := by decide +kernel
set_option maxRecDepth 20000 in
theorem ggX4_setRange_X4_requireWithin : GoodIn wsX4_setRange wsX4_requireWithin := goodIn_ca (goodIn_r _ [5, 6, 7] (by decide +kernel) (by decide +kernel)) (goodIn_sub (fun _ h => List.mem_cons_of_mem _ (List.mem_append_right _ h)) (by decide +kernel))
set_option maxRecDepth 20000 in
theorem gX4_setRange_X4_requireWithin : GoodIn wsX4_setRange (va_wsS RX4 105 yX4_requireWithin wsX4_requireWithin) := goodIn_app (goodIn_of _ (by decide +kernel)) ggX4_setRange_X4_requireWithin
theorem dX4_setRange_0 : decode cX4_setRange 0 = .ok (.iload_n 1, 1) := by decide +kernel
theorem dX4_setRange_1 : decode cX4_setRange 1 = .ok (.iconst 0, 1) := by decide +kernel
theorem dX4_setRange_2 : decode cX4_setRange 2 = .ok (.sipush 3000, 3) := by decide +kernel
theorem dX4_setRange_5 : decode cX4_setRange 5 = .ok (.invokestatic 105, 3) := by decide +kernel
theorem dX4_setRange_8 : decode cX4_setRange 8 = .ok (.aload_n 0, 1) := by decide +kernel
theorem dX4_setRange_9 : decode cX4_setRange 9 = .ok (.getfield 51, 3) := by decide +kernel
theorem dX4_setRange_12 : decode cX4_setRange 12 = .ok (.istore_n 2, 1) := by decide +kernel
theorem dX4_setRange_13 : decode cX4_setRange 13 = .ok (.aload_n 0, 1) := by decide +kernel
theorem dX4_setRange_14 : decode cX4_setRange 14 = .ok (.iload_n 1, 1) := by decide +kernel
theorem dX4_setRange_15 : decode cX4_setRange 15 = .ok (.putfield 51, 3) := by decide +kernel
theorem dX4_setRange_18 : decode cX4_setRange 18 = .ok (.iload_n 2, 1) := by decide +kernel
theorem dX4_setRange_19 : decode cX4_setRange 19 = .ok (.ireturn, 1) := by decide +kernel
set_option maxRecDepth 20000 in
theorem ggX4_block_X4_requireUnlike : GoodIn wsX4_block wsX4_requireUnlike := goodIn_ca (goodIn_ca (goodIn_r _ [6, 7, 8, 9, 10, 11, 5, 12, 13, 14, 15, 36, 37, 38, 39, 40, 41, 42, 43, 44, 45, 46, 47, 48, 49, 50, 51, 52, 53] (by decide +kernel) (by decide +kernel)) (goodIn_sub (fun _ h => List.mem_cons_of_mem _ (List.mem_append_left _ (List.mem_append_right _ h))) (by decide +kernel))) (goodIn_sub (fun _ h => List.mem_cons_of_mem _ (List.mem_append_right _ h)) (by decide +kernel))
set_option maxRecDepth 20000 in
theorem gX4_block_X4_requireUnlike : GoodIn wsX4_block (wsV RX4 109 RX4 yX4_requireUnlike wsX4_requireUnlike) := goodIn_app (goodIn_of _ (by decide +kernel)) ggX4_block_X4_requireUnlike
set_option maxRecDepth 20000 in
theorem ggX4_block_X1_joins : GoodIn wsX4_block wsX1_joins := goodIn_r _ [19, 20, 21, 22, 17, 23, 54] (by decide +kernel) (by decide +kernel)
set_option maxRecDepth 20000 in
theorem gX4_block_X1_joins_n112 : GoodIn wsX4_block (wsX1_joins) := ggX4_block_X1_joins
set_option maxRecDepth 20000 in
theorem ggX4_block_X1_cut : GoodIn wsX4_block wsX1_cut := goodIn_r _ [26, 20, 27, 28, 17, 29, 54] (by decide +kernel) (by decide +kernel)
set_option maxRecDepth 20000 in
theorem gX4_block_X1_cut_n116 : GoodIn wsX4_block (wsX1_cut) := ggX4_block_X1_cut
set_option maxRecDepth 20000 in
theorem ggX4_block_X1_join : GoodIn wsX4_block wsX1_join := goodIn_r _ [32, 20, 33, 34, 17, 35, 54] (by decide +kernel) (by decide +kernel)
set_option maxRecDepth 20000 in
theorem gX4_block_X1_join_n119 : GoodIn wsX4_block (wsX1_join) := ggX4_block_X1_join
theorem dX4_block_0 : decode cX4_block 0 = .ok (.aload_n 0, 1) := by decide +kernel
theorem dX4_block_1 : decode cX4_block 1 = .ok (.iload_n 1, 1) := by decide +kernel
theorem dX4_block_2 : decode cX4_block 2 = .ok (.iload_n 2, 1) := by decide +kernel
theorem dX4_block_3 : decode cX4_block 3 = .ok (.invokevirtual 109, 3) := by decide +kernel
theorem dX4_block_6 : decode cX4_block 6 = .ok (.aload_n 0, 1) := by decide +kernel
theorem dX4_block_7 : decode cX4_block 7 = .ok (.getfield 43, 3) := by decide +kernel
theorem dX4_block_10 : decode cX4_block 10 = .ok (.iload_n 1, 1) := by decide +kernel
theorem dX4_block_11 : decode cX4_block 11 = .ok (.iload_n 2, 1) := by decide +kernel
theorem dX4_block_12 : decode cX4_block 12 = .ok (.invokevirtual 112, 3) := by decide +kernel
theorem dX4_block_15 : decode cX4_block 15 = .ok (.ifCond .eq 14, 3) := by decide +kernel
theorem dX4_block_18 : decode cX4_block 18 = .ok (.aload_n 0, 1) := by decide +kernel
theorem dX4_block_19 : decode cX4_block 19 = .ok (.getfield 43, 3) := by decide +kernel
theorem dX4_block_22 : decode cX4_block 22 = .ok (.iload_n 1, 1) := by decide +kernel
theorem dX4_block_23 : decode cX4_block 23 = .ok (.iload_n 2, 1) := by decide +kernel
theorem dX4_block_24 : decode cX4_block 24 = .ok (.invokevirtual 116, 3) := by decide +kernel
theorem dX4_block_27 : decode cX4_block 27 = .ok (.iconst 0, 1) := by decide +kernel
theorem dX4_block_28 : decode cX4_block 28 = .ok (.ireturn, 1) := by decide +kernel
theorem dX4_block_29 : decode cX4_block 29 = .ok (.aload_n 0, 1) := by decide +kernel
theorem dX4_block_30 : decode cX4_block 30 = .ok (.getfield 43, 3) := by decide +kernel
theorem dX4_block_33 : decode cX4_block 33 = .ok (.iload_n 1, 1) := by decide +kernel
theorem dX4_block_34 : decode cX4_block 34 = .ok (.iload_n 2, 1) := by decide +kernel
theorem dX4_block_35 : decode cX4_block 35 = .ok (.invokevirtual 119, 3) := by decide +kernel
theorem dX4_block_38 : decode cX4_block 38 = .ok (.iconst 1, 1) := by decide +kernel
theorem dX4_block_39 : decode cX4_block 39 = .ok (.ireturn, 1) := by decide +kernel
theorem dX4_members_0 : decode cX4_members 0 = .ok (.aload_n 0, 1) := by decide +kernel
theorem dX4_members_1 : decode cX4_members 1 = .ok (.getfield 47, 3) := by decide +kernel
theorem dX4_members_4 : decode cX4_members 4 = .ok (.ireturn, 1) := by decide +kernel
set_option maxRecDepth 20000 in
theorem ggX4_xOf_X4_requireMember : GoodIn wsX4_xOf wsX4_requireMember := goodIn_ca (goodIn_r _ [6, 7, 8, 9, 10, 11, 12, 13, 14, 15, 16, 17, 18, 19, 20, 21, 22, 23, 24, 25, 26, 27] (by decide +kernel) (by decide +kernel)) (goodIn_sub (fun _ h => List.mem_cons_of_mem _ (List.mem_append_right _ h)) (by decide +kernel))
set_option maxRecDepth 20000 in
theorem gX4_xOf_X4_requireMember : GoodIn wsX4_xOf (wsV RX4 101 RX4 yX4_requireMember wsX4_requireMember) := goodIn_app (goodIn_of _ (by decide +kernel)) ggX4_xOf_X4_requireMember
theorem dX4_xOf_0 : decode cX4_xOf 0 = .ok (.aload_n 0, 1) := by decide +kernel
theorem dX4_xOf_1 : decode cX4_xOf 1 = .ok (.iload_n 1, 1) := by decide +kernel
theorem dX4_xOf_2 : decode cX4_xOf 2 = .ok (.invokevirtual 101, 3) := by decide +kernel
theorem dX4_xOf_5 : decode cX4_xOf 5 = .ok (.aload_n 0, 1) := by decide +kernel
theorem dX4_xOf_6 : decode cX4_xOf 6 = .ok (.getfield 9, 3) := by decide +kernel
theorem dX4_xOf_9 : decode cX4_xOf 9 = .ok (.iload_n 1, 1) := by decide +kernel
theorem dX4_xOf_10 : decode cX4_xOf 10 = .ok (.iaload, 1) := by decide +kernel
theorem dX4_xOf_11 : decode cX4_xOf 11 = .ok (.ireturn, 1) := by decide +kernel
set_option maxRecDepth 20000 in
theorem ggX4_yOf_X4_requireMember : GoodIn wsX4_yOf wsX4_requireMember := goodIn_ca (goodIn_r _ [6, 7, 8, 9, 10, 11, 12, 13, 14, 15, 16, 17, 18, 19, 20, 21, 22, 23, 24, 25, 26, 27] (by decide +kernel) (by decide +kernel)) (goodIn_sub (fun _ h => List.mem_cons_of_mem _ (List.mem_append_right _ h)) (by decide +kernel))
set_option maxRecDepth 20000 in
theorem gX4_yOf_X4_requireMember : GoodIn wsX4_yOf (wsV RX4 101 RX4 yX4_requireMember wsX4_requireMember) := goodIn_app (goodIn_of _ (by decide +kernel)) ggX4_yOf_X4_requireMember
theorem dX4_yOf_0 : decode cX4_yOf 0 = .ok (.aload_n 0, 1) := by decide +kernel
theorem dX4_yOf_1 : decode cX4_yOf 1 = .ok (.iload_n 1, 1) := by decide +kernel
theorem dX4_yOf_2 : decode cX4_yOf 2 = .ok (.invokevirtual 101, 3) := by decide +kernel
theorem dX4_yOf_5 : decode cX4_yOf 5 = .ok (.aload_n 0, 1) := by decide +kernel
theorem dX4_yOf_6 : decode cX4_yOf 6 = .ok (.getfield 13, 3) := by decide +kernel
theorem dX4_yOf_9 : decode cX4_yOf 9 = .ok (.iload_n 1, 1) := by decide +kernel
theorem dX4_yOf_10 : decode cX4_yOf 10 = .ok (.iaload, 1) := by decide +kernel
theorem dX4_yOf_11 : decode cX4_yOf 11 = .ok (.ireturn, 1) := by decide +kernel
set_option maxRecDepth 20000 in
theorem ggX4_areLinked_X4_requireMember : GoodIn wsX4_areLinked wsX4_requireMember := goodIn_ca (goodIn_r _ [5, 6, 7, 8, 30, 31, 32, 33, 34, 35, 36, 37, 38, 39, 40, 41, 42, 43, 44, 45, 46, 47] (by decide +kernel) (by decide +kernel)) (goodIn_sub (fun _ h => List.mem_cons_of_mem _ (List.mem_append_right _ h)) (by decide +kernel))
set_option maxRecDepth 20000 in
theorem gX4_areLinked_X4_requireMember : GoodIn wsX4_areLinked (wsV RX4 101 RX4 yX4_requireMember wsX4_requireMember) := goodIn_app (goodIn_of _ (by decide +kernel)) ggX4_areLinked_X4_requireMember
set_option maxRecDepth 20000 in
theorem ggX4_areLinked_X4_hears : GoodIn wsX4_areLinked wsX4_hears := goodIn_r _ [12, 13, 14, 15, 16, 17, 18, 19, 20, 21, 22, 23, 24, 25, 26, 4, 27, 28, 29, 30, 31, 32, 33, 34, 35, 36, 37, 38, 39, 40, 41, 42, 43, 44, 45, 46, 47, 48] (by decide +kernel) (by decide +kernel)
set_option maxRecDepth 20000 in
theorem gX4_areLinked_X4_hears : GoodIn wsX4_areLinked (wsV RX4 122 RX4 yX4_hears wsX4_hears) := goodIn_app (goodIn_of _ (by decide +kernel)) ggX4_areLinked_X4_hears
theorem dX4_areLinked_0 : decode cX4_areLinked 0 = .ok (.aload_n 0, 1) := by decide +kernel
theorem dX4_areLinked_1 : decode cX4_areLinked 1 = .ok (.iload_n 1, 1) := by decide +kernel
theorem dX4_areLinked_2 : decode cX4_areLinked 2 = .ok (.invokevirtual 101, 3) := by decide +kernel
theorem dX4_areLinked_5 : decode cX4_areLinked 5 = .ok (.aload_n 0, 1) := by decide +kernel
theorem dX4_areLinked_6 : decode cX4_areLinked 6 = .ok (.iload_n 2, 1) := by decide +kernel
theorem dX4_areLinked_7 : decode cX4_areLinked 7 = .ok (.invokevirtual 101, 3) := by decide +kernel
theorem dX4_areLinked_10 : decode cX4_areLinked 10 = .ok (.aload_n 0, 1) := by decide +kernel
theorem dX4_areLinked_11 : decode cX4_areLinked 11 = .ok (.iload_n 1, 1) := by decide +kernel
theorem dX4_areLinked_12 : decode cX4_areLinked 12 = .ok (.iload_n 2, 1) := by decide +kernel
theorem dX4_areLinked_13 : decode cX4_areLinked 13 = .ok (.invokevirtual 122, 3) := by decide +kernel
theorem dX4_areLinked_16 : decode cX4_areLinked 16 = .ok (.ireturn, 1) := by decide +kernel
set_option maxRecDepth 20000 in
theorem ggX4_links_X4_drawNet : GoodIn wsX4_links wsX4_drawNet := goodIn_r _ [6, 1, 7, 8, 9, 10, 11, 12, 13, 14, 15, 16, 17, 18, 19, 5, 20, 21, 22, 23, 24, 25, 26, 27, 28, 29, 30, 31, 32, 33, 34, 35, 36, 37, 38, 39, 40, 41, 56, 57, 58, 59, 60, 61, 62, 63, 64, 65, 66, 67, 68, 69, 70, 71, 72, 73, 74] (by decide +kernel) (by decide +kernel)
set_option maxRecDepth 20000 in
theorem gX4_links_X4_drawNet : GoodIn wsX4_links (wsV RX4 125 RX4 yX4_drawNet wsX4_drawNet) := goodIn_app (goodIn_of _ (by decide +kernel)) ggX4_links_X4_drawNet
set_option maxRecDepth 20000 in
theorem ggX4_links_X1_pairCount : GoodIn wsX4_links wsX1_pairCount := goodIn_r _ [44, 45, 46, 47, 9, 48, 12, 49, 50, 51, 52, 53, 54, 55, 74] (by decide +kernel) (by decide +kernel)
set_option maxRecDepth 20000 in
theorem gX4_links_X1_pairCount_n128 : GoodIn wsX4_links (wsX1_pairCount) := ggX4_links_X1_pairCount
theorem dX4_links_0 : decode cX4_links 0 = .ok (.aload_n 0, 1) := by decide +kernel
theorem dX4_links_1 : decode cX4_links 1 = .ok (.invokevirtual 125, 3) := by decide +kernel
theorem dX4_links_4 : decode cX4_links 4 = .ok (.aload_n 0, 1) := by decide +kernel
theorem dX4_links_5 : decode cX4_links 5 = .ok (.getfield 54, 3) := by decide +kernel
theorem dX4_links_8 : decode cX4_links 8 = .ok (.invokevirtual 128, 3) := by decide +kernel
theorem dX4_links_11 : decode cX4_links 11 = .ok (.ireturn, 1) := by decide +kernel
set_option maxRecDepth 20000 in
theorem ggX4_degree_X4_requireMember : GoodIn wsX4_degree wsX4_requireMember := goodIn_ca (goodIn_r _ [6, 7, 8, 9, 58, 59, 60, 61, 62, 63, 64, 65, 66, 67, 68, 69, 70, 71, 72, 73, 74, 75] (by decide +kernel) (by decide +kernel)) (goodIn_sub (fun _ h => List.mem_cons_of_mem _ (List.mem_append_right _ h)) (by decide +kernel))
set_option maxRecDepth 20000 in
theorem gX4_degree_X4_requireMember : GoodIn wsX4_degree (wsV RX4 101 RX4 yX4_requireMember wsX4_requireMember) := goodIn_app (goodIn_of _ (by decide +kernel)) ggX4_degree_X4_requireMember
set_option maxRecDepth 20000 in
theorem ggX4_degree_X4_drawNet : GoodIn wsX4_degree wsX4_drawNet := goodIn_r _ [13, 1, 9, 14, 15, 16, 17, 18, 19, 20, 21, 22, 23, 24, 25, 5, 26, 27, 28, 29, 30, 31, 32, 33, 34, 35, 36, 37, 38, 39, 40, 41, 42, 43, 44, 45, 46, 47, 58, 59, 60, 61, 62, 63, 64, 65, 66, 67, 68, 69, 70, 71, 72, 73, 74, 75, 76] (by decide +kernel) (by decide +kernel)
set_option maxRecDepth 20000 in
theorem gX4_degree_X4_drawNet : GoodIn wsX4_degree (wsV RX4 125 RX4 yX4_drawNet wsX4_drawNet) := goodIn_app (goodIn_of _ (by decide +kernel)) ggX4_degree_X4_drawNet
set_option maxRecDepth 20000 in
theorem ggX4_degree_X1_degreeOf : GoodIn wsX4_degree wsX1_degreeOf := goodIn_r _ [50, 18, 51, 52, 53, 54, 55, 56, 57, 76] (by decide +kernel) (by decide +kernel)
set_option maxRecDepth 20000 in
theorem gX4_degree_X1_degreeOf_n132 : GoodIn wsX4_degree (wsX1_degreeOf) := ggX4_degree_X1_degreeOf
theorem dX4_degree_0 : decode cX4_degree 0 = .ok (.aload_n 0, 1) := by decide +kernel
theorem dX4_degree_1 : decode cX4_degree 1 = .ok (.iload_n 1, 1) := by decide +kernel
theorem dX4_degree_2 : decode cX4_degree 2 = .ok (.invokevirtual 101, 3) := by decide +kernel
theorem dX4_degree_5 : decode cX4_degree 5 = .ok (.aload_n 0, 1) := by decide +kernel
theorem dX4_degree_6 : decode cX4_degree 6 = .ok (.invokevirtual 125, 3) := by decide +kernel
theorem dX4_degree_9 : decode cX4_degree 9 = .ok (.aload_n 0, 1) := by decide +kernel
theorem dX4_degree_10 : decode cX4_degree 10 = .ok (.getfield 54, 3) := by decide +kernel
theorem dX4_degree_13 : decode cX4_degree 13 = .ok (.iload_n 1, 1) := by decide +kernel
theorem dX4_degree_14 : decode cX4_degree 14 = .ok (.invokevirtual 132, 3) := by decide +kernel
theorem dX4_degree_17 : decode cX4_degree 17 = .ok (.ireturn, 1) := by decide +kernel
set_option maxRecDepth 20000 in
theorem ggX4_groups_X4_drawNet : GoodIn wsX4_groups wsX4_drawNet := goodIn_r _ [5, 6, 7, 8, 9, 10, 11, 12, 13, 14, 15, 16, 17, 18, 19, 4, 20, 21, 22, 23, 24, 25, 26, 27, 28, 29, 30, 31, 32, 33, 34, 35, 36, 37, 38, 39, 40, 41, 49, 50, 51, 52, 53, 54, 55, 56, 57, 58, 59, 60, 61, 62, 63, 64, 65, 66, 67] (by decide +kernel) (by decide +kernel)
set_option maxRecDepth 20000 in
theorem gX4_groups_X4_drawNet : GoodIn wsX4_groups (wsV RX4 125 RX4 yX4_drawNet wsX4_drawNet) := goodIn_app (goodIn_of _ (by decide +kernel)) ggX4_groups_X4_drawNet
set_option maxRecDepth 20000 in
theorem ggX4_groups_X4_countGroups : GoodIn wsX4_groups wsX4_countGroups := goodIn_r _ [45, 7, 21, 6, 28, 9, 29, 46, 47, 48, 12, 39, 40, 41, 27, 49, 50, 51, 52, 53, 54, 55, 56, 57, 58, 59, 60, 61, 62, 63, 64, 65, 66, 67] (by decide +kernel) (by decide +kernel)
set_option maxRecDepth 20000 in
theorem gX4_groups_X4_countGroups : GoodIn wsX4_groups (wsV RX4 136 RX4 yX4_countGroups wsX4_countGroups) := goodIn_app (goodIn_of _ (by decide +kernel)) ggX4_groups_X4_countGroups
theorem dX4_groups_0 : decode cX4_groups 0 = .ok (.aload_n 0, 1) := by decide +kernel
theorem dX4_groups_1 : decode cX4_groups 1 = .ok (.invokevirtual 125, 3) := by decide +kernel
theorem dX4_groups_4 : decode cX4_groups 4 = .ok (.aload_n 0, 1) := by decide +kernel
theorem dX4_groups_5 : decode cX4_groups 5 = .ok (.invokevirtual 136, 3) := by decide +kernel
theorem dX4_groups_8 : decode cX4_groups 8 = .ok (.ireturn, 1) := by decide +kernel
set_option maxRecDepth 20000 in
theorem ggX4_leader_X4_requireMember : GoodIn wsX4_leader wsX4_requireMember := goodIn_ca (goodIn_r _ [8, 9, 10, 3, 56, 57, 58, 59, 60, 61, 62, 63, 64, 65, 66, 67, 68, 69, 70, 71, 72, 73] (by decide +kernel) (by decide +kernel)) (goodIn_sub (fun _ h => List.mem_cons_of_mem _ (List.mem_append_right _ h)) (by decide +kernel))
set_option maxRecDepth 20000 in
theorem gX4_leader_X4_requireMember : GoodIn wsX4_leader (wsV RX4 101 RX4 yX4_requireMember wsX4_requireMember) := goodIn_app (goodIn_of _ (by decide +kernel)) ggX4_leader_X4_requireMember
set_option maxRecDepth 20000 in
theorem ggX4_leader_X4_drawNet : GoodIn wsX4_leader wsX4_drawNet := goodIn_r _ [14, 2, 3, 15, 16, 17, 18, 19, 20, 21, 22, 23, 24, 25, 26, 7, 27, 1, 28, 29, 30, 31, 32, 33, 34, 35, 36, 37, 38, 39, 40, 41, 42, 43, 44, 45, 46, 47, 56, 57, 58, 59, 60, 61, 62, 63, 64, 65, 66, 67, 68, 69, 70, 71, 72, 73, 74] (by decide +kernel) (by decide +kernel)
set_option maxRecDepth 20000 in
theorem gX4_leader_X4_drawNet : GoodIn wsX4_leader (wsV RX4 125 RX4 yX4_drawNet wsX4_drawNet) := goodIn_app (goodIn_of _ (by decide +kernel)) ggX4_leader_X4_drawNet
set_option maxRecDepth 20000 in
theorem ggX4_leader_X1_groupOf : GoodIn wsX4_leader wsX1_groupOf := goodIn_r _ [50, 19, 45, 46, 16, 47, 33, 34, 35, 74] (by decide +kernel) (by decide +kernel)
set_option maxRecDepth 20000 in
theorem gX4_leader_X1_groupOf_n139 : GoodIn wsX4_leader (wsX1_groupOf) := ggX4_leader_X1_groupOf
set_option maxRecDepth 20000 in
theorem ggX4_leader_X1_holds : GoodIn wsX4_leader wsX1_holds := goodIn_r _ [35] (by decide +kernel) (by decide +kernel)
set_option maxRecDepth 20000 in
theorem gX4_leader_X1_holds_n142 : GoodIn wsX4_leader (wsX1_holds) := ggX4_leader_X1_holds
set_option maxRecDepth 20000 in
theorem ggX4_leader_X4_outranks : GoodIn wsX4_leader wsX4_outranks := goodIn_r _ [54, 55, 56, 57, 58, 59, 60, 61, 62, 63, 64, 65, 66, 67, 68, 69, 70, 71, 72, 73] (by decide +kernel) (by decide +kernel)
set_option maxRecDepth 20000 in
theorem gX4_leader_X4_outranks : GoodIn wsX4_leader (wsV RX4 145 RX4 yX4_outranks wsX4_outranks) := goodIn_app (goodIn_of _ (by decide +kernel)) ggX4_leader_X4_outranks
theorem dX4_leader_0 : decode cX4_leader 0 = .ok (.aload_n 0, 1) := by decide +kernel
theorem dX4_leader_1 : decode cX4_leader 1 = .ok (.iload_n 1, 1) := by decide +kernel
theorem dX4_leader_2 : decode cX4_leader 2 = .ok (.invokevirtual 101, 3) := by decide +kernel
theorem dX4_leader_5 : decode cX4_leader 5 = .ok (.aload_n 0, 1) := by decide +kernel
theorem dX4_leader_6 : decode cX4_leader 6 = .ok (.getfield 16, 3) := by decide +kernel
theorem dX4_leader_9 : decode cX4_leader 9 = .ok (.iload_n 1, 1) := by decide +kernel
theorem dX4_leader_10 : decode cX4_leader 10 = .ok (.baload, 1) := by decide +kernel
theorem dX4_leader_11 : decode cX4_leader 11 = .ok (.ifCond .ne 5, 3) := by decide +kernel
theorem dX4_leader_14 : decode cX4_leader 14 = .ok (.iconst (-1), 1) := by decide +kernel
theorem dX4_leader_15 : decode cX4_leader 15 = .ok (.ireturn, 1) := by decide +kernel
theorem dX4_leader_16 : decode cX4_leader 16 = .ok (.aload_n 0, 1) := by decide +kernel
theorem dX4_leader_17 : decode cX4_leader 17 = .ok (.invokevirtual 125, 3) := by decide +kernel
theorem dX4_leader_20 : decode cX4_leader 20 = .ok (.aload_n 0, 1) := by decide +kernel
theorem dX4_leader_21 : decode cX4_leader 21 = .ok (.getfield 54, 3) := by decide +kernel
theorem dX4_leader_24 : decode cX4_leader 24 = .ok (.iload_n 1, 1) := by decide +kernel
theorem dX4_leader_25 : decode cX4_leader 25 = .ok (.invokevirtual 139, 3) := by decide +kernel
theorem dX4_leader_28 : decode cX4_leader 28 = .ok (.istore_n 2, 1) := by decide +kernel
theorem dX4_leader_29 : decode cX4_leader 29 = .ok (.iload_n 1, 1) := by decide +kernel
theorem dX4_leader_30 : decode cX4_leader 30 = .ok (.istore_n 3, 1) := by decide +kernel
theorem dX4_leader_31 : decode cX4_leader 31 = .ok (.iconst 0, 1) := by decide +kernel
theorem dX4_leader_32 : decode cX4_leader 32 = .ok (.istore 4, 2) := by decide +kernel
theorem dX4_leader_34 : decode cX4_leader 34 = .ok (.iload 4, 2) := by decide +kernel
theorem dX4_leader_36 : decode cX4_leader 36 = .ok (.aload_n 0, 1) := by decide +kernel
theorem dX4_leader_37 : decode cX4_leader 37 = .ok (.getfield 47, 3) := by decide +kernel
theorem dX4_leader_40 : decode cX4_leader 40 = .ok (.if_icmp .ge 31, 3) := by decide +kernel
theorem dX4_leader_43 : decode cX4_leader 43 = .ok (.iload_n 2, 1) := by decide +kernel
theorem dX4_leader_44 : decode cX4_leader 44 = .ok (.iload 4, 2) := by decide +kernel
theorem dX4_leader_46 : decode cX4_leader 46 = .ok (.invokestatic 142, 3) := by decide +kernel
theorem dX4_leader_49 : decode cX4_leader 49 = .ok (.ifCond .eq 16, 3) := by decide +kernel
theorem dX4_leader_52 : decode cX4_leader 52 = .ok (.aload_n 0, 1) := by decide +kernel
theorem dX4_leader_53 : decode cX4_leader 53 = .ok (.iload 4, 2) := by decide +kernel
theorem dX4_leader_55 : decode cX4_leader 55 = .ok (.iload_n 3, 1) := by decide +kernel
theorem dX4_leader_56 : decode cX4_leader 56 = .ok (.invokevirtual 145, 3) := by decide +kernel
theorem dX4_leader_59 : decode cX4_leader 59 = .ok (.ifCond .eq 6, 3) := by decide +kernel
theorem dX4_leader_62 : decode cX4_leader 62 = .ok (.iload 4, 2) := by decide +kernel
theorem dX4_leader_64 : decode cX4_leader 64 = .ok (.istore_n 3, 1) := by decide +kernel
theorem dX4_leader_65 : decode cX4_leader 65 = .ok (.iinc 4 1, 3) := by decide +kernel
theorem dX4_leader_68 : decode cX4_leader 68 = .ok (.goto (-34), 3) := by decide +kernel
