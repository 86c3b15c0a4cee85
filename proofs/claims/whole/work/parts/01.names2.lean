set_option maxRecDepth 20000 in
theorem ggX2_turnArcs_X1_with : GoodIn wsX2_turnArcs wsX1_with := goodIn_r _ [7] (by decide +kernel) (by decide +kernel)
set_option maxRecDepth 20000 in
theorem gX2_turnArcs_X1_with_n36 : GoodIn wsX2_turnArcs (wsX1_with) := ggX2_turnArcs_X1_with
theorem dX2_turnArcs_0 : decode cX2_turnArcs 0 = .ok (.iload_n 1, 1) := by decide +kernel
theorem dX2_turnArcs_1 : decode cX2_turnArcs 1 = .ok (.istore_n 2, 1) := by decide +kernel
theorem dX2_turnArcs_2 : decode cX2_turnArcs 2 = .ok (.iconst 1, 1) := by decide +kernel
theorem dX2_turnArcs_3 : decode cX2_turnArcs 3 = .ok (.istore_n 3, 1) := by decide +kernel
theorem dX2_turnArcs_4 : decode cX2_turnArcs 4 = .ok (.iload_n 3, 1) := by decide +kernel
theorem dX2_turnArcs_5 : decode cX2_turnArcs 5 = .ok (.bipush 8, 2) := by decide +kernel
theorem dX2_turnArcs_7 : decode cX2_turnArcs 7 = .ok (.if_icmp .ge 61, 3) := by decide +kernel
theorem dX2_turnArcs_10 : decode cX2_turnArcs 10 = .ok (.aload_n 0, 1) := by decide +kernel
theorem dX2_turnArcs_11 : decode cX2_turnArcs 11 = .ok (.getfield 18, 3) := by decide +kernel
theorem dX2_turnArcs_14 : decode cX2_turnArcs 14 = .ok (.iload_n 2, 1) := by decide +kernel
theorem dX2_turnArcs_15 : decode cX2_turnArcs 15 = .ok (.iaload, 1) := by decide +kernel
theorem dX2_turnArcs_16 : decode cX2_turnArcs 16 = .ok (.istore 4, 2) := by decide +kernel
theorem dX2_turnArcs_18 : decode cX2_turnArcs 18 = .ok (.iload 4, 2) := by decide +kernel
theorem dX2_turnArcs_20 : decode cX2_turnArcs 20 = .ok (.ifCond .ge 4, 3) := by decide +kernel
theorem dX2_turnArcs_23 : decode cX2_turnArcs 23 = .ok (.return_, 1) := by decide +kernel
theorem dX2_turnArcs_24 : decode cX2_turnArcs 24 = .ok (.aload_n 0, 1) := by decide +kernel
theorem dX2_turnArcs_25 : decode cX2_turnArcs 25 = .ok (.getfield 15, 3) := by decide +kernel
theorem dX2_turnArcs_28 : decode cX2_turnArcs 28 = .ok (.iload 4, 2) := by decide +kernel
theorem dX2_turnArcs_30 : decode cX2_turnArcs 30 = .ok (.aload_n 0, 1) := by decide +kernel
theorem dX2_turnArcs_31 : decode cX2_turnArcs 31 = .ok (.getfield 15, 3) := by decide +kernel
theorem dX2_turnArcs_34 : decode cX2_turnArcs 34 = .ok (.iload 4, 2) := by decide +kernel
theorem dX2_turnArcs_36 : decode cX2_turnArcs 36 = .ok (.iaload, 1) := by decide +kernel
theorem dX2_turnArcs_37 : decode cX2_turnArcs 37 = .ok (.iload_n 2, 1) := by decide +kernel
theorem dX2_turnArcs_38 : decode cX2_turnArcs 38 = .ok (.invokestatic 61, 3) := by decide +kernel
theorem dX2_turnArcs_41 : decode cX2_turnArcs 41 = .ok (.iastore, 1) := by decide +kernel
theorem dX2_turnArcs_42 : decode cX2_turnArcs 42 = .ok (.aload_n 0, 1) := by decide +kernel
theorem dX2_turnArcs_43 : decode cX2_turnArcs 43 = .ok (.getfield 15, 3) := by decide +kernel
theorem dX2_turnArcs_46 : decode cX2_turnArcs 46 = .ok (.iload_n 2, 1) := by decide +kernel
theorem dX2_turnArcs_47 : decode cX2_turnArcs 47 = .ok (.aload_n 0, 1) := by decide +kernel
theorem dX2_turnArcs_48 : decode cX2_turnArcs 48 = .ok (.getfield 15, 3) := by decide +kernel
theorem dX2_turnArcs_51 : decode cX2_turnArcs 51 = .ok (.iload_n 2, 1) := by decide +kernel
theorem dX2_turnArcs_52 : decode cX2_turnArcs 52 = .ok (.iaload, 1) := by decide +kernel
theorem dX2_turnArcs_53 : decode cX2_turnArcs 53 = .ok (.iload 4, 2) := by decide +kernel
theorem dX2_turnArcs_55 : decode cX2_turnArcs 55 = .ok (.invokestatic 36, 3) := by decide +kernel
theorem dX2_turnArcs_58 : decode cX2_turnArcs 58 = .ok (.iastore, 1) := by decide +kernel
theorem dX2_turnArcs_59 : decode cX2_turnArcs 59 = .ok (.iload 4, 2) := by decide +kernel
theorem dX2_turnArcs_61 : decode cX2_turnArcs 61 = .ok (.istore_n 2, 1) := by decide +kernel
theorem dX2_turnArcs_62 : decode cX2_turnArcs 62 = .ok (.iinc 3 1, 3) := by decide +kernel
theorem dX2_turnArcs_65 : decode cX2_turnArcs 65 = .ok (.goto (-61), 3) := by decide +kernel
theorem dX2_turnArcs_68 : decode cX2_turnArcs 68 = .ok (.return_, 1) := by decide +kernel
theorem dX3_init_0 : decode cX3_init 0 = .ok (.aload_n 0, 1) := by decide +kernel
theorem dX3_init_1 : decode cX3_init 1 = .ok (.invokespecial 3, 3) := by decide +kernel
theorem dX3_init_4 : decode cX3_init 4 = .ok (.aload_n 0, 1) := by decide +kernel
theorem dX3_init_5 : decode cX3_init 5 = .ok (.bipush 8, 2) := by decide +kernel
theorem dX3_init_7 : decode cX3_init 7 = .ok (.bipush 8, 2) := by decide +kernel
theorem dX3_init_9 : decode cX3_init 9 = .ok (.multianewarray 9 2, 4) := by decide +kernel
theorem dX3_init_13 : decode cX3_init 13 = .ok (.putfield 11, 3) := by decide +kernel
theorem dX3_init_16 : decode cX3_init 16 = .ok (.return_, 1) := by decide +kernel
set_option maxRecDepth 20000 in
theorem ggX3_treesOf_J6_numberOfTrailingZeros_0f7a4 : GoodIn wsX3_treesOf wsJ6_numberOfTrailingZeros_0f7a4 := goodIn_r _ [4, 5] (by decide +kernel) (by decide +kernel)
set_option maxRecDepth 20000 in
theorem gX3_treesOf_J6_numberOfTrailingZeros_0f7a4 : GoodIn wsX3_treesOf (va_wsS RX3 16 yJ6_numberOfTrailingZeros_0f7a4 wsJ6_numberOfTrailingZeros_0f7a4) := goodIn_app (goodIn_of _ (by decide +kernel)) ggX3_treesOf_J6_numberOfTrailingZeros_0f7a4
set_option maxRecDepth 20000 in
theorem ggX3_treesOf_X1_without : GoodIn wsX3_treesOf wsX1_without := goodIn_r _ [8] (by decide +kernel) (by decide +kernel)
set_option maxRecDepth 20000 in
theorem gX3_treesOf_X1_without_n22 : GoodIn wsX3_treesOf (wsX1_without) := ggX3_treesOf_X1_without
set_option maxRecDepth 20000 in
theorem ggX3_treesOf_X3_fill : GoodIn wsX3_treesOf wsX3_fill := goodIn_r _ [13, 14, 15, 7, 16, 17, 18, 12, 19, 20, 21, 22, 23, 24, 25, 26, 27, 28, 29, 30, 3, 31, 32, 33, 34, 39, 40] (by decide +kernel) (by decide +kernel)
set_option maxRecDepth 20000 in
theorem gX3_treesOf_X3_fill : GoodIn wsX3_treesOf (wsV RX3 28 RX3 yX3_fill wsX3_fill) := goodIn_app (goodIn_of _ (by decide +kernel)) ggX3_treesOf_X3_fill
set_option maxRecDepth 20000 in
theorem ggX3_treesOf_X3_determinant : GoodIn wsX3_treesOf wsX3_determinant := goodIn_r _ [38, 14, 39] (by decide +kernel) (by decide +kernel)
set_option maxRecDepth 20000 in
theorem gX3_treesOf_X3_determinant : GoodIn wsX3_treesOf (wsV RX3 32 RX3 yX3_determinant wsX3_determinant) := goodIn_app (goodIn_of _ (by decide +kernel)) ggX3_treesOf_X3_determinant
theorem dX3_treesOf_0 : decode cX3_treesOf 0 = .ok (.iload_n 2, 1) := by decide +kernel
theorem dX3_treesOf_1 : decode cX3_treesOf 1 = .ok (.ifCond .ne 5, 3) := by decide +kernel
theorem dX3_treesOf_4 : decode cX3_treesOf 4 = .ok (.lconst 0, 1) := by decide +kernel
theorem dX3_treesOf_5 : decode cX3_treesOf 5 = .ok (.lreturn, 1) := by decide +kernel
theorem dX3_treesOf_6 : decode cX3_treesOf 6 = .ok (.iload_n 2, 1) := by decide +kernel
theorem dX3_treesOf_7 : decode cX3_treesOf 7 = .ok (.invokestatic 16, 3) := by decide +kernel
theorem dX3_treesOf_10 : decode cX3_treesOf 10 = .ok (.istore_n 3, 1) := by decide +kernel
theorem dX3_treesOf_11 : decode cX3_treesOf 11 = .ok (.aload_n 0, 1) := by decide +kernel
theorem dX3_treesOf_12 : decode cX3_treesOf 12 = .ok (.aload_n 0, 1) := by decide +kernel
theorem dX3_treesOf_13 : decode cX3_treesOf 13 = .ok (.aload_n 1, 1) := by decide +kernel
theorem dX3_treesOf_14 : decode cX3_treesOf 14 = .ok (.iload_n 2, 1) := by decide +kernel
theorem dX3_treesOf_15 : decode cX3_treesOf 15 = .ok (.iload_n 3, 1) := by decide +kernel
theorem dX3_treesOf_16 : decode cX3_treesOf 16 = .ok (.invokestatic 22, 3) := by decide +kernel
theorem dX3_treesOf_19 : decode cX3_treesOf 19 = .ok (.invokevirtual 28, 3) := by decide +kernel
theorem dX3_treesOf_22 : decode cX3_treesOf 22 = .ok (.invokevirtual 32, 3) := by decide +kernel
theorem dX3_treesOf_25 : decode cX3_treesOf 25 = .ok (.lreturn, 1) := by decide +kernel
set_option maxRecDepth 20000 in
theorem ggX3_fill_X1_holds : GoodIn wsX3_fill wsX1_holds := goodIn_r _ [4] (by decide +kernel) (by decide +kernel)
set_option maxRecDepth 20000 in
theorem gX3_fill_X1_holds_n36 : GoodIn wsX3_fill (wsX1_holds) := ggX3_fill_X1_holds
set_option maxRecDepth 20000 in
theorem ggX3_fill_X3_fillRow : GoodIn wsX3_fill wsX3_fillRow := goodIn_r _ [8, 9, 2, 3, 4, 10, 11, 12, 13, 14, 15, 16, 17, 18, 19, 20, 21, 22, 23, 24, 26] (by decide +kernel) (by decide +kernel)
set_option maxRecDepth 20000 in
theorem gX3_fill_X3_fillRow : GoodIn wsX3_fill (va_wsS RX3 40 yX3_fillRow wsX3_fillRow) := goodIn_app (goodIn_of _ (by decide +kernel)) ggX3_fill_X3_fillRow
theorem dX3_fill_0 : decode cX3_fill 0 = .ok (.iconst 0, 1) := by decide +kernel
theorem dX3_fill_1 : decode cX3_fill 1 = .ok (.istore_n 3, 1) := by decide +kernel
theorem dX3_fill_2 : decode cX3_fill 2 = .ok (.iconst 0, 1) := by decide +kernel
theorem dX3_fill_3 : decode cX3_fill 3 = .ok (.istore 4, 2) := by decide +kernel
theorem dX3_fill_5 : decode cX3_fill 5 = .ok (.iload 4, 2) := by decide +kernel
theorem dX3_fill_7 : decode cX3_fill 7 = .ok (.bipush 8, 2) := by decide +kernel
theorem dX3_fill_9 : decode cX3_fill 9 = .ok (.if_icmp .ge 34, 3) := by decide +kernel
theorem dX3_fill_12 : decode cX3_fill 12 = .ok (.iload_n 2, 1) := by decide +kernel
theorem dX3_fill_13 : decode cX3_fill 13 = .ok (.iload 4, 2) := by decide +kernel
theorem dX3_fill_15 : decode cX3_fill 15 = .ok (.invokestatic 36, 3) := by decide +kernel
theorem dX3_fill_18 : decode cX3_fill 18 = .ok (.ifCond .eq 19, 3) := by decide +kernel
theorem dX3_fill_21 : decode cX3_fill 21 = .ok (.aload_n 1, 1) := by decide +kernel
theorem dX3_fill_22 : decode cX3_fill 22 = .ok (.iload_n 2, 1) := by decide +kernel
theorem dX3_fill_23 : decode cX3_fill 23 = .ok (.iload 4, 2) := by decide +kernel
theorem dX3_fill_25 : decode cX3_fill 25 = .ok (.aload_n 0, 1) := by decide +kernel
theorem dX3_fill_26 : decode cX3_fill 26 = .ok (.getfield 11, 3) := by decide +kernel
theorem dX3_fill_29 : decode cX3_fill 29 = .ok (.iload_n 3, 1) := by decide +kernel
theorem dX3_fill_30 : decode cX3_fill 30 = .ok (.aaload, 1) := by decide +kernel
theorem dX3_fill_31 : decode cX3_fill 31 = .ok (.invokestatic 40, 3) := by decide +kernel
theorem dX3_fill_34 : decode cX3_fill 34 = .ok (.iinc 3 1, 3) := by decide +kernel
theorem dX3_fill_37 : decode cX3_fill 37 = .ok (.iinc 4 1, 3) := by decide +kernel
theorem dX3_fill_40 : decode cX3_fill 40 = .ok (.goto (-35), 3) := by decide +kernel
theorem dX3_fill_43 : decode cX3_fill 43 = .ok (.iload_n 3, 1) := by decide +kernel
theorem dX3_fill_44 : decode cX3_fill 44 = .ok (.ireturn, 1) := by decide +kernel
set_option maxRecDepth 20000 in
theorem ggX3_fillRow_X1_holds : GoodIn wsX3_fillRow wsX1_holds := goodIn_r _ [4] (by decide +kernel) (by decide +kernel)
set_option maxRecDepth 20000 in
theorem gX3_fillRow_X1_holds_n36 : GoodIn wsX3_fillRow (wsX1_holds) := ggX3_fillRow_X1_holds
set_option maxRecDepth 20000 in
theorem ggX3_fillRow_X1_joins : GoodIn wsX3_fillRow wsX1_joins := goodIn_r _ [7, 8, 9, 2, 3, 4, 20] (by decide +kernel) (by decide +kernel)
set_option maxRecDepth 20000 in
theorem gX3_fillRow_X1_joins_n44 : GoodIn wsX3_fillRow (wsX1_joins) := ggX3_fillRow_X1_joins
set_option maxRecDepth 20000 in
theorem ggX3_fillRow_X1_degreeOf : GoodIn wsX3_fillRow wsX1_degreeOf := goodIn_r _ [12, 8, 13, 14, 15, 16, 17, 18, 19, 20] (by decide +kernel) (by decide +kernel)
set_option maxRecDepth 20000 in
theorem gX3_fillRow_X1_degreeOf_n49 : GoodIn wsX3_fillRow (wsX1_degreeOf) := ggX3_fillRow_X1_degreeOf
theorem dX3_fillRow_0 : decode cX3_fillRow 0 = .ok (.iconst 0, 1) := by decide +kernel
theorem dX3_fillRow_1 : decode cX3_fillRow 1 = .ok (.istore 4, 2) := by decide +kernel
theorem dX3_fillRow_3 : decode cX3_fillRow 3 = .ok (.iconst 0, 1) := by decide +kernel
theorem dX3_fillRow_4 : decode cX3_fillRow 4 = .ok (.istore 5, 2) := by decide +kernel
theorem dX3_fillRow_6 : decode cX3_fillRow 6 = .ok (.iload 5, 2) := by decide +kernel
theorem dX3_fillRow_8 : decode cX3_fillRow 8 = .ok (.bipush 8, 2) := by decide +kernel
theorem dX3_fillRow_10 : decode cX3_fillRow 10 = .ok (.if_icmp .ge 58, 3) := by decide +kernel
theorem dX3_fillRow_13 : decode cX3_fillRow 13 = .ok (.iload_n 1, 1) := by decide +kernel
theorem dX3_fillRow_14 : decode cX3_fillRow 14 = .ok (.iload 5, 2) := by decide +kernel
theorem dX3_fillRow_16 : decode cX3_fillRow 16 = .ok (.invokestatic 36, 3) := by decide +kernel
theorem dX3_fillRow_19 : decode cX3_fillRow 19 = .ok (.ifCond .eq 43, 3) := by decide +kernel
theorem dX3_fillRow_22 : decode cX3_fillRow 22 = .ok (.aload_n 3, 1) := by decide +kernel
theorem dX3_fillRow_23 : decode cX3_fillRow 23 = .ok (.iload 4, 2) := by decide +kernel
theorem dX3_fillRow_25 : decode cX3_fillRow 25 = .ok (.aload_n 0, 1) := by decide +kernel
theorem dX3_fillRow_26 : decode cX3_fillRow 26 = .ok (.iload_n 2, 1) := by decide +kernel
theorem dX3_fillRow_27 : decode cX3_fillRow 27 = .ok (.iload 5, 2) := by decide +kernel
theorem dX3_fillRow_29 : decode cX3_fillRow 29 = .ok (.invokevirtual 44, 3) := by decide +kernel
theorem dX3_fillRow_32 : decode cX3_fillRow 32 = .ok (.ifCond .eq 9, 3) := by decide +kernel
theorem dX3_fillRow_35 : decode cX3_fillRow 35 = .ok (.ldc2_w 47, 3) := by decide +kernel
theorem dX3_fillRow_38 : decode cX3_fillRow 38 = .ok (.goto 4, 3) := by decide +kernel
theorem dX3_fillRow_41 : decode cX3_fillRow 41 = .ok (.lconst 0, 1) := by decide +kernel
theorem dX3_fillRow_42 : decode cX3_fillRow 42 = .ok (.lastore, 1) := by decide +kernel
theorem dX3_fillRow_43 : decode cX3_fillRow 43 = .ok (.iload 5, 2) := by decide +kernel
theorem dX3_fillRow_45 : decode cX3_fillRow 45 = .ok (.iload_n 2, 1) := by decide +kernel
theorem dX3_fillRow_46 : decode cX3_fillRow 46 = .ok (.if_icmp .ne 13, 3) := by decide +kernel
theorem dX3_fillRow_49 : decode cX3_fillRow 49 = .ok (.aload_n 3, 1) := by decide +kernel
theorem dX3_fillRow_50 : decode cX3_fillRow 50 = .ok (.iload 4, 2) := by decide +kernel
theorem dX3_fillRow_52 : decode cX3_fillRow 52 = .ok (.aload_n 0, 1) := by decide +kernel
theorem dX3_fillRow_53 : decode cX3_fillRow 53 = .ok (.iload_n 2, 1) := by decide +kernel
theorem dX3_fillRow_54 : decode cX3_fillRow 54 = .ok (.invokevirtual 49, 3) := by decide +kernel
theorem dX3_fillRow_57 : decode cX3_fillRow 57 = .ok (.i2l, 1) := by decide +kernel
theorem dX3_fillRow_58 : decode cX3_fillRow 58 = .ok (.lastore, 1) := by decide +kernel
theorem dX3_fillRow_59 : decode cX3_fillRow 59 = .ok (.iinc 4 1, 3) := by decide +kernel
theorem dX3_fillRow_62 : decode cX3_fillRow 62 = .ok (.iinc 5 1, 3) := by decide +kernel
theorem dX3_fillRow_65 : decode cX3_fillRow 65 = .ok (.goto (-59), 3) := by decide +kernel
theorem dX3_fillRow_68 : decode cX3_fillRow 68 = .ok (.return_, 1) := by decide +kernel
theorem dX3_determinant_0 : decode cX3_determinant 0 = .ok (.lconst 1, 1) := by decide +kernel
theorem dX3_determinant_1 : decode cX3_determinant 1 = .ok (.lstore_n 2, 1) := by decide +kernel
theorem dX3_determinant_2 : decode cX3_determinant 2 = .ok (.iconst 0, 1) := by decide +kernel
theorem dX3_determinant_3 : decode cX3_determinant 3 = .ok (.istore 4, 2) := by decide +kernel
theorem dX3_determinant_5 : decode cX3_determinant 5 = .ok (.iload 4, 2) := by decide +kernel
theorem dX3_determinant_7 : decode cX3_determinant 7 = .ok (.iload_n 1, 1) := by decide +kernel
theorem dX3_determinant_8 : decode cX3_determinant 8 = .ok (.if_icmp .ge 120, 3) := by decide +kernel
theorem dX3_determinant_11 : decode cX3_determinant 11 = .ok (.aload_n 0, 1) := by decide +kernel
theorem dX3_determinant_12 : decode cX3_determinant 12 = .ok (.getfield 11, 3) := by decide +kernel
theorem dX3_determinant_15 : decode cX3_determinant 15 = .ok (.iload 4, 2) := by decide +kernel
theorem dX3_determinant_17 : decode cX3_determinant 17 = .ok (.aaload, 1) := by decide +kernel
theorem dX3_determinant_18 : decode cX3_determinant 18 = .ok (.iload 4, 2) := by decide +kernel
theorem dX3_determinant_20 : decode cX3_determinant 20 = .ok (.laload, 1) := by decide +kernel
theorem dX3_determinant_21 : decode cX3_determinant 21 = .ok (.lstore 5, 2) := by decide +kernel
theorem dX3_determinant_23 : decode cX3_determinant 23 = .ok (.lload 5, 2) := by decide +kernel
theorem dX3_determinant_25 : decode cX3_determinant 25 = .ok (.lconst 0, 1) := by decide +kernel
theorem dX3_determinant_26 : decode cX3_determinant 26 = .ok (.lcmp, 1) := by decide +kernel
theorem dX3_determinant_27 : decode cX3_determinant 27 = .ok (.ifCond .ne 5, 3) := by decide +kernel
theorem dX3_determinant_30 : decode cX3_determinant 30 = .ok (.lconst 0, 1) := by decide +kernel
theorem dX3_determinant_31 : decode cX3_determinant 31 = .ok (.lreturn, 1) := by decide +kernel
theorem dX3_determinant_32 : decode cX3_determinant 32 = .ok (.iload 4, 2) := by decide +kernel
theorem dX3_determinant_34 : decode cX3_determinant 34 = .ok (.iconst 1, 1) := by decide +kernel
theorem dX3_determinant_35 : decode cX3_determinant 35 = .ok (.iadd, 1) := by decide +kernel
theorem dX3_determinant_36 : decode cX3_determinant 36 = .ok (.istore 7, 2) := by decide +kernel
theorem dX3_determinant_38 : decode cX3_determinant 38 = .ok (.iload 7, 2) := by decide +kernel
theorem dX3_determinant_40 : decode cX3_determinant 40 = .ok (.iload_n 1, 1) := by decide +kernel
theorem dX3_determinant_41 : decode cX3_determinant 41 = .ok (.if_icmp .ge 78, 3) := by decide +kernel
theorem dX3_determinant_44 : decode cX3_determinant 44 = .ok (.iload 4, 2) := by decide +kernel
theorem dX3_determinant_46 : decode cX3_determinant 46 = .ok (.iconst 1, 1) := by decide +kernel
theorem dX3_determinant_47 : decode cX3_determinant 47 = .ok (.iadd, 1) := by decide +kernel
theorem dX3_determinant_48 : decode cX3_determinant 48 = .ok (.istore 8, 2) := by decide +kernel
theorem dX3_determinant_50 : decode cX3_determinant 50 = .ok (.iload 8, 2) := by decide +kernel
theorem dX3_determinant_52 : decode cX3_determinant 52 = .ok (.iload_n 1, 1) := by decide +kernel
theorem dX3_determinant_53 : decode cX3_determinant 53 = .ok (.if_icmp .ge 60, 3) := by decide +kernel
theorem dX3_determinant_56 : decode cX3_determinant 56 = .ok (.aload_n 0, 1) := by decide +kernel
theorem dX3_determinant_57 : decode cX3_determinant 57 = .ok (.getfield 11, 3) := by decide +kernel
theorem dX3_determinant_60 : decode cX3_determinant 60 = .ok (.iload 7, 2) := by decide +kernel
theorem dX3_determinant_62 : decode cX3_determinant 62 = .ok (.aaload, 1) := by decide +kernel
theorem dX3_determinant_63 : decode cX3_determinant 63 = .ok (.iload 4, 2) := by decide +kernel
theorem dX3_determinant_65 : decode cX3_determinant 65 = .ok (.laload, 1) := by decide +kernel
theorem dX3_determinant_66 : decode cX3_determinant 66 = .ok (.aload_n 0, 1) := by decide +kernel
theorem dX3_determinant_67 : decode cX3_determinant 67 = .ok (.getfield 11, 3) := by decide +kernel
theorem dX3_determinant_70 : decode cX3_determinant 70 = .ok (.iload 4, 2) := by decide +kernel
theorem dX3_determinant_72 : decode cX3_determinant 72 = .ok (.aaload, 1) := by decide +kernel
theorem dX3_determinant_73 : decode cX3_determinant 73 = .ok (.iload 8, 2) := by decide +kernel
theorem dX3_determinant_75 : decode cX3_determinant 75 = .ok (.laload, 1) := by decide +kernel
theorem dX3_determinant_76 : decode cX3_determinant 76 = .ok (.lmul, 1) := by decide +kernel
theorem dX3_determinant_77 : decode cX3_determinant 77 = .ok (.lstore 9, 2) := by decide +kernel
theorem dX3_determinant_79 : decode cX3_determinant 79 = .ok (.aload_n 0, 1) := by decide +kernel
theorem dX3_determinant_80 : decode cX3_determinant 80 = .ok (.getfield 11, 3) := by decide +kernel
theorem dX3_determinant_83 : decode cX3_determinant 83 = .ok (.iload 7, 2) := by decide +kernel
theorem dX3_determinant_85 : decode cX3_determinant 85 = .ok (.aaload, 1) := by decide +kernel
theorem dX3_determinant_86 : decode cX3_determinant 86 = .ok (.iload 8, 2) := by decide +kernel
theorem dX3_determinant_88 : decode cX3_determinant 88 = .ok (.aload_n 0, 1) := by decide +kernel
theorem dX3_determinant_89 : decode cX3_determinant 89 = .ok (.getfield 11, 3) := by decide +kernel
theorem dX3_determinant_92 : decode cX3_determinant 92 = .ok (.iload 7, 2) := by decide +kernel
theorem dX3_determinant_94 : decode cX3_determinant 94 = .ok (.aaload, 1) := by decide +kernel
theorem dX3_determinant_95 : decode cX3_determinant 95 = .ok (.iload 8, 2) := by decide +kernel
theorem dX3_determinant_97 : decode cX3_determinant 97 = .ok (.laload, 1) := by decide +kernel
theorem dX3_determinant_98 : decode cX3_determinant 98 = .ok (.lload 5, 2) := by decide +kernel
theorem dX3_determinant_100 : decode cX3_determinant 100 = .ok (.lmul, 1) := by decide +kernel
theorem dX3_determinant_101 : decode cX3_determinant 101 = .ok (.lload 9, 2) := by decide +kernel
theorem dX3_determinant_103 : decode cX3_determinant 103 = .ok (.lsub, 1) := by decide +kernel
theorem dX3_determinant_104 : decode cX3_determinant 104 = .ok (.lload_n 2, 1) := by decide +kernel
theorem dX3_determinant_105 : decode cX3_determinant 105 = .ok (.ldiv, 1) := by decide +kernel
theorem dX3_determinant_106 : decode cX3_determinant 106 = .ok (.lastore, 1) := by decide +kernel
theorem dX3_determinant_107 : decode cX3_determinant 107 = .ok (.iinc 8 1, 3) := by decide +kernel
theorem dX3_determinant_110 : decode cX3_determinant 110 = .ok (.goto (-60), 3) := by decide +kernel
theorem dX3_determinant_113 : decode cX3_determinant 113 = .ok (.iinc 7 1, 3) := by decide +kernel
theorem dX3_determinant_116 : decode cX3_determinant 116 = .ok (.goto (-78), 3) := by decide +kernel
theorem dX3_determinant_119 : decode cX3_determinant 119 = .ok (.lload 5, 2) := by decide +kernel
theorem dX3_determinant_121 : decode cX3_determinant 121 = .ok (.lstore_n 2, 1) := by decide +kernel
theorem dX3_determinant_122 : decode cX3_determinant 122 = .ok (.iinc 4 1, 3) := by decide +kernel
theorem dX3_determinant_125 : decode cX3_determinant 125 = .ok (.goto (-120), 3) := by decide +kernel
theorem dX3_determinant_128 : decode cX3_determinant 128 = .ok (.lload_n 2, 1) := by decide +kernel
theorem dX3_determinant_129 : decode cX3_determinant 129 = .ok (.lreturn, 1) := by decide +kernel
set_option maxRecDepth 20000 in
theorem ggX4_init_X1_init : GoodIn wsX4_init wsX1_init := goodIn_r _ [38, 39, 2, 3, 4, 40, 79] (by decide +kernel) (by decide +kernel)
set_option maxRecDepth 20000 in
theorem gX4_init_X1_init_n42 : GoodIn wsX4_init (wsX1_init) := ggX4_init_X1_init
set_option maxRecDepth 20000 in
theorem ggX4_init_X2_init : GoodIn wsX4_init wsX2_init := goodIn_r _ [42, 43, 2, 3, 4, 44, 45, 46, 80, 81, 82] (by decide +kernel) (by decide +kernel)
set_option maxRecDepth 20000 in
theorem gX4_init_X2_init_n65 : GoodIn wsX4_init (wsX2_init) := ggX4_init_X2_init
set_option maxRecDepth 20000 in
theorem ggX4_init_X0_init : GoodIn wsX4_init wsX0_init := goodIn_r _ [48, 49, 2, 3, 4, 50, 83] (by decide +kernel) (by decide +kernel)
set_option maxRecDepth 20000 in
theorem gX4_init_X0_init_n72 : GoodIn wsX4_init (wsX0_init) := ggX4_init_X0_init
set_option maxRecDepth 20000 in
theorem ggX4_init_X3_init : GoodIn wsX4_init wsX3_init := goodIn_r _ [52, 53, 2, 3, 54, 55, 56, 84] (by decide +kernel) (by decide +kernel)
set_option maxRecDepth 20000 in
theorem gX4_init_X3_init_n79 : GoodIn wsX4_init (wsX3_init) := ggX4_init_X3_init
set_option maxRecDepth 20000 in
theorem ggX4_init_J7_fill_53178 : GoodIn wsX4_init wsJ7_fill_53178 := goodIn_r _ [60] (by decide +kernel) (by decide +kernel)
set_option maxRecDepth 20000 in
theorem gX4_init_J7_fill_53178 : GoodIn wsX4_init (va_wsS RX4 84 yJ7_fill_53178 wsJ7_fill_53178) := goodIn_app (goodIn_of _ (by decide +kernel)) ggX4_init_J7_fill_53178
theorem dX4_init_0 : decode cX4_init 0 = .ok (.aload_n 0, 1) := by decide +kernel
theorem dX4_init_1 : decode cX4_init 1 = .ok (.invokespecial 1, 3) := by decide +kernel
theorem dX4_init_4 : decode cX4_init 4 = .ok (.aload_n 0, 1) := by decide +kernel
theorem dX4_init_5 : decode cX4_init 5 = .ok (.bipush 8, 2) := by decide +kernel
theorem dX4_init_7 : decode cX4_init 7 = .ok (.newarray .int, 2) := by decide +kernel
theorem dX4_init_9 : decode cX4_init 9 = .ok (.putfield 9, 3) := by decide +kernel
theorem dX4_init_12 : decode cX4_init 12 = .ok (.aload_n 0, 1) := by decide +kernel
theorem dX4_init_13 : decode cX4_init 13 = .ok (.bipush 8, 2) := by decide +kernel
theorem dX4_init_15 : decode cX4_init 15 = .ok (.newarray .int, 2) := by decide +kernel
theorem dX4_init_17 : decode cX4_init 17 = .ok (.putfield 13, 3) := by decide +kernel
theorem dX4_init_20 : decode cX4_init 20 = .ok (.aload_n 0, 1) := by decide +kernel
theorem dX4_init_21 : decode cX4_init 21 = .ok (.bipush 8, 2) := by decide +kernel
theorem dX4_init_23 : decode cX4_init 23 = .ok (.newarray .boolean, 2) := by decide +kernel
theorem dX4_init_25 : decode cX4_init 25 = .ok (.putfield 16, 3) := by decide +kernel
theorem dX4_init_28 : decode cX4_init 28 = .ok (.aload_n 0, 1) := by decide +kernel
theorem dX4_init_29 : decode cX4_init 29 = .ok (.bipush 8, 2) := by decide +kernel
theorem dX4_init_31 : decode cX4_init 31 = .ok (.newarray .int, 2) := by decide +kernel
theorem dX4_init_33 : decode cX4_init 33 = .ok (.putfield 20, 3) := by decide +kernel
theorem dX4_init_36 : decode cX4_init 36 = .ok (.aload_n 0, 1) := by decide +kernel
theorem dX4_init_37 : decode cX4_init 37 = .ok (.bipush 8, 2) := by decide +kernel
theorem dX4_init_39 : decode cX4_init 39 = .ok (.newarray .int, 2) := by decide +kernel
theorem dX4_init_41 : decode cX4_init 41 = .ok (.putfield 23, 3) := by decide +kernel
theorem dX4_init_44 : decode cX4_init 44 = .ok (.aload_n 0, 1) := by decide +kernel
theorem dX4_init_45 : decode cX4_init 45 = .ok (.bipush 8, 2) := by decide +kernel
theorem dX4_init_47 : decode cX4_init 47 = .ok (.newarray .int, 2) := by decide +kernel
theorem dX4_init_49 : decode cX4_init 49 = .ok (.putfield 26, 3) := by decide +kernel
theorem dX4_init_52 : decode cX4_init 52 = .ok (.aload_n 0, 1) := by decide +kernel
theorem dX4_init_53 : decode cX4_init 53 = .ok (.bipush 8, 2) := by decide +kernel
theorem dX4_init_55 : decode cX4_init 55 = .ok (.newarray .int, 2) := by decide +kernel
theorem dX4_init_57 : decode cX4_init 57 = .ok (.putfield 29, 3) := by decide +kernel
theorem dX4_init_60 : decode cX4_init 60 = .ok (.aload_n 0, 1) := by decide +kernel
theorem dX4_init_61 : decode cX4_init 61 = .ok (.bipush 8, 2) := by decide +kernel
theorem dX4_init_63 : decode cX4_init 63 = .ok (.newarray .int, 2) := by decide +kernel
theorem dX4_init_65 : decode cX4_init 65 = .ok (.putfield 32, 3) := by decide +kernel
theorem dX4_init_68 : decode cX4_init 68 = .ok (.aload_n 0, 1) := by decide +kernel
theorem dX4_init_69 : decode cX4_init 69 = .ok (.bipush 8, 2) := by decide +kernel
theorem dX4_init_71 : decode cX4_init 71 = .ok (.bipush 8, 2) := by decide +kernel
theorem dX4_init_73 : decode cX4_init 73 = .ok (.multianewarray 35 2, 4) := by decide +kernel
theorem dX4_init_77 : decode cX4_init 77 = .ok (.putfield 37, 3) := by decide +kernel
theorem dX4_init_80 : decode cX4_init 80 = .ok (.aload_n 0, 1) := by decide +kernel
theorem dX4_init_81 : decode cX4_init 81 = .ok (.new 40, 3) := by decide +kernel
theorem dX4_init_84 : decode cX4_init 84 = .ok (.dup, 1) := by decide +kernel
theorem dX4_init_85 : decode cX4_init 85 = .ok (.invokespecial 42, 3) := by decide +kernel
theorem dX4_init_88 : decode cX4_init 88 = .ok (.putfield 43, 3) := by decide +kernel
theorem dX4_init_91 : decode cX4_init 91 = .ok (.aload_n 0, 1) := by decide +kernel
theorem dX4_init_92 : decode cX4_init 92 = .ok (.iconst 0, 1) := by decide +kernel
theorem dX4_init_93 : decode cX4_init 93 = .ok (.putfield 47, 3) := by decide +kernel
theorem dX4_init_96 : decode cX4_init 96 = .ok (.aload_n 0, 1) := by decide +kernel
theorem dX4_init_97 : decode cX4_init 97 = .ok (.bipush 100, 2) := by decide +kernel
theorem dX4_init_99 : decode cX4_init 99 = .ok (.putfield 51, 3) := by decide +kernel
theorem dX4_init_102 : decode cX4_init 102 = .ok (.aload_n 0, 1) := by decide +kernel
theorem dX4_init_103 : decode cX4_init 103 = .ok (.new 40, 3) := by decide +kernel
theorem dX4_init_106 : decode cX4_init 106 = .ok (.dup, 1) := by decide +kernel
theorem dX4_init_107 : decode cX4_init 107 = .ok (.invokespecial 42, 3) := by decide +kernel
theorem dX4_init_110 : decode cX4_init 110 = .ok (.putfield 54, 3) := by decide +kernel
theorem dX4_init_113 : decode cX4_init 113 = .ok (.aload_n 0, 1) := by decide +kernel
theorem dX4_init_114 : decode cX4_init 114 = .ok (.bipush 8, 2) := by decide +kernel
theorem dX4_init_116 : decode cX4_init 116 = .ok (.newarray .int, 2) := by decide +kernel
theorem dX4_init_118 : decode cX4_init 118 = .ok (.putfield 57, 3) := by decide +kernel
theorem dX4_init_121 : decode cX4_init 121 = .ok (.aload_n 0, 1) := by decide +kernel
theorem dX4_init_122 : decode cX4_init 122 = .ok (.bipush 8, 2) := by decide +kernel
theorem dX4_init_124 : decode cX4_init 124 = .ok (.newarray .int, 2) := by decide +kernel
theorem dX4_init_126 : decode cX4_init 126 = .ok (.putfield 60, 3) := by decide +kernel
theorem dX4_init_129 : decode cX4_init 129 = .ok (.aload_n 0, 1) := by decide +kernel
theorem dX4_init_130 : decode cX4_init 130 = .ok (.new 63, 3) := by decide +kernel
theorem dX4_init_133 : decode cX4_init 133 = .ok (.dup, 1) := by decide +kernel
theorem dX4_init_134 : decode cX4_init 134 = .ok (.invokespecial 65, 3) := by decide +kernel
theorem dX4_init_137 : decode cX4_init 137 = .ok (.putfield 66, 3) := by decide +kernel
theorem dX4_init_140 : decode cX4_init 140 = .ok (.aload_n 0, 1) := by decide +kernel
theorem dX4_init_141 : decode cX4_init 141 = .ok (.new 70, 3) := by decide +kernel
theorem dX4_init_144 : decode cX4_init 144 = .ok (.dup, 1) := by decide +kernel
theorem dX4_init_145 : decode cX4_init 145 = .ok (.invokespecial 72, 3) := by decide +kernel
theorem dX4_init_148 : decode cX4_init 148 = .ok (.putfield 73, 3) := by decide +kernel
theorem dX4_init_151 : decode cX4_init 151 = .ok (.aload_n 0, 1) := by decide +kernel
theorem dX4_init_152 : decode cX4_init 152 = .ok (.new 77, 3) := by decide +kernel
theorem dX4_init_155 : decode cX4_init 155 = .ok (.dup, 1) := by decide +kernel
theorem dX4_init_156 : decode cX4_init 156 = .ok (.invokespecial 79, 3) := by decide +kernel
theorem dX4_init_159 : decode cX4_init 159 = .ok (.putfield 80, 3) := by decide +kernel
theorem dX4_init_162 : decode cX4_init 162 = .ok (.iconst 0, 1) := by decide +kernel
theorem dX4_init_163 : decode cX4_init 163 = .ok (.istore_n 1, 1) := by decide +kernel
theorem dX4_init_164 : decode cX4_init 164 = .ok (.iload_n 1, 1) := by decide +kernel
theorem dX4_init_165 : decode cX4_init 165 = .ok (.bipush 8, 2) := by decide +kernel
theorem dX4_init_167 : decode cX4_init 167 = .ok (.if_icmp .ge 19, 3) := by decide +kernel
theorem dX4_init_170 : decode cX4_init 170 = .ok (.aload_n 0, 1) := by decide +kernel
theorem dX4_init_171 : decode cX4_init 171 = .ok (.getfield 37, 3) := by decide +kernel
theorem dX4_init_174 : decode cX4_init 174 = .ok (.iload_n 1, 1) := by decide +kernel
theorem dX4_init_175 : decode cX4_init 175 = .ok (.aaload, 1) := by decide +kernel
theorem dX4_init_176 : decode cX4_init 176 = .ok (.iconst (-1), 1) := by decide +kernel
theorem dX4_init_177 : decode cX4_init 177 = .ok (.invokestatic 84, 3) := by decide +kernel
theorem dX4_init_180 : decode cX4_init 180 = .ok (.iinc 1 1, 3) := by decide +kernel
theorem dX4_init_183 : decode cX4_init 183 = .ok (.goto (-19), 3) := by decide +kernel
theorem dX4_init_186 : decode cX4_init 186 = .ok (.return_, 1) := by decide +kernel
set_option maxRecDepth 20000 in
theorem ggX4_addMember_X4_requirePlace : GoodIn wsX4_addMember wsX4_requirePlace := goodIn_ca (goodIn_r _ [12, 13, 14, 11, 15, 16, 17] (by decide +kernel) (by decide +kernel)) (goodIn_sub (fun _ h => List.mem_cons_of_mem _ (List.mem_append_right _ h)) (by decide +kernel))
set_option maxRecDepth 20000 in
theorem gX4_addMember_X4_requirePlace : GoodIn wsX4_addMember (va_wsS RX4 90 yX4_requirePlace wsX4_requirePlace) := goodIn_app (goodIn_of _ (by decide +kernel)) ggX4_addMember_X4_requirePlace
theorem dX4_addMember_0 : decode cX4_addMember 0 = .ok (.iload_n 1, 1) := by decide +kernel
theorem dX4_addMember_1 : decode cX4_addMember 1 = .ok (.iload_n 2, 1) := by decide +kernel
theorem dX4_addMember_2 : decode cX4_addMember 2 = .ok (.invokestatic 90, 3) := by decide +kernel
theorem dX4_addMember_5 : decode cX4_addMember 5 = .ok (.aload_n 0, 1) := by decide +kernel
theorem dX4_addMember_6 : decode cX4_addMember 6 = .ok (.getfield 47, 3) := by decide +kernel
theorem dX4_addMember_9 : decode cX4_addMember 9 = .ok (.bipush 8, 2) := by decide +kernel
theorem dX4_addMember_11 : decode cX4_addMember 11 = .ok (.if_icmp .lt 13, 3) := by decide +kernel
theorem dX4_addMember_14 : decode cX4_addMember 14 = .ok (.new 94, 3) := by decide +kernel
theorem dX4_addMember_17 : decode cX4_addMember 17 = .ok (.dup, 1) := by decide +kernel
theorem dX4_addMember_18 : decode cX4_addMember 18 = .ok (.ldc 96, 2) := by decide +kernel
theorem dX4_addMember_20 : decode cX4_addMember 20 = .ok (.invokespecial 98, 3) := by decide +kernel
theorem dX4_addMember_23 : decode cX4_addMember 23 = .ok (.athrow, 1) := by decide +kernel
theorem dX4_addMember_24 : decode cX4_addMember 24 = .ok (.aload_n 0, 1) := by decide +kernel
theorem dX4_addMember_25 : decode cX4_addMember 25 = .ok (.getfield 47, 3) := by decide +kernel
theorem dX4_addMember_28 : decode cX4_addMember 28 = .ok (.istore_n 3, 1) := by decide +kernel
theorem dX4_addMember_29 : decode cX4_addMember 29 = .ok (.aload_n 0, 1) := by decide +kernel
theorem dX4_addMember_30 : decode cX4_addMember 30 = .ok (.getfield 9, 3) := by decide +kernel
theorem dX4_addMember_33 : decode cX4_addMember 33 = .ok (.iload_n 3, 1) := by decide +kernel
theorem dX4_addMember_34 : decode cX4_addMember 34 = .ok (.iload_n 1, 1) := by decide +kernel
theorem dX4_addMember_35 : decode cX4_addMember 35 = .ok (.iastore, 1) := by decide +kernel
theorem dX4_addMember_36 : decode cX4_addMember 36 = .ok (.aload_n 0, 1) := by decide +kernel
theorem dX4_addMember_37 : decode cX4_addMember 37 = .ok (.getfield 13, 3) := by decide +kernel
theorem dX4_addMember_40 : decode cX4_addMember 40 = .ok (.iload_n 3, 1) := by decide +kernel
theorem dX4_addMember_41 : decode cX4_addMember 41 = .ok (.iload_n 2, 1) := by decide +kernel
theorem dX4_addMember_42 : decode cX4_addMember 42 = .ok (.iastore, 1) := by decide +kernel
theorem dX4_addMember_43 : decode cX4_addMember 43 = .ok (.aload_n 0, 1) := by decide +kernel
theorem dX4_addMember_44 : decode cX4_addMember 44 = .ok (.getfield 16, 3) := by decide +kernel
theorem dX4_addMember_47 : decode cX4_addMember 47 = .ok (.iload_n 3, 1) := by decide +kernel
theorem dX4_addMember_48 : decode cX4_addMember 48 = .ok (.iconst 1, 1) := by decide +kernel
theorem dX4_addMember_49 : decode cX4_addMember 49 = .ok (.bastore, 1) := by decide +kernel
theorem dX4_addMember_50 : decode cX4_addMember 50 = .ok (.aload_n 0, 1) := by decide +kernel
theorem dX4_addMember_51 : decode cX4_addMember 51 = .ok (.getfield 29, 3) := by decide +kernel
theorem dX4_addMember_54 : decode cX4_addMember 54 = .ok (.iload_n 3, 1) := by decide +kernel
theorem dX4_addMember_55 : decode cX4_addMember 55 = .ok (.sipush 1024, 3) := by decide +kernel
theorem dX4_addMember_58 : decode cX4_addMember 58 = .ok (.iastore, 1) := by decide +kernel
theorem dX4_addMember_59 : decode cX4_addMember 59 = .ok (.aload_n 0, 1) := by decide +kernel
theorem dX4_addMember_60 : decode cX4_addMember 60 = .ok (.getfield 32, 3) := by decide +kernel
theorem dX4_addMember_63 : decode cX4_addMember 63 = .ok (.iload_n 3, 1) := by decide +kernel
theorem dX4_addMember_64 : decode cX4_addMember 64 = .ok (.iconst (-1), 1) := by decide +kernel
theorem dX4_addMember_65 : decode cX4_addMember 65 = .ok (.iastore, 1) := by decide +kernel
theorem dX4_addMember_66 : decode cX4_addMember 66 = .ok (.aload_n 0, 1) := by decide +kernel
theorem dX4_addMember_67 : decode cX4_addMember 67 = .ok (.dup, 1) := by decide +kernel
theorem dX4_addMember_68 : decode cX4_addMember 68 = .ok (.getfield 47, 3) := by decide +kernel
theorem dX4_addMember_71 : decode cX4_addMember 71 = .ok (.iconst 1, 1) := by decide +kernel
theorem dX4_addMember_72 : decode cX4_addMember 72 = .ok (.iadd, 1) := by decide +kernel
theorem dX4_addMember_73 : decode cX4_addMember 73 = .ok (.putfield 47, 3) := by decide +kernel
theorem dX4_addMember_76 : decode cX4_addMember 76 = .ok (.iload_n 3, 1) := by decide +kernel
theorem dX4_addMember_77 : decode cX4_addMember 77 = .ok (.ireturn, 1) := by decide +kernel
set_option maxRecDepth 20000 in
theorem ggX4_move_X4_requireMember : GoodIn wsX4_move wsX4_requireMember := goodIn_ca (goodIn_r _ [7, 8, 9, 10, 19, 20, 21, 22, 23, 24, 25, 26, 27, 28, 29, 30, 31, 32, 33, 34, 35, 36] (by decide +kernel) (by decide +kernel)) (goodIn_sub (fun _ h => List.mem_cons_of_mem _ (List.mem_append_left _ (List.mem_append_right _ h))) (by decide +kernel))
set_option maxRecDepth 20000 in
theorem gX4_move_X4_requireMember : GoodIn wsX4_move (wsV RX4 101 RX4 yX4_requireMember wsX4_requireMember) := goodIn_app (goodIn_of _ (by decide +kernel)) ggX4_move_X4_requireMember
set_option maxRecDepth 20000 in
theorem ggX4_move_X4_requirePlace : GoodIn wsX4_move wsX4_requirePlace := goodIn_ca (goodIn_r _ [13, 14, 15, 6, 16, 17, 18] (by decide +kernel) (by decide +kernel)) (goodIn_sub (fun _ h => List.mem_cons_of_mem _ (List.mem_append_right _ h)) (by decide +kernel))
set_option maxRecDepth 20000 in
theorem gX4_move_X4_requirePlace : GoodIn wsX4_move (va_wsS RX4 90 yX4_requirePlace wsX4_requirePlace) := goodIn_app (goodIn_of _ (by decide +kernel)) ggX4_move_X4_requirePlace
theorem dX4_move_0 : decode cX4_move 0 = .ok (.aload_n 0, 1) := by decide +kernel
theorem dX4_move_1 : decode cX4_move 1 = .ok (.iload_n 1, 1) := by decide +kernel
theorem dX4_move_2 : decode cX4_move 2 = .ok (.invokevirtual 101, 3) := by decide +kernel
theorem dX4_move_5 : decode cX4_move 5 = .ok (.iload_n 2, 1) := by decide +kernel
theorem dX4_move_6 : decode cX4_move 6 = .ok (.iload_n 3, 1) := by decide +kernel
theorem dX4_move_7 : decode cX4_move 7 = .ok (.invokestatic 90, 3) := by decide +kernel
theorem dX4_move_10 : decode cX4_move 10 = .ok (.aload_n 0, 1) := by decide +kernel
theorem dX4_move_11 : decode cX4_move 11 = .ok (.getfield 9, 3) := by decide +kernel
theorem dX4_move_14 : decode cX4_move 14 = .ok (.iload_n 1, 1) := by decide +kernel
theorem dX4_move_15 : decode cX4_move 15 = .ok (.iload_n 2, 1) := by decide +kernel
theorem dX4_move_16 : decode cX4_move 16 = .ok (.iastore, 1) := by decide +kernel
theorem dX4_move_17 : decode cX4_move 17 = .ok (.aload_n 0, 1) := by decide +kernel
theorem dX4_move_18 : decode cX4_move 18 = .ok (.getfield 13, 3) := by decide +kernel
theorem dX4_move_21 : decode cX4_move 21 = .ok (.iload_n 1, 1) := by decide +kernel
theorem dX4_move_22 : decode cX4_move 22 = .ok (.iload_n 3, 1) := by decide +kernel
theorem dX4_move_23 : decode cX4_move 23 = .ok (.iastore, 1) := by decide +kernel
theorem dX4_move_24 : decode cX4_move 24 = .ok (.return_, 1) := by decide +kernel
set_option maxRecDepth 20000 in
theorem ggX4_toggle_X4_requireMember : GoodIn wsX4_toggle wsX4_requireMember := goodIn_ca (goodIn_r _ [6, 7, 8, 9, 10, 11, 12, 13, 14, 15, 16, 17, 18, 19, 20, 21, 22, 23, 24, 25, 26, 27] (by decide +kernel) (by decide +kernel)) (goodIn_sub (fun _ h => List.mem_cons_of_mem _ (List.mem_append_right _ h)) (by decide +kernel))
set_option maxRecDepth 20000 in
theorem gX4_toggle_X4_requireMember : GoodIn wsX4_toggle (wsV RX4 101 RX4 yX4_requireMember wsX4_requireMember) := goodIn_app (goodIn_of _ (by decide +kernel)) ggX4_toggle_X4_requireMember
theorem dX4_toggle_0 : decode cX4_toggle 0 = .ok (.aload_n 0, 1) := by decide +kernel
theorem dX4_toggle_1 : decode cX4_toggle 1 = .ok (.iload_n 1, 1) := by decide +kernel
theorem dX4_toggle_2 : decode cX4_toggle 2 = .ok (.invokevirtual 101, 3) := by decide +kernel
theorem dX4_toggle_5 : decode cX4_toggle 5 = .ok (.aload_n 0, 1) := by decide +kernel
theorem dX4_toggle_6 : decode cX4_toggle 6 = .ok (.getfield 16, 3) := by decide +kernel
theorem dX4_toggle_9 : decode cX4_toggle 9 = .ok (.iload_n 1, 1) := by decide +kernel
theorem dX4_toggle_10 : decode cX4_toggle 10 = .ok (.aload_n 0, 1) := by decide +kernel
theorem dX4_toggle_11 : decode cX4_toggle 11 = .ok (.getfield 16, 3) := by decide +kernel
theorem dX4_toggle_14 : decode cX4_toggle 14 = .ok (.iload_n 1, 1) := by decide +kernel
theorem dX4_toggle_15 : decode cX4_toggle 15 = .ok (.baload, 1) := by decide +kernel
theorem dX4_toggle_16 : decode cX4_toggle 16 = .ok (.ifCond .ne 7, 3) := by decide +kernel
theorem dX4_toggle_19 : decode cX4_toggle 19 = .ok (.iconst 1, 1) := by decide +kernel
theorem dX4_toggle_20 : decode cX4_toggle 20 = .ok (.goto 4, 3) := by decide +kernel
theorem dX4_toggle_23 : decode cX4_toggle 23 = .ok (.iconst 0, 1) := by decide +kernel
theorem dX4_toggle_24 : decode cX4_toggle 24 = .ok (.bastore, 1) := by decide +kernel
theorem dX4_toggle_25 : decode cX4_toggle 25 = .ok (.aload_n 0, 1) := by decide +kernel
theorem dX4_toggle_26 : decode cX4_toggle 26 = .ok (.getfield 16, 3) := by decide +kernel
theorem dX4_toggle_29 : decode cX4_toggle 29 = .ok (.iload_n 1, 1) := by decide +kernel
theorem dX4_toggle_30 : decode cX4_toggle 30 = .ok (.baload, 1) := by decide +kernel
theorem dX4_toggle_31 : decode cX4_toggle 31 = .ok (.ireturn, 1) := by decide +kernel
set_option maxRecDepth 20000 in
theorem ggX4_setPriority_X4_requireMember : GoodIn wsX4_setPriority wsX4_requireMember := goodIn_ca (goodIn_r _ [6, 7, 8, 9, 15, 16, 17, 18, 19, 20, 21, 22, 23, 24, 25, 26, 27, 28, 29, 30, 31, 32] (by decide +kernel) (by decide +kernel)) (goodIn_sub (fun _ h => List.mem_cons_of_mem _ (List.mem_append_left _ (List.mem_append_right _ h))) (by decide +kernel))
set_option maxRecDepth 20000 in
theorem gX4_setPriority_X4_requireMember : GoodIn wsX4_setPriority (wsV RX4 101 RX4 yX4_requireMember wsX4_requireMember) := goodIn_app (goodIn_of _ (by decide +kernel)) ggX4_setPriority_X4_requireMember
set_option maxRecDepth 20000 in
theorem ggX4_setPriority_X4_requireWithin : GoodIn wsX4_setPriority wsX4_requireWithin := goodIn_ca (goodIn_r _ [12, 13, 14] (by decide +kernel) (by decide +kernel)) (goodIn_sub (fun _ h => List.mem_cons_of_mem _ (List.mem_append_right _ h)) (by decide +kernel))
set_option maxRecDepth 20000 in
theorem gX4_setPriority_X4_requireWithin : GoodIn wsX4_setPriority (va_wsS RX4 105 yX4_requireWithin wsX4_requireWithin) := goodIn_app (goodIn_of _ (by decide +kernel)) ggX4_setPriority_X4_requireWithin
theorem dX4_setPriority_0 : decode cX4_setPriority 0 = .ok (.aload_n 0, 1) := by decide +kernel
theorem dX4_setPriority_1 : decode cX4_setPriority 1 = .ok (.iload_n 1, 1) := by decide +kernel
theorem dX4_setPriority_2 : decode cX4_setPriority 2 = .ok (.invokevirtual 101, 3) := by decide +kernel
theorem dX4_setPriority_5 : decode cX4_setPriority 5 = .ok (.iload_n 2, 1) := by decide +kernel
theorem dX4_setPriority_6 : decode cX4_setPriority 6 = .ok (.iconst 0, 1) := by decide +kernel
theorem dX4_setPriority_7 : decode cX4_setPriority 7 = .ok (.bipush 99, 2) := by decide +kernel
theorem dX4_setPriority_9 : decode cX4_setPriority 9 = .ok (.invokestatic 105, 3) := by decide +kernel
theorem dX4_setPriority_12 : decode cX4_setPriority 12 = .ok (.aload_n 0, 1) := by decide +kernel
theorem dX4_setPriority_13 : decode cX4_setPriority 13 = .ok (.getfield 20, 3) := by decide +kernel
theorem dX4_setPriority_16 : decode cX4_setPriority 16 = .ok (.iload_n 1, 1) := by decide +kernel
theorem dX4_setPriority_17 : decode cX4_setPriority 17 = .ok (.iaload, 1) := by decide +kernel
theorem dX4_setPriority_18 : decode cX4_setPriority 18 = .ok (.istore_n 3, 1) := by decide +kernel
theorem dX4_setPriority_19 : decode cX4_setPriority 19 = .ok (.aload_n 0, 1) := by decide +kernel
theorem dX4_setPriority_20 : decode cX4_setPriority 20 = .ok (.getfield 20, 3) := by decide +kernel
theorem dX4_setPriority_23 : decode cX4_setPriority 23 = .ok (.iload_n 1, 1) := by decide +kernel
theorem dX4_setPriority_24 : decode cX4_setPriority 24 = .ok (.iload_n 2, 1) := by decide +kernel
theorem dX4_setPriority_25 : decode cX4_setPriority 25 = .ok (.iastore, 1) := by decide +kernel
theorem dX4_setPriority_26 : decode cX4_setPriority 26 = .ok (.iload_n 3, 1) := by decide +kernel
theorem dX4_setPriority_27 : decode cX4_setPriority 27 = .ok (.ireturn, 1) := by decide +kernel
set_option maxRecDepth 20000 in
theorem ggX4_setRange_X4_requireWithin : GoodIn wsX4_setRange wsX4_requireWithin := goodIn_ca (goodIn_r _ [5, 6, 7] (by decide +kernel) (by decide +kernel)) (goodIn_sub (fun _ h => List.mem_cons_of_mem _ (List.mem_append_right _ h)) (by decide +kernel))
set_option maxRecDepth 20000 in
theorem gX4_setRange_X4_requireWithin : GoodIn wsX4_setRange (va_wsS RX4 105 yX4_requireWithin wsX4_requireWithin) := goodIn_app (goodIn_of _ (by decide +kernel)) ggX4_setRange_X4_requireWithin
theorem dX4_setRange_0 : decode cX4_setRange 0 = .ok (.iload_n 1, 1) := by decide +kernel
theorem dX4_setRange_1 : decode cX4_setRange 1 = .ok (.iconst 0, 1) := by decide +kernel
theorem dX4_setRange_2 : decode cX4_setRange 2 = .ok (.sipush 3000, 3) := by decide +kernel
theorem dX4_setRange_5 : decode cX4_setRange 5 = .ok (.invokestatic 105, 3) := by decide +kernel
theorem dX4_setRange_8 : decode cX4_setRange 8 = .ok (.aload_n 0, 1) := by decide +kernel
theorem dX4_setRange_9 : decode cX4_setRange 9 = .ok (.getfield 51, 3) := by decide +kernel
theorem dX4_setRange_12 : decode cX4_setRange 12 = .ok (.istore_n 2, 1) := by decide +kernel
theorem dX4_setRange_13 : decode cX4_setRange 13 = .ok (.aload_n 0, 1) := by decide +kernel
theorem dX4_setRange_14 : decode cX4_setRange 14 = .ok (.iload_n 1, 1) := by decide +kernel
theorem dX4_setRange_15 : decode cX4_setRange 15 = .ok (.putfield 51, 3) := by decide +kernel
theorem dX4_setRange_18 : decode cX4_setRange 18 = .ok (.iload_n 2, 1) := by decide +kernel
theorem dX4_setRange_19 : decode cX4_setRange 19 = .ok (.ireturn, 1) := by decide +kernel
set_option maxRecDepth 20000 in
theorem ggX4_block_X4_requireUnlike : GoodIn wsX4_block wsX4_requireUnlike := goodIn_ca (goodIn_ca (goodIn_r _ [6, 7, 8, 9, 10, 11, 5, 12, 13, 14, 15, 36, 37, 38, 39, 40, 41, 42, 43, 44, 45, 46, 47, 48, 49, 50, 51, 52, 53] (by decide +kernel) (by decide +kernel)) (goodIn_sub (fun _ h => List.mem_cons_of_mem _ (List.mem_append_left _ (List.mem_append_right _ h))) (by decide +kernel))) (goodIn_sub (fun _ h => List.mem_cons_of_mem _ (List.mem_append_right _ h)) (by decide +kernel))
set_option maxRecDepth 20000 in
theorem gX4_block_X4_requireUnlike : GoodIn wsX4_block (wsV RX4 109 RX4 yX4_requireUnlike wsX4_requireUnlike) := goodIn_app (goodIn_of _ (by decide +kernel)) ggX4_block_X4_requireUnlike
set_option maxRecDepth 20000 in
theorem ggX4_block_X1_joins : GoodIn wsX4_block wsX1_joins := goodIn_r _ [19, 20, 21, 22, 17, 23, 54] (by decide +kernel) (by decide +kernel)
set_option maxRecDepth 20000 in
theorem gX4_block_X1_joins_n112 : GoodIn wsX4_block (wsX1_joins) := ggX4_block_X1_joins
set_option maxRecDepth 20000 in
theorem ggX4_block_X1_cut : GoodIn wsX4_block wsX1_cut := goodIn_r _ [26, 20, 27, 28, 17, 29, 54] (by decide +kernel) (by decide +kernel)
set_option maxRecDepth 20000 in
theorem gX4_block_X1_cut_n116 : GoodIn wsX4_block (wsX1_cut) := ggX4_block_X1_cut
set_option maxRecDepth 20000 in
theorem ggX4_block_X1_join : GoodIn wsX4_block wsX1_join := goodIn_r _ [32, 20, 33, 34, 17, 35, 54] (by decide +kernel) (by decide +kernel)
set_option maxRecDepth 20000 in
theorem gX4_block_X1_join_n119 : GoodIn wsX4_block (wsX1_join) := ggX4_block_X1_join
theorem dX4_block_0 : decode cX4_block 0 = .ok (.aload_n 0, 1) := by decide +kernel
theorem dX4_block_1 : decode cX4_block 1 = .ok (.iload_n 1, 1) := by decide +kernel
theorem dX4_block_2 : decode cX4_block 2 = .ok (.iload_n 2, 1) := by decide +kernel
theorem dX4_block_3 : decode cX4_block 3 = .ok (.invokevirtual 109, 3) := by decide +kernel
theorem dX4_block_6 : decode cX4_block 6 = .ok (.aload_n 0, 1) := by decide +kernel
theorem dX4_block_7 : decode cX4_block 7 = .ok (.getfield 43, 3) := by decide +kernel
theorem dX4_block_10 : decode cX4_block 10 = .ok (.iload_n 1, 1) := by decide +kernel
theorem dX4_block_11 : decode cX4_block 11 = .ok (.iload_n 2, 1) := by decide +kernel
theorem dX4_block_12 : decode cX4_block 12 = .ok (.invokevirtual 112, 3) := by decide +kernel
theorem dX4_block_15 : decode cX4_block 15 = .ok (.ifCond .eq 14, 3) := by decide +kernel
theorem dX4_block_18 : decode cX4_block 18 = .ok (.aload_n 0, 1) := by decide +kernel
theorem dX4_block_19 : decode cX4_block 19 = .ok (.getfield 43, 3) := by decide +kernel
theorem dX4_block_22 : decode cX4_block 22 = .ok (.iload_n 1, 1) := by decide +kernel
theorem dX4_block_23 : decode cX4_block 23 = .ok (.iload_n 2, 1) := by decide +kernel
theorem dX4_block_24 : decode cX4_block 24 = .ok (.invokevirtual 116, 3) := by decide +kernel
theorem dX4_block_27 : decode cX4_block 27 = .ok (.iconst 0, 1) := by decide +kernel
theorem dX4_block_28 : decode cX4_block 28 = .ok (.ireturn, 1) := by decide +kernel
theorem dX4_block_29 : decode cX4_block 29 = .ok (.aload_n 0, 1) := by decide +kernel
theorem dX4_block_30 : decode cX4_block 30 = .ok (.getfield 43, 3) := by decide +kernel
theorem dX4_block_33 : decode cX4_block 33 = .ok (.iload_n 1, 1) := by decide +kernel
theorem dX4_block_34 : decode cX4_block 34 = .ok (.iload_n 2, 1) := by decide +kernel
theorem dX4_block_35 : decode cX4_block 35 = .ok (.invokevirtual 119, 3) := by decide +kernel
theorem dX4_block_38 : decode cX4_block 38 = .ok (.iconst 1, 1) := by decide +kernel
theorem dX4_block_39 : decode cX4_block 39 = .ok (.ireturn, 1) := by decide +kernel
theorem dX4_members_0 : decode cX4_members 0 = .ok (.aload_n 0, 1) := by decide +kernel
theorem dX4_members_1 : decode cX4_members 1 = .ok (.getfield 47, 3) := by decide +kernel
theorem dX4_members_4 : decode cX4_members 4 = .ok (.ireturn, 1) := by decide +kernel
set_option maxRecDepth 20000 in
theorem ggX4_xOf_X4_requireMember : GoodIn wsX4_xOf wsX4_requireMember := goodIn_ca (goodIn_r _ [6, 7, 8, 9, 10, 11, 12, 13, 14, 15, 16, 17, 18, 19, 20, 21, 22, 23, 24, 25, 26, 27] (by decide +kernel) (by decide +kernel)) (goodIn_sub (fun _ h => List.mem_cons_of_mem _ (List.mem_append_right _ h)) (by decide +kernel))
set_option maxRecDepth 20000 in
theorem gX4_xOf_X4_requireMember : GoodIn wsX4_xOf (wsV RX4 101 RX4 yX4_requireMember wsX4_requireMember) := goodIn_app (goodIn_of _ (by decide +kernel)) ggX4_xOf_X4_requireMember
theorem dX4_xOf_0 : decode cX4_xOf 0 = .ok (.aload_n 0, 1) := by decide +kernel
theorem dX4_xOf_1 : decode cX4_xOf 1 = .ok (.iload_n 1, 1) := by decide +kernel
theorem dX4_xOf_2 : decode cX4_xOf 2 = .ok (.invokevirtual 101, 3) := by decide +kernel
theorem dX4_xOf_5 : decode cX4_xOf 5 = .ok (.aload_n 0, 1) := by decide +kernel
theorem dX4_xOf_6 : decode cX4_xOf 6 = .ok (.getfield 9, 3) := by decide +kernel
theorem dX4_xOf_9 : decode cX4_xOf 9 = .ok (.iload_n 1, 1) := by decide +kernel
theorem dX4_xOf_10 : decode cX4_xOf 10 = .ok (.iaload, 1) := by decide +kernel
theorem dX4_xOf_11 : decode cX4_xOf 11 = .ok (.ireturn, 1) := by decide +kernel
set_option maxRecDepth 20000 in
theorem ggX4_yOf_X4_requireMember : GoodIn wsX4_yOf wsX4_requireMember := goodIn_ca (goodIn_r _ [6, 7, 8, 9, 10, 11, 12, 13, 14, 15, 16, 17, 18, 19, 20, 21, 22, 23, 24, 25, 26, 27] (by decide +kernel) (by decide +kernel)) (goodIn_sub (fun _ h => List.mem_cons_of_mem _ (List.mem_append_right _ h)) (by decide +kernel))
set_option maxRecDepth 20000 in
theorem gX4_yOf_X4_requireMember : GoodIn wsX4_yOf (wsV RX4 101 RX4 yX4_requireMember wsX4_requireMember) := goodIn_app (goodIn_of _ (by decide +kernel)) ggX4_yOf_X4_requireMember
theorem dX4_yOf_0 : decode cX4_yOf 0 = .ok (.aload_n 0, 1) := by decide +kernel
theorem dX4_yOf_1 : decode cX4_yOf 1 = .ok (.iload_n 1, 1) := by decide +kernel
theorem dX4_yOf_2 : decode cX4_yOf 2 = .ok (.invokevirtual 101, 3) := by decide +kernel
theorem dX4_yOf_5 : decode cX4_yOf 5 = .ok (.aload_n 0, 1) := by decide +kernel
theorem dX4_yOf_6 : decode cX4_yOf 6 = .ok (.getfield 13, 3) := by decide +kernel
theorem dX4_yOf_9 : decode cX4_yOf 9 = .ok (.iload_n 1, 1) := by decide +kernel
theorem dX4_yOf_10 : decode cX4_yOf 10 = .ok (.iaload, 1) := by decide +kernel
theorem dX4_yOf_11 : decode cX4_yOf 11 = .ok (.ireturn, 1) := by decide +kernel
set_option maxRecDepth 20000 in
theorem ggX4_areLinked_X4_requireMember : GoodIn wsX4_areLinked wsX4_requireMember := goodIn_ca (goodIn_r _ [5, 6, 7, 8, 30, 31, 32, 33, 34, 35, 36, 37, 38, 39, 40, 41, 42, 43, 44, 45, 46, 47] (by decide +kernel) (by decide +kernel)) (goodIn_sub (fun _ h => List.mem_cons_of_mem _ (List.mem_append_right _ h)) (by decide +kernel))
set_option maxRecDepth 20000 in
theorem gX4_areLinked_X4_requireMember : GoodIn wsX4_areLinked (wsV RX4 101 RX4 yX4_requireMember wsX4_requireMember) := goodIn_app (goodIn_of _ (by decide +kernel)) ggX4_areLinked_X4_requireMember
set_option maxRecDepth 20000 in
theorem ggX4_areLinked_X4_hears : GoodIn wsX4_areLinked wsX4_hears := goodIn_r _ [12, 13, 14, 15, 16, 17, 18, 19, 20, 21, 22, 23, 24, 25, 26, 4, 27, 28, 29, 30, 31, 32, 33, 34, 35, 36, 37, 38, 39, 40, 41, 42, 43, 44, 45, 46, 47, 48] (by decide +kernel) (by decide +kernel)
set_option maxRecDepth 20000 in
theorem gX4_areLinked_X4_hears : GoodIn wsX4_areLinked (wsV RX4 122 RX4 yX4_hears wsX4_hears) := goodIn_app (goodIn_of _ (by decide +kernel)) ggX4_areLinked_X4_hears
theorem dX4_areLinked_0 : decode cX4_areLinked 0 = .ok (.aload_n 0, 1) := by decide +kernel
theorem dX4_areLinked_1 : decode cX4_areLinked 1 = .ok (.iload_n 1, 1) := by decide +kernel
theorem dX4_areLinked_2 : decode cX4_areLinked 2 = .ok (.invokevirtual 101, 3) := by decide +kernel
theorem dX4_areLinked_5 : decode cX4_areLinked 5 = .ok (.aload_n 0, 1) := by decide +kernel
theorem dX4_areLinked_6 : decode cX4_areLinked 6 = .ok (.iload_n 2, 1) := by decide +kernel
theorem dX4_areLinked_7 : decode cX4_areLinked 7 = .ok (.invokevirtual 101, 3) := by decide +kernel
theorem dX4_areLinked_10 : decode cX4_areLinked 10 = .ok (.aload_n 0, 1) := by decide +kernel
theorem dX4_areLinked_11 : decode cX4_areLinked 11 = .ok (.iload_n 1, 1) := by decide +kernel
theorem dX4_areLinked_12 : decode cX4_areLinked 12 = .ok (.iload_n 2, 1) := by decide +kernel
theorem dX4_areLinked_13 : decode cX4_areLinked 13 = .ok (.invokevirtual 122, 3) := by decide +kernel
theorem dX4_areLinked_16 : decode cX4_areLinked 16 = .ok (.ireturn, 1) := by decide +kernel
set_option maxRecDepth 20000 in
theorem ggX4_links_X4_drawNet : GoodIn wsX4_links wsX4_drawNet := goodIn_r _ [6, 1, 7, 8, 9, 10, 11, 12, 13, 14, 15, 16, 17, 18, 19, 5, 20, 21, 22, 23, 24, 25, 26, 27, 28, 29, 30, 31, 32, 33, 34, 35, 36, 37, 38, 39, 40, 41, 56, 57, 58, 59, 60, 61, 62, 63, 64, 65, 66, 67, 68, 69, 70, 71, 72, 73, 74] (by decide +kernel) (by decide +kernel)
set_option maxRecDepth 20000 in
theorem gX4_links_X4_drawNet : GoodIn wsX4_links (wsV RX4 125 RX4 yX4_drawNet wsX4_drawNet) := goodIn_app (goodIn_of _ (by decide +kernel)) ggX4_links_X4_drawNet
set_option maxRecDepth 20000 in
theorem ggX4_links_X1_pairCount : GoodIn wsX4_links wsX1_pairCount := goodIn_r _ [44, 45, 46, 47, 9, 48, 12, 49, 50, 51, 52, 53, 54, 55, 74] (by decide +kernel) (by decide +kernel)
set_option maxRecDepth 20000 in
theorem gX4_links_X1_pairCount_n128 : GoodIn wsX4_links (wsX1_pairCount) := ggX4_links_X1_pairCount
theorem dX4_links_0 : decode cX4_links 0 = .ok (.aload_n 0, 1) := by decide +kernel
theorem dX4_links_1 : decode cX4_links 1 = .ok (.invokevirtual 125, 3) := by decide +kernel
theorem dX4_links_4 : decode cX4_links 4 = .ok (.aload_n 0, 1) := by decide +kernel
theorem dX4_links_5 : decode cX4_links 5 = .ok (.getfield 54, 3) := by decide +kernel
theorem dX4_links_8 : decode cX4_links 8 = .ok (.invokevirtual 128, 3) := by decide +kernel
theorem dX4_links_11 : decode cX4_links 11 = .ok (.ireturn, 1) := by decide +kernel
set_option maxRecDepth 20000 in
theorem ggX4_degree_X4_requireMember : GoodIn wsX4_degree wsX4_requireMember := goodIn_ca (goodIn_r _ [6, 7, 8, 9, 58, 59, 60, 61, 62, 63, 64, 65, 66, 67, 68, 69, 70, 71, 72, 73, 74, 75] (by decide +kernel) (by decide +kernel)) (goodIn_sub (fun _ h => List.mem_cons_of_mem _ (List.mem_append_right _ h)) (by decide +kernel))
set_option maxRecDepth 20000 in
theorem gX4_degree_X4_requireMember : GoodIn wsX4_degree (wsV RX4 101 RX4 yX4_requireMember wsX4_requireMember) := goodIn_app (goodIn_of _ (by decide +kernel)) ggX4_degree_X4_requireMember
set_option maxRecDepth 20000 in
theorem ggX4_degree_X4_drawNet : GoodIn wsX4_degree wsX4_drawNet := goodIn_r _ [13, 1, 9, 14, 15, 16, 17, 18, 19, 20, 21, 22, 23, 24, 25, 5, 26, 27, 28, 29, 30, 31, 32, 33, 34, 35, 36, 37, 38, 39, 40, 41, 42, 43, 44, 45, 46, 47, 58, 59, 60, 61, 62, 63, 64, 65, 66, 67, 68, 69, 70, 71, 72, 73, 74, 75, 76] (by decide +kernel) (by decide +kernel)
set_option maxRecDepth 20000 in
theorem gX4_degree_X4_drawNet : GoodIn wsX4_degree (wsV RX4 125 RX4 yX4_drawNet wsX4_drawNet) := goodIn_app (goodIn_of _ (by decide +kernel)) ggX4_degree_X4_drawNet
set_option maxRecDepth 20000 in
theorem ggX4_degree_X1_degreeOf : GoodIn wsX4_degree wsX1_degreeOf := goodIn_r _ [50, 18, 51, 52, 53, 54, 55, 56, 57, 76] (by decide +kernel) (by decide +kernel)
set_option maxRecDepth 20000 in
theorem gX4_degree_X1_degreeOf_n132 : GoodIn wsX4_degree (wsX1_degreeOf) := ggX4_degree_X1_degreeOf
theorem dX4_degree_0 : decode cX4_degree 0 = .ok (.aload_n 0, 1) := by decide +kernel
theorem dX4_degree_1 : decode cX4_degree 1 = .ok (.iload_n 1, 1) := by decide +kernel
theorem dX4_degree_2 : decode cX4_degree 2 = .ok (.invokevirtual 101, 3) := by decide +kernel
theorem dX4_degree_5 : decode cX4_degree 5 = .ok (.aload_n 0, 1) := by decide +kernel
theorem dX4_degree_6 : decode cX4_degree 6 = .ok (.invokevirtual 125, 3) := by decide +kernel
theorem dX4_degree_9 : decode cX4_degree 9 = .ok (.aload_n 0, 1) := by decide +kernel
theorem dX4_degree_10 : decode cX4_degree 10 = .ok (.getfield 54, 3) := by decide +kernel
theorem dX4_degree_13 : decode cX4_degree 13 = .ok (.iload_n 1, 1) := by decide +kernel
theorem dX4_degree_14 : decode cX4_degree 14 = .ok (.invokevirtual 132, 3) := by decide +kernel
theorem dX4_degree_17 : decode cX4_degree 17 = .ok (.ireturn, 1) := by decide +kernel
set_option maxRecDepth 20000 in
theorem ggX4_groups_X4_drawNet : GoodIn wsX4_groups wsX4_drawNet := goodIn_r _ [5, 6, 7, 8, 9, 10, 11, 12, 13, 14, 15, 16, 17, 18, 19, 4, 20, 21, 22, 23, 24, 25, 26, 27, 28, 29, 30, 31, 32, 33, 34, 35, 36, 37, 38, 39, 40, 41, 49, 50, 51, 52, 53, 54, 55, 56, 57, 58, 59, 60, 61, 62, 63, 64, 65, 66, 67] (by decide +kernel) (by decide +kernel)
set_option maxRecDepth 20000 in
theorem gX4_groups_X4_drawNet : GoodIn wsX4_groups (wsV RX4 125 RX4 yX4_drawNet wsX4_drawNet) := goodIn_app (goodIn_of _ (by decide +kernel)) ggX4_groups_X4_drawNet
set_option maxRecDepth 20000 in
theorem ggX4_groups_X4_countGroups : GoodIn wsX4_groups wsX4_countGroups := goodIn_r _ [45, 7, 21, 6, 28, 9, 29, 46, 47, 48, 12, 39, 40, 41, 27, 49, 50, 51, 52, 53, 54, 55, 56, 57, 58, 59, 60, 61, 62, 63, 64, 65, 66, 67] (by decide +kernel) (by decide +kernel)
set_option maxRecDepth 20000 in
theorem gX4_groups_X4_countGroups : GoodIn wsX4_groups (wsV RX4 136 RX4 yX4_countGroups wsX4_countGroups) := goodIn_app (goodIn_of _ (by decide +kernel)) ggX4_groups_X4_countGroups
theorem dX4_groups_0 : decode cX4_groups 0 = .ok (.aload_n 0, 1) := by decide +kernel
theorem dX4_groups_1 : decode cX4_groups 1 = .ok (.invokevirtual 125, 3) := by decide +kernel
theorem dX4_groups_4 : decode cX4_groups 4 = .ok (.aload_n 0, 1) := by decide +kernel
theorem dX4_groups_5 : decode cX4_groups 5 = .ok (.invokevirtual 136, 3) := by decide +kernel
theorem dX4_groups_8 : decode cX4_groups 8 = .ok (.ireturn, 1) := by decide +kernel
set_option maxRecDepth 20000 in
theorem ggX4_leader_X4_requireMember : GoodIn wsX4_leader wsX4_requireMember := goodIn_ca (goodIn_r _ [8, 9, 10, 3, 56, 57, 58, 59, 60, 61, 62, 63, 64, 65, 66, 67, 68, 69, 70, 71, 72, 73] (by decide +kernel) (by decide +kernel)) (goodIn_sub (fun _ h => List.mem_cons_of_mem _ (List.mem_append_right _ h)) (by decide +kernel))
set_option maxRecDepth 20000 in
theorem gX4_leader_X4_requireMember : GoodIn wsX4_leader (wsV RX4 101 RX4 yX4_requireMember wsX4_requireMember) := goodIn_app (goodIn_of _ (by decide +kernel)) ggX4_leader_X4_requireMember
set_option maxRecDepth 20000 in
theorem ggX4_leader_X4_drawNet : GoodIn wsX4_leader wsX4_drawNet := goodIn_r _ [14, 2, 3, 15, 16, 17, 18, 19, 20, 21, 22, 23, 24, 25, 26, 7, 27, 1, 28, 29, 30, 31, 32, 33, 34, 35, 36, 37, 38, 39, 40, 41, 42, 43, 44, 45, 46, 47, 56, 57, 58, 59, 60, 61, 62, 63, 64, 65, 66, 67, 68, 69, 70, 71, 72, 73, 74] (by decide +kernel) (by decide +kernel)
set_option maxRecDepth 20000 in
theorem gX4_leader_X4_drawNet : GoodIn wsX4_leader (wsV RX4 125 RX4 yX4_drawNet wsX4_drawNet) := goodIn_app (goodIn_of _ (by decide +kernel)) ggX4_leader_X4_drawNet
set_option maxRecDepth 20000 in
theorem ggX4_leader_X1_groupOf : GoodIn wsX4_leader wsX1_groupOf := goodIn_r _ [50, 19, 45, 46, 16, 47, 33, 34, 35, 74] (by decide +kernel) (by decide +kernel)
set_option maxRecDepth 20000 in
theorem gX4_leader_X1_groupOf_n139 : GoodIn wsX4_leader (wsX1_groupOf) := ggX4_leader_X1_groupOf
set_option maxRecDepth 20000 in
theorem ggX4_leader_X1_holds : GoodIn wsX4_leader wsX1_holds := goodIn_r _ [35] (by decide +kernel) (by decide +kernel)
set_option maxRecDepth 20000 in
theorem gX4_leader_X1_holds_n142 : GoodIn wsX4_leader (wsX1_holds) := ggX4_leader_X1_holds
set_option maxRecDepth 20000 in
theorem ggX4_leader_X4_outranks : GoodIn wsX4_leader wsX4_outranks := goodIn_r _ [54, 55, 56, 57, 58, 59, 60, 61, 62, 63, 64, 65, 66, 67, 68, 69, 70, 71, 72, 73] (by decide +kernel) (by decide +kernel)
set_option maxRecDepth 20000 in
theorem gX4_leader_X4_outranks : GoodIn wsX4_leader (wsV RX4 145 RX4 yX4_outranks wsX4_outranks) := goodIn_app (goodIn_of _ (by decide +kernel)) ggX4_leader_X4_outranks
theorem dX4_leader_0 : decode cX4_leader 0 = .ok (.aload_n 0, 1) := by decide +kernel
theorem dX4_leader_1 : decode cX4_leader 1 = .ok (.iload_n 1, 1) := by decide +kernel
theorem dX4_leader_2 : decode cX4_leader 2 = .ok (.invokevirtual 101, 3) := by decide +kernel
theorem dX4_leader_5 : decode cX4_leader 5 = .ok (.aload_n 0, 1) := by decide +kernel
theorem dX4_leader_6 : decode cX4_leader 6 = .ok (.getfield 16, 3) := by decide +kernel
theorem dX4_leader_9 : decode cX4_leader 9 = .ok (.iload_n 1, 1) := by decide +kernel
theorem dX4_leader_10 : decode cX4_leader 10 = .ok (.baload, 1) := by decide +kernel
theorem dX4_leader_11 : decode cX4_leader 11 = .ok (.ifCond .ne 5, 3) := by decide +kernel
theorem dX4_leader_14 : decode cX4_leader 14 = .ok (.iconst (-1), 1) := by decide +kernel
theorem dX4_leader_15 : decode cX4_leader 15 = .ok (.ireturn, 1) := by decide +kernel
theorem dX4_leader_16 : decode cX4_leader 16 = .ok (.aload_n 0, 1) := by decide +kernel
theorem dX4_leader_17 : decode cX4_leader 17 = .ok (.invokevirtual 125, 3) := by decide +kernel
theorem dX4_leader_20 : decode cX4_leader 20 = .ok (.aload_n 0, 1) := by decide +kernel
theorem dX4_leader_21 : decode cX4_leader 21 = .ok (.getfield 54, 3) := by decide +kernel
theorem dX4_leader_24 : decode cX4_leader 24 = .ok (.iload_n 1, 1) := by decide +kernel
theorem dX4_leader_25 : decode cX4_leader 25 = .ok (.invokevirtual 139, 3) := by decide +kernel
theorem dX4_leader_28 : decode cX4_leader 28 = .ok (.istore_n 2, 1) := by decide +kernel
theorem dX4_leader_29 : decode cX4_leader 29 = .ok (.iload_n 1, 1) := by decide +kernel
theorem dX4_leader_30 : decode cX4_leader 30 = .ok (.istore_n 3, 1) := by decide +kernel
theorem dX4_leader_31 : decode cX4_leader 31 = .ok (.iconst 0, 1) := by decide +kernel
theorem dX4_leader_32 : decode cX4_leader 32 = .ok (.istore 4, 2) := by decide +kernel
theorem dX4_leader_34 : decode cX4_leader 34 = .ok (.iload 4, 2) := by decide +kernel
theorem dX4_leader_36 : decode cX4_leader 36 = .ok (.aload_n 0, 1) := by decide +kernel
theorem dX4_leader_37 : decode cX4_leader 37 = .ok (.getfield 47, 3) := by decide +kernel
theorem dX4_leader_40 : decode cX4_leader 40 = .ok (.if_icmp .ge 31, 3) := by decide +kernel
theorem dX4_leader_43 : decode cX4_leader 43 = .ok (.iload_n 2, 1) := by decide +kernel
theorem dX4_leader_44 : decode cX4_leader 44 = .ok (.iload 4, 2) := by decide +kernel
theorem dX4_leader_46 : decode cX4_leader 46 = .ok (.invokestatic 142, 3) := by decide +kernel
theorem dX4_leader_49 : decode cX4_leader 49 = .ok (.ifCond .eq 16, 3) := by decide +kernel
theorem dX4_leader_52 : decode cX4_leader 52 = .ok (.aload_n 0, 1) := by decide +kernel
theorem dX4_leader_53 : decode cX4_leader 53 = .ok (.iload 4, 2) := by decide +kernel
theorem dX4_leader_55 : decode cX4_leader 55 = .ok (.iload_n 3, 1) := by decide +kernel
theorem dX4_leader_56 : decode cX4_leader 56 = .ok (.invokevirtual 145, 3) := by decide +kernel
theorem dX4_leader_59 : decode cX4_leader 59 = .ok (.ifCond .eq 6, 3) := by decide +kernel
theorem dX4_leader_62 : decode cX4_leader 62 = .ok (.iload 4, 2) := by decide +kernel
theorem dX4_leader_64 : decode cX4_leader 64 = .ok (.istore_n 3, 1) := by decide +kernel
theorem dX4_leader_65 : decode cX4_leader 65 = .ok (.iinc 4 1, 3) := by decide +kernel
theorem dX4_leader_68 : decode cX4_leader 68 = .ok (.goto (-34), 3) := by decide +kernel
theorem dX4_leader_71 : decode cX4_leader 71 = .ok (.iload_n 3, 1) := by decide +kernel
theorem dX4_leader_72 : decode cX4_leader 72 = .ok (.ireturn, 1) := by decide +kernel
set_option maxRecDepth 20000 in
theorem ggX4_trees_X4_drawNet : GoodIn wsX4_trees wsX4_drawNet := goodIn_r _ [7, 2, 8, 9, 10, 11, 12, 13, 14, 15, 16, 17, 18, 19, 20, 6, 21, 22, 23, 24, 25, 26, 27, 28, 29, 30, 31, 32, 33, 34, 35, 36, 37, 38, 39, 40, 41, 42, 80, 81, 82, 83, 84, 85, 86, 87, 88, 89, 90, 91, 92, 93, 94, 95, 96, 97, 98] (by decide +kernel) (by decide +kernel)
set_option maxRecDepth 20000 in
theorem gX4_trees_X4_drawNet : GoodIn wsX4_trees (wsV RX4 125 RX4 yX4_drawNet wsX4_drawNet) := goodIn_app (goodIn_of _ (by decide +kernel)) ggX4_trees_X4_drawNet
set_option maxRecDepth 20000 in
theorem ggX4_trees_X4_upSet : GoodIn wsX4_trees wsX4_upSet := goodIn_r _ [46, 8, 22, 41, 10, 42, 80, 81, 82, 83, 84, 85, 86, 87, 88, 89, 90, 91, 92, 93, 94, 95, 96, 97] (by decide +kernel) (by decide +kernel)
set_option maxRecDepth 20000 in
theorem gX4_trees_X4_upSet : GoodIn wsX4_trees (wsV RX4 148 RX4 yX4_upSet wsX4_upSet) := goodIn_app (goodIn_of _ (by decide +kernel)) ggX4_trees_X4_upSet
set_option maxRecDepth 20000 in
theorem ggX4_trees_X3_treesOf : GoodIn wsX4_trees wsX3_treesOf := goodIn_r _ [50, 51, 52, 53, 54, 55, 56, 10, 57, 58, 59, 60, 48, 61, 62, 29, 30, 63, 64, 65, 66, 25, 26, 27, 13, 28, 67, 68, 69, 70, 71, 72, 73, 74, 75, 76, 77, 78, 79, 99, 98] (by decide +kernel) (by decide +kernel)
set_option maxRecDepth 20000 in
theorem gX4_trees_X3_treesOf_n151 : GoodIn wsX4_trees (wsX3_treesOf) := ggX4_trees_X3_treesOf
theorem dX4_trees_0 : decode cX4_trees 0 = .ok (.aload_n 0, 1) := by decide +kernel
theorem dX4_trees_1 : decode cX4_trees 1 = .ok (.invokevirtual 125, 3) := by decide +kernel
theorem dX4_trees_4 : decode cX4_trees 4 = .ok (.aload_n 0, 1) := by decide +kernel
theorem dX4_trees_5 : decode cX4_trees 5 = .ok (.getfield 80, 3) := by decide +kernel
theorem dX4_trees_8 : decode cX4_trees 8 = .ok (.aload_n 0, 1) := by decide +kernel
theorem dX4_trees_9 : decode cX4_trees 9 = .ok (.getfield 54, 3) := by decide +kernel
theorem dX4_trees_12 : decode cX4_trees 12 = .ok (.aload_n 0, 1) := by decide +kernel
theorem dX4_trees_13 : decode cX4_trees 13 = .ok (.invokevirtual 148, 3) := by decide +kernel
theorem dX4_trees_16 : decode cX4_trees 16 = .ok (.invokevirtual 151, 3) := by decide +kernel
theorem dX4_trees_19 : decode cX4_trees 19 = .ok (.lreturn, 1) := by decide +kernel
set_option maxRecDepth 20000 in
theorem ggX4_setEstimate_X4_requireMember : GoodIn wsX4_setEstimate wsX4_requireMember := goodIn_ca (goodIn_r _ [6, 7, 8, 9, 20, 21, 22, 23, 24, 25, 26, 27, 28, 29, 30, 31, 32, 33, 34, 35, 36, 37] (by decide +kernel) (by decide +kernel)) (goodIn_sub (fun _ h => List.mem_cons_of_mem _ (List.mem_append_left _ (List.mem_append_right _ h))) (by decide +kernel))
set_option maxRecDepth 20000 in
theorem gX4_setEstimate_X4_requireMember : GoodIn wsX4_setEstimate (wsV RX4 101 RX4 yX4_requireMember wsX4_requireMember) := goodIn_app (goodIn_of _ (by decide +kernel)) ggX4_setEstimate_X4_requireMember
set_option maxRecDepth 20000 in
theorem ggX4_setEstimate_X4_requireValue : GoodIn wsX4_setEstimate wsX4_requireValue := goodIn_ca (goodIn_r _ [12, 13, 14, 15, 16, 5, 17, 18, 19] (by decide +kernel) (by decide +kernel)) (goodIn_sub (fun _ h => List.mem_cons_of_mem _ (List.mem_append_right _ h)) (by decide +kernel))
set_option maxRecDepth 20000 in
theorem gX4_setEstimate_X4_requireValue : GoodIn wsX4_setEstimate (va_wsS RX4 155 yX4_requireValue wsX4_requireValue) := goodIn_app (goodIn_of _ (by decide +kernel)) ggX4_setEstimate_X4_requireValue
theorem dX4_setEstimate_0 : decode cX4_setEstimate 0 = .ok (.aload_n 0, 1) := by decide +kernel
theorem dX4_setEstimate_1 : decode cX4_setEstimate 1 = .ok (.iload_n 1, 1) := by decide +kernel
theorem dX4_setEstimate_2 : decode cX4_setEstimate 2 = .ok (.invokevirtual 101, 3) := by decide +kernel
theorem dX4_setEstimate_5 : decode cX4_setEstimate 5 = .ok (.iload_n 2, 1) := by decide +kernel
theorem dX4_setEstimate_6 : decode cX4_setEstimate 6 = .ok (.invokestatic 155, 3) := by decide +kernel
theorem dX4_setEstimate_9 : decode cX4_setEstimate 9 = .ok (.aload_n 0, 1) := by decide +kernel
theorem dX4_setEstimate_10 : decode cX4_setEstimate 10 = .ok (.getfield 23, 3) := by decide +kernel
theorem dX4_setEstimate_13 : decode cX4_setEstimate 13 = .ok (.iload_n 1, 1) := by decide +kernel
theorem dX4_setEstimate_14 : decode cX4_setEstimate 14 = .ok (.iaload, 1) := by decide +kernel
theorem dX4_setEstimate_15 : decode cX4_setEstimate 15 = .ok (.istore_n 3, 1) := by decide +kernel
theorem dX4_setEstimate_16 : decode cX4_setEstimate 16 = .ok (.aload_n 0, 1) := by decide +kernel
theorem dX4_setEstimate_17 : decode cX4_setEstimate 17 = .ok (.getfield 23, 3) := by decide +kernel
theorem dX4_setEstimate_20 : decode cX4_setEstimate 20 = .ok (.iload_n 1, 1) := by decide +kernel
theorem dX4_setEstimate_21 : decode cX4_setEstimate 21 = .ok (.iload_n 2, 1) := by decide +kernel
theorem dX4_setEstimate_22 : decode cX4_setEstimate 22 = .ok (.iastore, 1) := by decide +kernel
theorem dX4_setEstimate_23 : decode cX4_setEstimate 23 = .ok (.iload_n 3, 1) := by decide +kernel
theorem dX4_setEstimate_24 : decode cX4_setEstimate 24 = .ok (.ireturn, 1) := by decide +kernel
set_option maxRecDepth 20000 in
theorem ggX4_estimate_X4_requireMember : GoodIn wsX4_estimate wsX4_requireMember := goodIn_ca (goodIn_r _ [6, 7, 8, 9, 10, 11, 12, 13, 14, 15, 16, 17, 18, 19, 20, 21, 22, 23, 24, 25, 26, 27] (by decide +kernel) (by decide +kernel)) (goodIn_sub (fun _ h => List.mem_cons_of_mem _ (List.mem_append_right _ h)) (by decide +kernel))
set_option maxRecDepth 20000 in
theorem gX4_estimate_X4_requireMember : GoodIn wsX4_estimate (wsV RX4 101 RX4 yX4_requireMember wsX4_requireMember) := goodIn_app (goodIn_of _ (by decide +kernel)) ggX4_estimate_X4_requireMember
theorem dX4_estimate_0 : decode cX4_estimate 0 = .ok (.aload_n 0, 1) := by decide +kernel
theorem dX4_estimate_1 : decode cX4_estimate 1 = .ok (.iload_n 1, 1) := by decide +kernel
theorem dX4_estimate_2 : decode cX4_estimate 2 = .ok (.invokevirtual 101, 3) := by decide +kernel
theorem dX4_estimate_5 : decode cX4_estimate 5 = .ok (.aload_n 0, 1) := by decide +kernel
theorem dX4_estimate_6 : decode cX4_estimate 6 = .ok (.getfield 23, 3) := by decide +kernel
theorem dX4_estimate_9 : decode cX4_estimate 9 = .ok (.iload_n 1, 1) := by decide +kernel
theorem dX4_estimate_10 : decode cX4_estimate 10 = .ok (.iaload, 1) := by decide +kernel
theorem dX4_estimate_11 : decode cX4_estimate 11 = .ok (.ireturn, 1) := by decide +kernel
set_option maxRecDepth 20000 in
theorem ggX4_agree_X4_requireRounds : GoodIn wsX4_agree wsX4_requireRounds := goodIn_ca (goodIn_r _ [4, 5, 6, 3, 7, 8, 9] (by decide +kernel) (by decide +kernel)) (goodIn_sub (fun _ h => List.mem_cons_of_mem _ (List.mem_append_right _ h)) (by decide +kernel))
set_option maxRecDepth 20000 in
theorem gX4_agree_X4_requireRounds : GoodIn wsX4_agree (va_wsS RX4 158 yX4_requireRounds wsX4_requireRounds) := goodIn_app (goodIn_of _ (by decide +kernel)) ggX4_agree_X4_requireRounds
set_option maxRecDepth 20000 in
theorem ggX4_agree_X4_drawNet : GoodIn wsX4_agree wsX4_drawNet := goodIn_r _ [13, 14, 15, 16, 17, 18, 19, 20, 21, 22, 23, 24, 25, 26, 27, 3, 28, 29, 30, 31, 32, 33, 34, 35, 36, 37, 38, 39, 40, 41, 42, 43, 44, 45, 46, 47, 48, 49, 86, 87, 88, 89, 90, 91, 92, 93, 94, 95, 96, 97, 98, 99, 100, 101, 102, 103, 104] (by decide +kernel) (by decide +kernel)
set_option maxRecDepth 20000 in
theorem gX4_agree_X4_drawNet : GoodIn wsX4_agree (wsV RX4 125 RX4 yX4_drawNet wsX4_drawNet) := goodIn_app (goodIn_of _ (by decide +kernel)) ggX4_agree_X4_drawNet
set_option maxRecDepth 20000 in
theorem ggX4_agree_X4_exchangeEstimates : GoodIn wsX4_agree wsX4_exchangeEstimates := goodIn_r _ [53, 54, 15, 14, 55, 56, 22, 23, 24, 32, 17, 33, 34, 20, 35, 36, 37, 57, 58, 59, 3, 60, 61, 62, 63, 64, 65, 66, 67, 68, 69, 70, 71, 72, 73, 74, 75, 76, 77, 78, 86, 87, 88, 89, 90, 91, 92, 93, 94, 95, 96, 97, 98, 99, 100, 101, 102, 103, 104] (by decide +kernel) (by decide +kernel)
set_option maxRecDepth 20000 in
theorem gX4_agree_X4_exchangeEstimates : GoodIn wsX4_agree (wsV RX4 161 RX4 yX4_exchangeEstimates wsX4_exchangeEstimates) := goodIn_app (goodIn_of _ (by decide +kernel)) ggX4_agree_X4_exchangeEstimates
set_option maxRecDepth 20000 in
theorem ggX4_agree_X4_spanOfEstimates : GoodIn wsX4_agree wsX4_spanOfEstimates := goodIn_r _ [82, 15, 55, 83, 84, 63, 85, 61, 62, 64, 86, 87, 88, 89, 90, 91, 92, 93, 94, 95, 96, 97, 98, 99, 100, 101, 102, 103] (by decide +kernel) (by decide +kernel)
set_option maxRecDepth 20000 in
theorem gX4_agree_X4_spanOfEstimates : GoodIn wsX4_agree (wsV RX4 164 RX4 yX4_spanOfEstimates wsX4_spanOfEstimates) := goodIn_app (goodIn_of _ (by decide +kernel)) ggX4_agree_X4_spanOfEstimates
theorem dX4_agree_0 : decode cX4_agree 0 = .ok (.iload_n 1, 1) := by decide +kernel
theorem dX4_agree_1 : decode cX4_agree 1 = .ok (.invokestatic 158, 3) := by decide +kernel
theorem dX4_agree_4 : decode cX4_agree 4 = .ok (.aload_n 0, 1) := by decide +kernel
theorem dX4_agree_5 : decode cX4_agree 5 = .ok (.invokevirtual 125, 3) := by decide +kernel
theorem dX4_agree_8 : decode cX4_agree 8 = .ok (.iconst 0, 1) := by decide +kernel
theorem dX4_agree_9 : decode cX4_agree 9 = .ok (.istore_n 2, 1) := by decide +kernel
theorem dX4_agree_10 : decode cX4_agree 10 = .ok (.iload_n 2, 1) := by decide +kernel
theorem dX4_agree_11 : decode cX4_agree 11 = .ok (.iload_n 1, 1) := by decide +kernel
theorem dX4_agree_12 : decode cX4_agree 12 = .ok (.if_icmp .ge 13, 3) := by decide +kernel
theorem dX4_agree_15 : decode cX4_agree 15 = .ok (.aload_n 0, 1) := by decide +kernel
theorem dX4_agree_16 : decode cX4_agree 16 = .ok (.invokevirtual 161, 3) := by decide +kernel
theorem dX4_agree_19 : decode cX4_agree 19 = .ok (.iinc 2 1, 3) := by decide +kernel
theorem dX4_agree_22 : decode cX4_agree 22 = .ok (.goto (-12), 3) := by decide +kernel
theorem dX4_agree_25 : decode cX4_agree 25 = .ok (.aload_n 0, 1) := by decide +kernel
theorem dX4_agree_26 : decode cX4_agree 26 = .ok (.invokevirtual 164, 3) := by decide +kernel
theorem dX4_agree_29 : decode cX4_agree 29 = .ok (.ireturn, 1) := by decide +kernel
set_option maxRecDepth 20000 in
theorem ggX4_setSum_X4_requireMember : GoodIn wsX4_setSum wsX4_requireMember := goodIn_ca (goodIn_r _ [6, 7, 8, 9, 20, 21, 22, 23, 24, 25, 26, 27, 28, 29, 30, 31, 32, 33, 34, 35, 36, 37] (by decide +kernel) (by decide +kernel)) (goodIn_sub (fun _ h => List.mem_cons_of_mem _ (List.mem_append_left _ (List.mem_append_right _ h))) (by decide +kernel))
set_option maxRecDepth 20000 in
theorem gX4_setSum_X4_requireMember : GoodIn wsX4_setSum (wsV RX4 101 RX4 yX4_requireMember wsX4_requireMember) := goodIn_app (goodIn_of _ (by decide +kernel)) ggX4_setSum_X4_requireMember
set_option maxRecDepth 20000 in
theorem ggX4_setSum_X4_requireValue : GoodIn wsX4_setSum wsX4_requireValue := goodIn_ca (goodIn_r _ [12, 13, 14, 15, 16, 5, 17, 18, 19] (by decide +kernel) (by decide +kernel)) (goodIn_sub (fun _ h => List.mem_cons_of_mem _ (List.mem_append_right _ h)) (by decide +kernel))
set_option maxRecDepth 20000 in
theorem gX4_setSum_X4_requireValue : GoodIn wsX4_setSum (va_wsS RX4 155 yX4_requireValue wsX4_requireValue) := goodIn_app (goodIn_of _ (by decide +kernel)) ggX4_setSum_X4_requireValue
theorem dX4_setSum_0 : decode cX4_setSum 0 = .ok (.aload_n 0, 1) := by decide +kernel
theorem dX4_setSum_1 : decode cX4_setSum 1 = .ok (.iload_n 1, 1) := by decide +kernel
theorem dX4_setSum_2 : decode cX4_setSum 2 = .ok (.invokevirtual 101, 3) := by decide +kernel
theorem dX4_setSum_5 : decode cX4_setSum 5 = .ok (.iload_n 2, 1) := by decide +kernel
theorem dX4_setSum_6 : decode cX4_setSum 6 = .ok (.invokestatic 155, 3) := by decide +kernel
theorem dX4_setSum_9 : decode cX4_setSum 9 = .ok (.aload_n 0, 1) := by decide +kernel
theorem dX4_setSum_10 : decode cX4_setSum 10 = .ok (.getfield 26, 3) := by decide +kernel
theorem dX4_setSum_13 : decode cX4_setSum 13 = .ok (.iload_n 1, 1) := by decide +kernel
theorem dX4_setSum_14 : decode cX4_setSum 14 = .ok (.iaload, 1) := by decide +kernel
theorem dX4_setSum_15 : decode cX4_setSum 15 = .ok (.istore_n 3, 1) := by decide +kernel
theorem dX4_setSum_16 : decode cX4_setSum 16 = .ok (.aload_n 0, 1) := by decide +kernel
theorem dX4_setSum_17 : decode cX4_setSum 17 = .ok (.getfield 26, 3) := by decide +kernel
theorem dX4_setSum_20 : decode cX4_setSum 20 = .ok (.iload_n 1, 1) := by decide +kernel
theorem dX4_setSum_21 : decode cX4_setSum 21 = .ok (.iload_n 2, 1) := by decide +kernel
theorem dX4_setSum_22 : decode cX4_setSum 22 = .ok (.iastore, 1) := by decide +kernel
theorem dX4_setSum_23 : decode cX4_setSum 23 = .ok (.iload_n 3, 1) := by decide +kernel
theorem dX4_setSum_24 : decode cX4_setSum 24 = .ok (.ireturn, 1) := by decide +kernel
set_option maxRecDepth 20000 in
theorem ggX4_sum_X4_requireMember : GoodIn wsX4_sum wsX4_requireMember := goodIn_ca (goodIn_r _ [6, 7, 8, 9, 10, 11, 12, 13, 14, 15, 16, 17, 18, 19, 20, 21, 22, 23, 24, 25, 26, 27] (by decide +kernel) (by decide +kernel)) (goodIn_sub (fun _ h => List.mem_cons_of_mem _ (List.mem_append_right _ h)) (by decide +kernel))
set_option maxRecDepth 20000 in
theorem gX4_sum_X4_requireMember : GoodIn wsX4_sum (wsV RX4 101 RX4 yX4_requireMember wsX4_requireMember) := goodIn_app (goodIn_of _ (by decide +kernel)) ggX4_sum_X4_requireMember
theorem dX4_sum_0 : decode cX4_sum 0 = .ok (.aload_n 0, 1) := by decide +kernel
theorem dX4_sum_1 : decode cX4_sum 1 = .ok (.iload_n 1, 1) := by decide +kernel
theorem dX4_sum_2 : decode cX4_sum 2 = .ok (.invokevirtual 101, 3) := by decide +kernel
theorem dX4_sum_5 : decode cX4_sum 5 = .ok (.aload_n 0, 1) := by decide +kernel
theorem dX4_sum_6 : decode cX4_sum 6 = .ok (.getfield 26, 3) := by decide +kernel
theorem dX4_sum_9 : decode cX4_sum 9 = .ok (.iload_n 1, 1) := by decide +kernel
theorem dX4_sum_10 : decode cX4_sum 10 = .ok (.iaload, 1) := by decide +kernel
theorem dX4_sum_11 : decode cX4_sum 11 = .ok (.ireturn, 1) := by decide +kernel
set_option maxRecDepth 20000 in
theorem ggX4_weight_X4_requireMember : GoodIn wsX4_weight wsX4_requireMember := goodIn_ca (goodIn_r _ [6, 7, 8, 9, 10, 11, 12, 13, 14, 15, 16, 17, 18, 19, 20, 21, 22, 23, 24, 25, 26, 27] (by decide +kernel) (by decide +kernel)) (goodIn_sub (fun _ h => List.mem_cons_of_mem _ (List.mem_append_right _ h)) (by decide +kernel))
set_option maxRecDepth 20000 in
theorem gX4_weight_X4_requireMember : GoodIn wsX4_weight (wsV RX4 101 RX4 yX4_requireMember wsX4_requireMember) := goodIn_app (goodIn_of _ (by decide +kernel)) ggX4_weight_X4_requireMember
theorem dX4_weight_0 : decode cX4_weight 0 = .ok (.aload_n 0, 1) := by decide +kernel
theorem dX4_weight_1 : decode cX4_weight 1 = .ok (.iload_n 1, 1) := by decide +kernel
theorem dX4_weight_2 : decode cX4_weight 2 = .ok (.invokevirtual 101, 3) := by decide +kernel
theorem dX4_weight_5 : decode cX4_weight 5 = .ok (.aload_n 0, 1) := by decide +kernel
theorem dX4_weight_6 : decode cX4_weight 6 = .ok (.getfield 29, 3) := by decide +kernel
theorem dX4_weight_9 : decode cX4_weight 9 = .ok (.iload_n 1, 1) := by decide +kernel
theorem dX4_weight_10 : decode cX4_weight 10 = .ok (.iaload, 1) := by decide +kernel
theorem dX4_weight_11 : decode cX4_weight 11 = .ok (.ireturn, 1) := by decide +kernel
set_option maxRecDepth 20000 in
theorem ggX4_spread_X4_requireRounds : GoodIn wsX4_spread wsX4_requireRounds := goodIn_ca (goodIn_r _ [4, 5, 6, 3, 7, 8, 9] (by decide +kernel) (by decide +kernel)) (goodIn_sub (fun _ h => List.mem_cons_of_mem _ (List.mem_append_right _ h)) (by decide +kernel))
set_option maxRecDepth 20000 in
theorem gX4_spread_X4_requireRounds : GoodIn wsX4_spread (va_wsS RX4 158 yX4_requireRounds wsX4_requireRounds) := goodIn_app (goodIn_of _ (by decide +kernel)) ggX4_spread_X4_requireRounds
set_option maxRecDepth 20000 in
theorem ggX4_spread_X4_drawNet : GoodIn wsX4_spread wsX4_drawNet := goodIn_r _ [13, 14, 15, 16, 17, 18, 19, 20, 21, 22, 23, 24, 25, 26, 27, 3, 28, 29, 30, 31, 32, 33, 34, 35, 36, 37, 38, 39, 40, 41, 42, 43, 44, 45, 46, 47, 48, 49, 71, 72, 73, 74, 75, 76, 77, 78, 79, 80, 81, 82, 83, 84, 85, 86, 87, 88, 89] (by decide +kernel) (by decide +kernel)
set_option maxRecDepth 20000 in
theorem gX4_spread_X4_drawNet : GoodIn wsX4_spread (wsV RX4 125 RX4 yX4_drawNet wsX4_drawNet) := goodIn_app (goodIn_of _ (by decide +kernel)) ggX4_spread_X4_drawNet
set_option maxRecDepth 20000 in
theorem ggX4_spread_X4_handHalves : GoodIn wsX4_spread wsX4_handHalves := goodIn_r _ [53, 54, 55, 15, 56, 57, 58, 59, 22, 23, 24, 60, 61, 62, 3, 63, 14, 32, 17, 33, 34, 20, 35, 36, 37, 64, 65, 66, 67, 68, 69, 70, 71, 72, 73, 74, 75, 76, 77, 78, 79, 80, 81, 82, 83, 84, 85, 86, 87, 88, 89] (by decide +kernel) (by decide +kernel)
set_option maxRecDepth 20000 in
theorem gX4_spread_X4_handHalves : GoodIn wsX4_spread (wsV RX4 167 RX4 yX4_handHalves wsX4_handHalves) := goodIn_app (goodIn_of _ (by decide +kernel)) ggX4_spread_X4_handHalves
theorem dX4_spread_0 : decode cX4_spread 0 = .ok (.iload_n 1, 1) := by decide +kernel
theorem dX4_spread_1 : decode cX4_spread 1 = .ok (.invokestatic 158, 3) := by decide +kernel
theorem dX4_spread_4 : decode cX4_spread 4 = .ok (.aload_n 0, 1) := by decide +kernel
theorem dX4_spread_5 : decode cX4_spread 5 = .ok (.invokevirtual 125, 3) := by decide +kernel
theorem dX4_spread_8 : decode cX4_spread 8 = .ok (.iconst 0, 1) := by decide +kernel
theorem dX4_spread_9 : decode cX4_spread 9 = .ok (.istore_n 2, 1) := by decide +kernel
theorem dX4_spread_10 : decode cX4_spread 10 = .ok (.iconst 0, 1) := by decide +kernel
theorem dX4_spread_11 : decode cX4_spread 11 = .ok (.istore_n 3, 1) := by decide +kernel
theorem dX4_spread_12 : decode cX4_spread 12 = .ok (.iload_n 3, 1) := by decide +kernel
theorem dX4_spread_13 : decode cX4_spread 13 = .ok (.iload_n 1, 1) := by decide +kernel
theorem dX4_spread_14 : decode cX4_spread 14 = .ok (.if_icmp .ge 16, 3) := by decide +kernel
theorem dX4_spread_17 : decode cX4_spread 17 = .ok (.iload_n 2, 1) := by decide +kernel
theorem dX4_spread_18 : decode cX4_spread 18 = .ok (.aload_n 0, 1) := by decide +kernel
theorem dX4_spread_19 : decode cX4_spread 19 = .ok (.invokevirtual 167, 3) := by decide +kernel
theorem dX4_spread_22 : decode cX4_spread 22 = .ok (.iadd, 1) := by decide +kernel
theorem dX4_spread_23 : decode cX4_spread 23 = .ok (.istore_n 2, 1) := by decide +kernel
theorem dX4_spread_24 : decode cX4_spread 24 = .ok (.iinc 3 1, 3) := by decide +kernel
theorem dX4_spread_27 : decode cX4_spread 27 = .ok (.goto (-15), 3) := by decide +kernel
theorem dX4_spread_30 : decode cX4_spread 30 = .ok (.iload_n 2, 1) := by decide +kernel
theorem dX4_spread_31 : decode cX4_spread 31 = .ok (.ireturn, 1) := by decide +kernel
set_option maxRecDepth 20000 in
theorem ggX4_want_X4_requireUnlike : GoodIn wsX4_want wsX4_requireUnlike := goodIn_ca (goodIn_ca (goodIn_r _ [7, 8, 9, 10, 11, 12, 6, 13, 14, 15, 16, 20, 21, 22, 23, 24, 25, 26, 27, 28, 29, 30, 31, 32, 33, 34, 35, 36, 37] (by decide +kernel) (by decide +kernel)) (goodIn_sub (fun _ h => List.mem_cons_of_mem _ (List.mem_append_left _ (List.mem_append_right _ h))) (by decide +kernel))) (goodIn_sub (fun _ h => List.mem_cons_of_mem _ (List.mem_append_right _ h)) (by decide +kernel))
set_option maxRecDepth 20000 in
theorem gX4_want_X4_requireUnlike : GoodIn wsX4_want (wsV RX4 109 RX4 yX4_requireUnlike wsX4_requireUnlike) := goodIn_app (goodIn_of _ (by decide +kernel)) ggX4_want_X4_requireUnlike
set_option maxRecDepth 20000 in
theorem ggX4_want_X4_requireWithin : GoodIn wsX4_want wsX4_requireWithin := goodIn_ca (goodIn_r _ [19, 8, 9] (by decide +kernel) (by decide +kernel)) (goodIn_sub (fun _ h => List.mem_cons_of_mem _ (List.mem_append_left _ (List.mem_append_right _ h))) (by decide +kernel))
set_option maxRecDepth 20000 in
theorem gX4_want_X4_requireWithin : GoodIn wsX4_want (va_wsS RX4 105 yX4_requireWithin wsX4_requireWithin) := goodIn_app (goodIn_of _ (by decide +kernel)) ggX4_want_X4_requireWithin
theorem dX4_want_0 : decode cX4_want 0 = .ok (.aload_n 0, 1) := by decide +kernel
theorem dX4_want_1 : decode cX4_want 1 = .ok (.iload_n 1, 1) := by decide +kernel
theorem dX4_want_2 : decode cX4_want 2 = .ok (.iload_n 2, 1) := by decide +kernel
theorem dX4_want_3 : decode cX4_want 3 = .ok (.invokevirtual 109, 3) := by decide +kernel
theorem dX4_want_6 : decode cX4_want 6 = .ok (.iload_n 3, 1) := by decide +kernel
theorem dX4_want_7 : decode cX4_want 7 = .ok (.iconst (-1), 1) := by decide +kernel
theorem dX4_want_8 : decode cX4_want 8 = .ok (.if_icmp .eq 10, 3) := by decide +kernel
theorem dX4_want_11 : decode cX4_want 11 = .ok (.iload_n 3, 1) := by decide +kernel
theorem dX4_want_12 : decode cX4_want 12 = .ok (.iconst 1, 1) := by decide +kernel
theorem dX4_want_13 : decode cX4_want 13 = .ok (.ldc 170, 2) := by decide +kernel
theorem dX4_want_15 : decode cX4_want 15 = .ok (.invokestatic 105, 3) := by decide +kernel
theorem dX4_want_18 : decode cX4_want 18 = .ok (.aload_n 0, 1) := by decide +kernel
theorem dX4_want_19 : decode cX4_want 19 = .ok (.getfield 37, 3) := by decide +kernel
theorem dX4_want_22 : decode cX4_want 22 = .ok (.iload_n 1, 1) := by decide +kernel
theorem dX4_want_23 : decode cX4_want 23 = .ok (.aaload, 1) := by decide +kernel
theorem dX4_want_24 : decode cX4_want 24 = .ok (.iload_n 2, 1) := by decide +kernel
theorem dX4_want_25 : decode cX4_want 25 = .ok (.iaload, 1) := by decide +kernel
theorem dX4_want_26 : decode cX4_want 26 = .ok (.istore 4, 2) := by decide +kernel
theorem dX4_want_28 : decode cX4_want 28 = .ok (.aload_n 0, 1) := by decide +kernel
theorem dX4_want_29 : decode cX4_want 29 = .ok (.getfield 37, 3) := by decide +kernel
theorem dX4_want_32 : decode cX4_want 32 = .ok (.iload_n 1, 1) := by decide +kernel
theorem dX4_want_33 : decode cX4_want 33 = .ok (.aaload, 1) := by decide +kernel
theorem dX4_want_34 : decode cX4_want 34 = .ok (.iload_n 2, 1) := by decide +kernel
theorem dX4_want_35 : decode cX4_want 35 = .ok (.iload_n 3, 1) := by decide +kernel
theorem dX4_want_36 : decode cX4_want 36 = .ok (.iastore, 1) := by decide +kernel
theorem dX4_want_37 : decode cX4_want 37 = .ok (.aload_n 0, 1) := by decide +kernel
theorem dX4_want_38 : decode cX4_want 38 = .ok (.getfield 37, 3) := by decide +kernel
theorem dX4_want_41 : decode cX4_want 41 = .ok (.iload_n 2, 1) := by decide +kernel
theorem dX4_want_42 : decode cX4_want 42 = .ok (.aaload, 1) := by decide +kernel
theorem dX4_want_43 : decode cX4_want 43 = .ok (.iload_n 1, 1) := by decide +kernel
theorem dX4_want_44 : decode cX4_want 44 = .ok (.iload_n 3, 1) := by decide +kernel
theorem dX4_want_45 : decode cX4_want 45 = .ok (.iastore, 1) := by decide +kernel
theorem dX4_want_46 : decode cX4_want 46 = .ok (.iload 4, 2) := by decide +kernel
theorem dX4_want_48 : decode cX4_want 48 = .ok (.ireturn, 1) := by decide +kernel
set_option maxRecDepth 20000 in
theorem ggX4_error_X4_drawNet : GoodIn wsX4_error wsX4_drawNet := goodIn_r _ [10, 11, 1, 12, 13, 14, 15, 16, 17, 18, 19, 20, 21, 22, 23, 9, 24, 25, 26, 27, 28, 29, 30, 31, 32, 33, 34, 35, 36, 37, 38, 39, 40, 41, 42, 43, 44, 45, 51, 52, 53, 54, 55, 56, 57, 58, 59, 60, 61, 62, 63, 64, 65, 66, 67, 68, 69] (by decide +kernel) (by decide +kernel)
set_option maxRecDepth 20000 in
theorem gX4_error_X4_drawNet : GoodIn wsX4_error (wsV RX4 125 RX4 yX4_drawNet wsX4_drawNet) := goodIn_app (goodIn_of _ (by decide +kernel)) ggX4_error_X4_drawNet
set_option maxRecDepth 20000 in
theorem ggX4_error_X4_excessOf : GoodIn wsX4_error wsX4_excessOf := goodIn_r _ [49, 11, 50, 28, 13, 29, 30, 16, 31, 32, 33, 34, 35, 36, 9, 37, 38, 39, 51, 52, 53, 54, 55, 56, 57, 58, 59, 60, 61, 62, 63, 64, 65, 66, 67, 68, 69] (by decide +kernel) (by decide +kernel)
set_option maxRecDepth 20000 in
theorem gX4_error_X4_excessOf : GoodIn wsX4_error (wsV RX4 171 RX4 yX4_excessOf wsX4_excessOf) := goodIn_app (goodIn_of _ (by decide +kernel)) ggX4_error_X4_excessOf
theorem dX4_error_0 : decode cX4_error 0 = .ok (.aload_n 0, 1) := by decide +kernel
theorem dX4_error_1 : decode cX4_error 1 = .ok (.invokevirtual 125, 3) := by decide +kernel
theorem dX4_error_4 : decode cX4_error 4 = .ok (.iconst 0, 1) := by decide +kernel
theorem dX4_error_5 : decode cX4_error 5 = .ok (.istore_n 1, 1) := by decide +kernel
theorem dX4_error_6 : decode cX4_error 6 = .ok (.iconst 0, 1) := by decide +kernel
theorem dX4_error_7 : decode cX4_error 7 = .ok (.istore_n 2, 1) := by decide +kernel
theorem dX4_error_8 : decode cX4_error 8 = .ok (.iload_n 2, 1) := by decide +kernel
theorem dX4_error_9 : decode cX4_error 9 = .ok (.aload_n 0, 1) := by decide +kernel
theorem dX4_error_10 : decode cX4_error 10 = .ok (.getfield 47, 3) := by decide +kernel
theorem dX4_error_13 : decode cX4_error 13 = .ok (.if_icmp .ge 34, 3) := by decide +kernel
theorem dX4_error_16 : decode cX4_error 16 = .ok (.iconst 0, 1) := by decide +kernel
theorem dX4_error_17 : decode cX4_error 17 = .ok (.istore_n 3, 1) := by decide +kernel
theorem dX4_error_18 : decode cX4_error 18 = .ok (.iload_n 3, 1) := by decide +kernel
theorem dX4_error_19 : decode cX4_error 19 = .ok (.iload_n 2, 1) := by decide +kernel
theorem dX4_error_20 : decode cX4_error 20 = .ok (.if_icmp .ge 21, 3) := by decide +kernel
theorem dX4_error_23 : decode cX4_error 23 = .ok (.iload_n 1, 1) := by decide +kernel
theorem dX4_error_24 : decode cX4_error 24 = .ok (.aload_n 0, 1) := by decide +kernel
theorem dX4_error_25 : decode cX4_error 25 = .ok (.iload_n 2, 1) := by decide +kernel
theorem dX4_error_26 : decode cX4_error 26 = .ok (.iload_n 3, 1) := by decide +kernel
theorem dX4_error_27 : decode cX4_error 27 = .ok (.invokevirtual 171, 3) := by decide +kernel
theorem dX4_error_30 : decode cX4_error 30 = .ok (.invokestatic 175, 3) := by decide +kernel
theorem dX4_error_33 : decode cX4_error 33 = .ok (.iadd, 1) := by decide +kernel
theorem dX4_error_34 : decode cX4_error 34 = .ok (.istore_n 1, 1) := by decide +kernel
theorem dX4_error_35 : decode cX4_error 35 = .ok (.iinc 3 1, 3) := by decide +kernel
theorem dX4_error_38 : decode cX4_error 38 = .ok (.goto (-20), 3) := by decide +kernel
theorem dX4_error_41 : decode cX4_error 41 = .ok (.iinc 2 1, 3) := by decide +kernel
theorem dX4_error_44 : decode cX4_error 44 = .ok (.goto (-36), 3) := by decide +kernel
theorem dX4_error_47 : decode cX4_error 47 = .ok (.iload_n 1, 1) := by decide +kernel
theorem dX4_error_48 : decode cX4_error 48 = .ok (.ireturn, 1) := by decide +kernel
set_option maxRecDepth 20000 in
theorem ggX4_settle_X4_requireRounds : GoodIn wsX4_settle wsX4_requireRounds := goodIn_ca (goodIn_r _ [4, 5, 6, 3, 7, 8, 9] (by decide +kernel) (by decide +kernel)) (goodIn_sub (fun _ h => List.mem_cons_of_mem _ (List.mem_append_right _ h)) (by decide +kernel))
set_option maxRecDepth 20000 in
theorem gX4_settle_X4_requireRounds : GoodIn wsX4_settle (va_wsS RX4 158 yX4_requireRounds wsX4_requireRounds) := goodIn_app (goodIn_of _ (by decide +kernel)) ggX4_settle_X4_requireRounds
set_option maxRecDepth 20000 in
theorem ggX4_settle_X4_stepTogether : GoodIn wsX4_settle wsX4_stepTogether := goodIn_r _ [13, 14, 15, 16, 17, 18, 19, 20, 21, 3, 22, 23, 24, 25, 26, 27, 28, 29, 30, 31, 32, 33, 34, 35, 36, 37, 38, 39, 40, 41, 42, 43, 44, 45, 46, 47, 48, 49, 50, 51, 52, 53, 54, 55, 56, 57, 58, 59, 60, 61, 62, 63, 64, 65, 66, 67, 68, 69, 70, 71, 72, 73, 74, 75, 76, 77, 78, 79, 80, 81, 82, 83, 91, 92, 93, 94, 95, 96, 97, 98, 99, 100, 101, 102, 103, 104, 105, 106, 107, 108, 109] (by decide +kernel) (by decide +kernel)
set_option maxRecDepth 20000 in
theorem gX4_settle_X4_stepTogether : GoodIn wsX4_settle (wsV RX4 180 RX4 yX4_stepTogether wsX4_stepTogether) := goodIn_app (goodIn_of _ (by decide +kernel)) ggX4_settle_X4_stepTogether
set_option maxRecDepth 20000 in
theorem ggX4_settle_X4_error : GoodIn wsX4_settle wsX4_error := goodIn_r _ [87, 14, 88, 89, 65, 90, 19, 20, 21, 3, 22, 23, 24, 25, 26, 27, 28, 29, 30, 31, 32, 33, 34, 35, 36, 37, 38, 39, 40, 41, 42, 43, 44, 45, 46, 47, 48, 49, 16, 18, 50, 51, 52, 53, 54, 55, 70, 71, 72, 73, 74, 91, 92, 93, 94, 95, 96, 97, 98, 99, 100, 101, 102, 103, 104, 105, 106, 107, 108, 109] (by decide +kernel) (by decide +kernel)
set_option maxRecDepth 20000 in
theorem gX4_settle_X4_error : GoodIn wsX4_settle (wsV RX4 183 RX4 yX4_error wsX4_error) := goodIn_app (goodIn_of _ (by decide +kernel)) ggX4_settle_X4_error
theorem dX4_settle_0 : decode cX4_settle 0 = .ok (.iload_n 1, 1) := by decide +kernel
theorem dX4_settle_1 : decode cX4_settle 1 = .ok (.invokestatic 158, 3) := by decide +kernel
theorem dX4_settle_4 : decode cX4_settle 4 = .ok (.iconst 0, 1) := by decide +kernel
theorem dX4_settle_5 : decode cX4_settle 5 = .ok (.istore_n 2, 1) := by decide +kernel
theorem dX4_settle_6 : decode cX4_settle 6 = .ok (.iload_n 2, 1) := by decide +kernel
theorem dX4_settle_7 : decode cX4_settle 7 = .ok (.iload_n 1, 1) := by decide +kernel
theorem dX4_settle_8 : decode cX4_settle 8 = .ok (.if_icmp .ge 13, 3) := by decide +kernel
theorem dX4_settle_11 : decode cX4_settle 11 = .ok (.aload_n 0, 1) := by decide +kernel
theorem dX4_settle_12 : decode cX4_settle 12 = .ok (.invokevirtual 180, 3) := by decide +kernel
theorem dX4_settle_15 : decode cX4_settle 15 = .ok (.iinc 2 1, 3) := by decide +kernel
theorem dX4_settle_18 : decode cX4_settle 18 = .ok (.goto (-12), 3) := by decide +kernel
theorem dX4_settle_21 : decode cX4_settle 21 = .ok (.aload_n 0, 1) := by decide +kernel
theorem dX4_settle_22 : decode cX4_settle 22 = .ok (.invokevirtual 183, 3) := by decide +kernel
theorem dX4_settle_25 : decode cX4_settle 25 = .ok (.ireturn, 1) := by decide +kernel
set_option maxRecDepth 20000 in
theorem ggX4_rank_X4_drawNet : GoodIn wsX4_rank wsX4_drawNet := goodIn_r _ [7, 2, 8, 9, 10, 11, 12, 13, 14, 15, 16, 17, 18, 19, 20, 6, 21, 22, 23, 24, 25, 26, 27, 28, 29, 30, 31, 32, 33, 34, 35, 36, 37, 38, 39, 40, 41, 42, 77, 78, 79, 80, 81, 82, 83, 84, 85, 86, 87, 88, 89, 90, 91, 92, 93, 94, 95] (by decide +kernel) (by decide +kernel)
set_option maxRecDepth 20000 in
theorem gX4_rank_X4_drawNet : GoodIn wsX4_rank (wsV RX4 125 RX4 yX4_drawNet wsX4_drawNet) := goodIn_app (goodIn_of _ (by decide +kernel)) ggX4_rank_X4_drawNet
set_option maxRecDepth 20000 in
theorem ggX4_rank_X2_rankOf : GoodIn wsX4_rank wsX2_rankOf := goodIn_r _ [46, 47, 48, 49, 15, 16, 17, 25, 10, 26, 27, 13, 28, 29, 30, 50, 51, 52, 44, 53, 54, 55, 56, 57, 58, 59, 60, 61, 62, 41, 42, 63, 64, 65, 66, 67, 68, 69, 70, 71, 72, 73, 74, 75, 76, 96, 97, 98, 95] (by decide +kernel) (by decide +kernel)
set_option maxRecDepth 20000 in
theorem gX4_rank_X2_rankOf_n186 : GoodIn wsX4_rank (wsX2_rankOf) := ggX4_rank_X2_rankOf
theorem dX4_rank_0 : decode cX4_rank 0 = .ok (.aload_n 0, 1) := by decide +kernel
theorem dX4_rank_1 : decode cX4_rank 1 = .ok (.invokevirtual 125, 3) := by decide +kernel
theorem dX4_rank_4 : decode cX4_rank 4 = .ok (.aload_n 0, 1) := by decide +kernel
theorem dX4_rank_5 : decode cX4_rank 5 = .ok (.getfield 66, 3) := by decide +kernel
theorem dX4_rank_8 : decode cX4_rank 8 = .ok (.aload_n 0, 1) := by decide +kernel
theorem dX4_rank_9 : decode cX4_rank 9 = .ok (.getfield 54, 3) := by decide +kernel
theorem dX4_rank_12 : decode cX4_rank 12 = .ok (.invokevirtual 186, 3) := by decide +kernel
theorem dX4_rank_15 : decode cX4_rank 15 = .ok (.ireturn, 1) := by decide +kernel
set_option maxRecDepth 20000 in
theorem ggX4_rankByCounting_X4_drawNet : GoodIn wsX4_rankByCounting wsX4_drawNet := goodIn_r _ [7, 2, 8, 9, 10, 11, 12, 13, 14, 15, 16, 17, 18, 19, 20, 6, 21, 22, 23, 24, 25, 26, 27, 28, 29, 30, 31, 32, 33, 34, 35, 36, 37, 38, 39, 40, 41, 42, 64, 65, 66, 67, 68, 69, 70, 71, 72, 73, 74, 75, 76, 77, 78, 79, 80, 81, 82] (by decide +kernel) (by decide +kernel)
set_option maxRecDepth 20000 in
theorem gX4_rankByCounting_X4_drawNet : GoodIn wsX4_rankByCounting (wsV RX4 125 RX4 yX4_drawNet wsX4_drawNet) := goodIn_app (goodIn_of _ (by decide +kernel)) ggX4_rankByCounting_X4_drawNet
set_option maxRecDepth 20000 in
theorem ggX4_rankByCounting_X0_rankOf : GoodIn wsX4_rankByCounting wsX0_rankOf := goodIn_r _ [46, 47, 48, 15, 16, 17, 41, 10, 42, 25, 26, 27, 13, 28, 29, 30, 49, 50, 51, 44, 52, 53, 54, 55, 56, 57, 58, 59, 60, 61, 62, 63, 83, 82] (by decide +kernel) (by decide +kernel)
set_option maxRecDepth 20000 in
theorem gX4_rankByCounting_X0_rankOf_n190 : GoodIn wsX4_rankByCounting (wsX0_rankOf) := ggX4_rankByCounting_X0_rankOf
theorem dX4_rankByCounting_0 : decode cX4_rankByCounting 0 = .ok (.aload_n 0, 1) := by decide +kernel
theorem dX4_rankByCounting_1 : decode cX4_rankByCounting 1 = .ok (.invokevirtual 125, 3) := by decide +kernel
theorem dX4_rankByCounting_4 : decode cX4_rankByCounting 4 = .ok (.aload_n 0, 1) := by decide +kernel
theorem dX4_rankByCounting_5 : decode cX4_rankByCounting 5 = .ok (.getfield 73, 3) := by decide +kernel
theorem dX4_rankByCounting_8 : decode cX4_rankByCounting 8 = .ok (.aload_n 0, 1) := by decide +kernel
theorem dX4_rankByCounting_9 : decode cX4_rankByCounting 9 = .ok (.getfield 54, 3) := by decide +kernel
theorem dX4_rankByCounting_12 : decode cX4_rankByCounting 12 = .ok (.invokevirtual 190, 3) := by decide +kernel
theorem dX4_rankByCounting_15 : decode cX4_rankByCounting 15 = .ok (.ireturn, 1) := by decide +kernel
set_option maxRecDepth 20000 in
theorem ggX4_isRigid_X4_drawNet : GoodIn wsX4_isRigid wsX4_drawNet := goodIn_r _ [7, 2, 8, 9, 10, 11, 12, 13, 14, 15, 16, 17, 18, 19, 20, 6, 21, 22, 23, 24, 25, 26, 27, 28, 29, 30, 31, 32, 33, 34, 35, 36, 37, 38, 39, 40, 41, 42, 95, 96, 97, 98, 99, 100, 101, 102, 103, 104, 105, 106, 107, 108, 109, 110, 111, 112, 113] (by decide +kernel) (by decide +kernel)
set_option maxRecDepth 20000 in
theorem gX4_isRigid_X4_drawNet : GoodIn wsX4_isRigid (wsV RX4 125 RX4 yX4_drawNet wsX4_drawNet) := goodIn_app (goodIn_of _ (by decide +kernel)) ggX4_isRigid_X4_drawNet
set_option maxRecDepth 20000 in
theorem ggX4_isRigid_X4_upSet : GoodIn wsX4_isRigid wsX4_upSet := goodIn_r _ [46, 8, 22, 41, 10, 42, 95, 96, 97, 98, 99, 100, 101, 102, 103, 104, 105, 106, 107, 108, 109, 110, 111, 112] (by decide +kernel) (by decide +kernel)
set_option maxRecDepth 20000 in
theorem gX4_isRigid_X4_upSet : GoodIn wsX4_isRigid (wsV RX4 148 RX4 yX4_upSet wsX4_upSet) := goodIn_app (goodIn_of _ (by decide +kernel)) ggX4_isRigid_X4_upSet
set_option maxRecDepth 20000 in
theorem ggX4_isRigid_J6_bitCount_0f7a4 : GoodIn wsX4_isRigid wsJ6_bitCount_0f7a4 := goodIn_r _ [50, 51, 52, 53] (by decide +kernel) (by decide +kernel)
set_option maxRecDepth 20000 in
theorem gX4_isRigid_J6_bitCount_0f7a4 : GoodIn wsX4_isRigid (va_wsS RX4 191 yJ6_bitCount_0f7a4 wsJ6_bitCount_0f7a4) := goodIn_app (goodIn_of _ (by decide +kernel)) ggX4_isRigid_J6_bitCount_0f7a4
set_option maxRecDepth 20000 in
theorem ggX4_isRigid_X4_countGroups : GoodIn wsX4_isRigid wsX4_countGroups := goodIn_r _ [57, 8, 22, 2, 29, 10, 30, 58, 59, 60, 13, 40, 41, 42, 28, 95, 96, 97, 98, 99, 100, 101, 102, 103, 104, 105, 106, 107, 108, 109, 110, 111, 112, 113] (by decide +kernel) (by decide +kernel)
set_option maxRecDepth 20000 in
theorem gX4_isRigid_X4_countGroups : GoodIn wsX4_isRigid (wsV RX4 136 RX4 yX4_countGroups wsX4_countGroups) := goodIn_app (goodIn_of _ (by decide +kernel)) ggX4_isRigid_X4_countGroups
set_option maxRecDepth 20000 in
theorem ggX4_isRigid_X2_rankOf : GoodIn wsX4_isRigid wsX2_rankOf := goodIn_r _ [64, 65, 66, 67, 15, 16, 17, 25, 10, 26, 27, 13, 28, 29, 30, 68, 69, 70, 62, 71, 72, 73, 74, 75, 76, 77, 78, 79, 80, 41, 42, 81, 82, 83, 84, 85, 86, 87, 88, 89, 90, 91, 92, 93, 94, 114, 115, 116, 113] (by decide +kernel) (by decide +kernel)
set_option maxRecDepth 20000 in
theorem gX4_isRigid_X2_rankOf_n186 : GoodIn wsX4_isRigid (wsX2_rankOf) := ggX4_isRigid_X2_rankOf
theorem dX4_isRigid_0 : decode cX4_isRigid 0 = .ok (.aload_n 0, 1) := by decide +kernel
theorem dX4_isRigid_1 : decode cX4_isRigid 1 = .ok (.invokevirtual 125, 3) := by decide +kernel
theorem dX4_isRigid_4 : decode cX4_isRigid 4 = .ok (.aload_n 0, 1) := by decide +kernel
theorem dX4_isRigid_5 : decode cX4_isRigid 5 = .ok (.invokevirtual 148, 3) := by decide +kernel
theorem dX4_isRigid_8 : decode cX4_isRigid 8 = .ok (.invokestatic 191, 3) := by decide +kernel
theorem dX4_isRigid_11 : decode cX4_isRigid 11 = .ok (.istore_n 1, 1) := by decide +kernel
theorem dX4_isRigid_12 : decode cX4_isRigid 12 = .ok (.iload_n 1, 1) := by decide +kernel
theorem dX4_isRigid_13 : decode cX4_isRigid 13 = .ok (.iconst 2, 1) := by decide +kernel
theorem dX4_isRigid_14 : decode cX4_isRigid 14 = .ok (.if_icmp .lt 34, 3) := by decide +kernel
theorem dX4_isRigid_17 : decode cX4_isRigid 17 = .ok (.aload_n 0, 1) := by decide +kernel
theorem dX4_isRigid_18 : decode cX4_isRigid 18 = .ok (.invokevirtual 136, 3) := by decide +kernel
theorem dX4_isRigid_21 : decode cX4_isRigid 21 = .ok (.iconst 1, 1) := by decide +kernel
theorem dX4_isRigid_22 : decode cX4_isRigid 22 = .ok (.if_icmp .ne 26, 3) := by decide +kernel
theorem dX4_isRigid_25 : decode cX4_isRigid 25 = .ok (.aload_n 0, 1) := by decide +kernel
theorem dX4_isRigid_26 : decode cX4_isRigid 26 = .ok (.getfield 66, 3) := by decide +kernel
theorem dX4_isRigid_29 : decode cX4_isRigid 29 = .ok (.aload_n 0, 1) := by decide +kernel
theorem dX4_isRigid_30 : decode cX4_isRigid 30 = .ok (.getfield 54, 3) := by decide +kernel
theorem dX4_isRigid_33 : decode cX4_isRigid 33 = .ok (.invokevirtual 186, 3) := by decide +kernel
theorem dX4_isRigid_36 : decode cX4_isRigid 36 = .ok (.iconst 2, 1) := by decide +kernel
theorem dX4_isRigid_37 : decode cX4_isRigid 37 = .ok (.iload_n 1, 1) := by decide +kernel
theorem dX4_isRigid_38 : decode cX4_isRigid 38 = .ok (.imul, 1) := by decide +kernel
theorem dX4_isRigid_39 : decode cX4_isRigid 39 = .ok (.iconst 3, 1) := by decide +kernel
theorem dX4_isRigid_40 : decode cX4_isRigid 40 = .ok (.isub, 1) := by decide +kernel
theorem dX4_isRigid_41 : decode cX4_isRigid 41 = .ok (.if_icmp .ne 7, 3) := by decide +kernel
theorem dX4_isRigid_44 : decode cX4_isRigid 44 = .ok (.iconst 1, 1) := by decide +kernel
theorem dX4_isRigid_45 : decode cX4_isRigid 45 = .ok (.goto 4, 3) := by decide +kernel
theorem dX4_isRigid_48 : decode cX4_isRigid 48 = .ok (.iconst 0, 1) := by decide +kernel
theorem dX4_isRigid_49 : decode cX4_isRigid 49 = .ok (.ireturn, 1) := by decide +kernel
set_option maxRecDepth 20000 in
theorem ggX4_isSpare_X4_requireMember : GoodIn wsX4_isSpare wsX4_requireMember := goodIn_ca (goodIn_r _ [9, 10, 11, 12, 89, 90, 91, 92, 93, 94, 95, 96, 97, 98, 99, 100, 101, 102, 103, 104, 105, 106] (by decide +kernel) (by decide +kernel)) (goodIn_sub (fun _ h => List.mem_cons_of_mem _ (List.mem_append_right _ h)) (by decide +kernel))
set_option maxRecDepth 20000 in
theorem gX4_isSpare_X4_requireMember : GoodIn wsX4_isSpare (wsV RX4 101 RX4 yX4_requireMember wsX4_requireMember) := goodIn_app (goodIn_of _ (by decide +kernel)) ggX4_isSpare_X4_requireMember
set_option maxRecDepth 20000 in
theorem ggX4_isSpare_X4_hears : GoodIn wsX4_isSpare wsX4_hears := goodIn_r _ [16, 17, 18, 19, 20, 21, 22, 23, 24, 25, 26, 27, 28, 29, 30, 8, 31, 32, 33, 89, 90, 91, 92, 93, 94, 95, 96, 97, 98, 99, 100, 101, 102, 103, 104, 105, 106, 107] (by decide +kernel) (by decide +kernel)
set_option maxRecDepth 20000 in
theorem gX4_isSpare_X4_hears : GoodIn wsX4_isSpare (wsV RX4 122 RX4 yX4_hears wsX4_hears) := goodIn_app (goodIn_of _ (by decide +kernel)) ggX4_isSpare_X4_hears
set_option maxRecDepth 20000 in
theorem ggX4_isSpare_X4_drawNet : GoodIn wsX4_isSpare wsX4_drawNet := goodIn_r _ [37, 4, 12, 38, 21, 39, 40, 24, 41, 42, 43, 44, 13, 14, 15, 8, 16, 17, 18, 19, 20, 22, 23, 25, 26, 27, 28, 29, 30, 31, 32, 33, 45, 46, 47, 48, 49, 50, 89, 90, 91, 92, 93, 94, 95, 96, 97, 98, 99, 100, 101, 102, 103, 104, 105, 106, 107] (by decide +kernel) (by decide +kernel)
set_option maxRecDepth 20000 in
theorem gX4_isSpare_X4_drawNet : GoodIn wsX4_isSpare (wsV RX4 125 RX4 yX4_drawNet wsX4_drawNet) := goodIn_app (goodIn_of _ (by decide +kernel)) ggX4_isSpare_X4_drawNet
set_option maxRecDepth 20000 in
theorem ggX4_isSpare_X2_rankOf : GoodIn wsX4_isSpare wsX2_rankOf := goodIn_r _ [54, 55, 56, 57, 42, 43, 44, 20, 21, 22, 23, 24, 25, 26, 27, 58, 59, 60, 52, 61, 62, 63, 64, 65, 66, 67, 68, 69, 70, 49, 50, 71, 72, 73, 74, 75, 76, 77, 78, 79, 80, 81, 82, 83, 84, 108, 109, 110, 107] (by decide +kernel) (by decide +kernel)
set_option maxRecDepth 20000 in
theorem gX4_isSpare_X2_rankOf_n186 : GoodIn wsX4_isSpare (wsX2_rankOf) := ggX4_isSpare_X2_rankOf
set_option maxRecDepth 20000 in
theorem ggX4_isSpare_X1_cut : GoodIn wsX4_isSpare wsX1_cut := goodIn_r _ [87, 24, 88, 83, 21, 84, 107] (by decide +kernel) (by decide +kernel)
set_option maxRecDepth 20000 in
theorem gX4_isSpare_X1_cut_n116 : GoodIn wsX4_isSpare (wsX1_cut) := ggX4_isSpare_X1_cut
theorem dX4_isSpare_0 : decode cX4_isSpare 0 = .ok (.aload_n 0, 1) := by decide +kernel
theorem dX4_isSpare_1 : decode cX4_isSpare 1 = .ok (.iload_n 1, 1) := by decide +kernel
theorem dX4_isSpare_2 : decode cX4_isSpare 2 = .ok (.invokevirtual 101, 3) := by decide +kernel
theorem dX4_isSpare_5 : decode cX4_isSpare 5 = .ok (.aload_n 0, 1) := by decide +kernel
theorem dX4_isSpare_6 : decode cX4_isSpare 6 = .ok (.iload_n 2, 1) := by decide +kernel
theorem dX4_isSpare_7 : decode cX4_isSpare 7 = .ok (.invokevirtual 101, 3) := by decide +kernel
theorem dX4_isSpare_10 : decode cX4_isSpare 10 = .ok (.aload_n 0, 1) := by decide +kernel
theorem dX4_isSpare_11 : decode cX4_isSpare 11 = .ok (.iload_n 1, 1) := by decide +kernel
theorem dX4_isSpare_12 : decode cX4_isSpare 12 = .ok (.iload_n 2, 1) := by decide +kernel
theorem dX4_isSpare_13 : decode cX4_isSpare 13 = .ok (.invokevirtual 122, 3) := by decide +kernel
theorem dX4_isSpare_16 : decode cX4_isSpare 16 = .ok (.ifCond .ne 13, 3) := by decide +kernel
theorem dX4_isSpare_19 : decode cX4_isSpare 19 = .ok (.new 196, 3) := by decide +kernel
theorem dX4_isSpare_22 : decode cX4_isSpare 22 = .ok (.dup, 1) := by decide +kernel
theorem dX4_isSpare_23 : decode cX4_isSpare 23 = .ok (.ldc 198, 2) := by decide +kernel
theorem dX4_isSpare_25 : decode cX4_isSpare 25 = .ok (.invokespecial 200, 3) := by decide +kernel
theorem dX4_isSpare_28 : decode cX4_isSpare 28 = .ok (.athrow, 1) := by decide +kernel
theorem dX4_isSpare_29 : decode cX4_isSpare 29 = .ok (.aload_n 0, 1) := by decide +kernel
theorem dX4_isSpare_30 : decode cX4_isSpare 30 = .ok (.invokevirtual 125, 3) := by decide +kernel
theorem dX4_isSpare_33 : decode cX4_isSpare 33 = .ok (.aload_n 0, 1) := by decide +kernel
theorem dX4_isSpare_34 : decode cX4_isSpare 34 = .ok (.getfield 66, 3) := by decide +kernel
theorem dX4_isSpare_37 : decode cX4_isSpare 37 = .ok (.aload_n 0, 1) := by decide +kernel
theorem dX4_isSpare_38 : decode cX4_isSpare 38 = .ok (.getfield 54, 3) := by decide +kernel
theorem dX4_isSpare_41 : decode cX4_isSpare 41 = .ok (.invokevirtual 186, 3) := by decide +kernel
theorem dX4_isSpare_44 : decode cX4_isSpare 44 = .ok (.istore_n 3, 1) := by decide +kernel
theorem dX4_isSpare_45 : decode cX4_isSpare 45 = .ok (.aload_n 0, 1) := by decide +kernel
theorem dX4_isSpare_46 : decode cX4_isSpare 46 = .ok (.getfield 54, 3) := by decide +kernel
theorem dX4_isSpare_49 : decode cX4_isSpare 49 = .ok (.iload_n 1, 1) := by decide +kernel
theorem dX4_isSpare_50 : decode cX4_isSpare 50 = .ok (.iload_n 2, 1) := by decide +kernel
theorem dX4_isSpare_51 : decode cX4_isSpare 51 = .ok (.invokevirtual 116, 3) := by decide +kernel
theorem dX4_isSpare_54 : decode cX4_isSpare 54 = .ok (.aload_n 0, 1) := by decide +kernel
theorem dX4_isSpare_55 : decode cX4_isSpare 55 = .ok (.getfield 66, 3) := by decide +kernel
theorem dX4_isSpare_58 : decode cX4_isSpare 58 = .ok (.aload_n 0, 1) := by decide +kernel
theorem dX4_isSpare_59 : decode cX4_isSpare 59 = .ok (.getfield 54, 3) := by decide +kernel
theorem dX4_isSpare_62 : decode cX4_isSpare 62 = .ok (.invokevirtual 186, 3) := by decide +kernel
theorem dX4_isSpare_65 : decode cX4_isSpare 65 = .ok (.iload_n 3, 1) := by decide +kernel
theorem dX4_isSpare_66 : decode cX4_isSpare 66 = .ok (.if_icmp .ne 7, 3) := by decide +kernel
theorem dX4_isSpare_69 : decode cX4_isSpare 69 = .ok (.iconst 1, 1) := by decide +kernel
theorem dX4_isSpare_70 : decode cX4_isSpare 70 = .ok (.goto 4, 3) := by decide +kernel
theorem dX4_isSpare_73 : decode cX4_isSpare 73 = .ok (.iconst 0, 1) := by decide +kernel
theorem dX4_isSpare_74 : decode cX4_isSpare 74 = .ok (.ireturn, 1) := by decide +kernel
theorem dX4_requireMember_0 : decode cX4_requireMember 0 = .ok (.iload_n 1, 1) := by decide +kernel
theorem dX4_requireMember_1 : decode cX4_requireMember 1 = .ok (.ifCond .lt 11, 3) := by decide +kernel
theorem dX4_requireMember_4 : decode cX4_requireMember 4 = .ok (.iload_n 1, 1) := by decide +kernel
theorem dX4_requireMember_5 : decode cX4_requireMember 5 = .ok (.aload_n 0, 1) := by decide +kernel
theorem dX4_requireMember_6 : decode cX4_requireMember 6 = .ok (.getfield 47, 3) := by decide +kernel
theorem dX4_requireMember_9 : decode cX4_requireMember 9 = .ok (.if_icmp .lt 13, 3) := by decide +kernel
theorem dX4_requireMember_12 : decode cX4_requireMember 12 = .ok (.new 201, 3) := by decide +kernel
theorem dX4_requireMember_15 : decode cX4_requireMember 15 = .ok (.dup, 1) := by decide +kernel
theorem dX4_requireMember_16 : decode cX4_requireMember 16 = .ok (.ldc 203, 2) := by decide +kernel
theorem dX4_requireMember_18 : decode cX4_requireMember 18 = .ok (.invokespecial 205, 3) := by decide +kernel
theorem dX4_requireMember_21 : decode cX4_requireMember 21 = .ok (.athrow, 1) := by decide +kernel
theorem dX4_requireMember_22 : decode cX4_requireMember 22 = .ok (.return_, 1) := by decide +kernel
set_option maxRecDepth 20000 in
theorem ggX4_requireUnlike_X4_requireMember : GoodIn wsX4_requireUnlike wsX4_requireMember := goodIn_ca (goodIn_r _ [7, 8, 9, 10, 11, 12, 13, 14, 15, 16, 17, 18, 19, 20, 21, 22, 23, 24, 25, 26, 27, 28] (by decide +kernel) (by decide +kernel)) (goodIn_sub (fun _ h => List.mem_cons_of_mem _ (List.mem_append_right _ h)) (by decide +kernel))
set_option maxRecDepth 20000 in
theorem gX4_requireUnlike_X4_requireMember : GoodIn wsX4_requireUnlike (wsV RX4 101 RX4 yX4_requireMember wsX4_requireMember) := goodIn_app (goodIn_of _ (by decide +kernel)) ggX4_requireUnlike_X4_requireMember
theorem dX4_requireUnlike_0 : decode cX4_requireUnlike 0 = .ok (.aload_n 0, 1) := by decide +kernel
theorem dX4_requireUnlike_1 : decode cX4_requireUnlike 1 = .ok (.iload_n 1, 1) := by decide +kernel
theorem dX4_requireUnlike_2 : decode cX4_requireUnlike 2 = .ok (.invokevirtual 101, 3) := by decide +kernel
theorem dX4_requireUnlike_5 : decode cX4_requireUnlike 5 = .ok (.aload_n 0, 1) := by decide +kernel
theorem dX4_requireUnlike_6 : decode cX4_requireUnlike 6 = .ok (.iload_n 2, 1) := by decide +kernel
theorem dX4_requireUnlike_7 : decode cX4_requireUnlike 7 = .ok (.invokevirtual 101, 3) := by decide +kernel
theorem dX4_requireUnlike_10 : decode cX4_requireUnlike 10 = .ok (.iload_n 1, 1) := by decide +kernel
theorem dX4_requireUnlike_11 : decode cX4_requireUnlike 11 = .ok (.iload_n 2, 1) := by decide +kernel
theorem dX4_requireUnlike_12 : decode cX4_requireUnlike 12 = .ok (.if_icmp .ne 13, 3) := by decide +kernel
theorem dX4_requireUnlike_15 : decode cX4_requireUnlike 15 = .ok (.new 206, 3) := by decide +kernel
theorem dX4_requireUnlike_18 : decode cX4_requireUnlike 18 = .ok (.dup, 1) := by decide +kernel
theorem dX4_requireUnlike_19 : decode cX4_requireUnlike 19 = .ok (.ldc 208, 2) := by decide +kernel
theorem dX4_requireUnlike_21 : decode cX4_requireUnlike 21 = .ok (.invokespecial 210, 3) := by decide +kernel
theorem dX4_requireUnlike_24 : decode cX4_requireUnlike 24 = .ok (.athrow, 1) := by decide +kernel
theorem dX4_requireUnlike_25 : decode cX4_requireUnlike 25 = .ok (.return_, 1) := by decide +kernel
theorem dX4_requireWithin_0 : decode cX4_requireWithin 0 = .ok (.iload_n 0, 1) := by decide +kernel
theorem dX4_requireWithin_1 : decode cX4_requireWithin 1 = .ok (.iload_n 1, 1) := by decide +kernel
theorem dX4_requireWithin_2 : decode cX4_requireWithin 2 = .ok (.if_icmp .lt 8, 3) := by decide +kernel
theorem dX4_requireWithin_5 : decode cX4_requireWithin 5 = .ok (.iload_n 0, 1) := by decide +kernel
theorem dX4_requireWithin_6 : decode cX4_requireWithin 6 = .ok (.iload_n 2, 1) := by decide +kernel
theorem dX4_requireWithin_7 : decode cX4_requireWithin 7 = .ok (.if_icmp .le 13, 3) := by decide +kernel
theorem dX4_requireWithin_10 : decode cX4_requireWithin 10 = .ok (.new 206, 3) := by decide +kernel
theorem dX4_requireWithin_13 : decode cX4_requireWithin 13 = .ok (.dup, 1) := by decide +kernel
theorem dX4_requireWithin_14 : decode cX4_requireWithin 14 = .ok (.ldc 211, 2) := by decide +kernel
theorem dX4_requireWithin_16 : decode cX4_requireWithin 16 = .ok (.invokespecial 210, 3) := by decide +kernel
theorem dX4_requireWithin_19 : decode cX4_requireWithin 19 = .ok (.athrow, 1) := by decide +kernel
theorem dX4_requireWithin_20 : decode cX4_requireWithin 20 = .ok (.return_, 1) := by decide +kernel
set_option maxRecDepth 20000 in
theorem ggX4_requirePlace_X4_requireWithin : GoodIn wsX4_requirePlace wsX4_requireWithin := goodIn_ca (goodIn_r _ [4, 5, 6] (by decide +kernel) (by decide +kernel)) (goodIn_sub (fun _ h => List.mem_cons_of_mem _ (List.mem_append_right _ h)) (by decide +kernel))
set_option maxRecDepth 20000 in
theorem gX4_requirePlace_X4_requireWithin : GoodIn wsX4_requirePlace (va_wsS RX4 105 yX4_requireWithin wsX4_requireWithin) := goodIn_app (goodIn_of _ (by decide +kernel)) ggX4_requirePlace_X4_requireWithin
theorem dX4_requirePlace_0 : decode cX4_requirePlace 0 = .ok (.iload_n 0, 1) := by decide +kernel
theorem dX4_requirePlace_1 : decode cX4_requirePlace 1 = .ok (.sipush (-1000), 3) := by decide +kernel
theorem dX4_requirePlace_4 : decode cX4_requirePlace 4 = .ok (.sipush 1000, 3) := by decide +kernel
theorem dX4_requirePlace_7 : decode cX4_requirePlace 7 = .ok (.invokestatic 105, 3) := by decide +kernel
theorem dX4_requirePlace_10 : decode cX4_requirePlace 10 = .ok (.iload_n 1, 1) := by decide +kernel
theorem dX4_requirePlace_11 : decode cX4_requirePlace 11 = .ok (.sipush (-1000), 3) := by decide +kernel
theorem dX4_requirePlace_14 : decode cX4_requirePlace 14 = .ok (.sipush 1000, 3) := by decide +kernel
theorem dX4_requirePlace_17 : decode cX4_requirePlace 17 = .ok (.invokestatic 105, 3) := by decide +kernel
theorem dX4_requirePlace_20 : decode cX4_requirePlace 20 = .ok (.return_, 1) := by decide +kernel
set_option maxRecDepth 20000 in
theorem ggX4_requireValue_X4_requireWithin : GoodIn wsX4_requireValue wsX4_requireWithin := goodIn_ca (goodIn_r _ [6, 7, 8] (by decide +kernel) (by decide +kernel)) (goodIn_sub (fun _ h => List.mem_cons_of_mem _ (List.mem_append_right _ h)) (by decide +kernel))
set_option maxRecDepth 20000 in
theorem gX4_requireValue_X4_requireWithin : GoodIn wsX4_requireValue (va_wsS RX4 105 yX4_requireWithin wsX4_requireWithin) := goodIn_app (goodIn_of _ (by decide +kernel)) ggX4_requireValue_X4_requireWithin
theorem dX4_requireValue_0 : decode cX4_requireValue 0 = .ok (.iload_n 0, 1) := by decide +kernel
theorem dX4_requireValue_1 : decode cX4_requireValue 1 = .ok (.ldc 213, 2) := by decide +kernel
theorem dX4_requireValue_3 : decode cX4_requireValue 3 = .ok (.ldc 214, 2) := by decide +kernel
theorem dX4_requireValue_5 : decode cX4_requireValue 5 = .ok (.invokestatic 105, 3) := by decide +kernel
theorem dX4_requireValue_8 : decode cX4_requireValue 8 = .ok (.return_, 1) := by decide +kernel
set_option maxRecDepth 20000 in
theorem ggX4_requireRounds_X4_requireWithin : GoodIn wsX4_requireRounds wsX4_requireWithin := goodIn_ca (goodIn_r _ [4, 5, 6] (by decide +kernel) (by decide +kernel)) (goodIn_sub (fun _ h => List.mem_cons_of_mem _ (List.mem_append_right _ h)) (by decide +kernel))
set_option maxRecDepth 20000 in
theorem gX4_requireRounds_X4_requireWithin : GoodIn wsX4_requireRounds (va_wsS RX4 105 yX4_requireWithin wsX4_requireWithin) := goodIn_app (goodIn_of _ (by decide +kernel)) ggX4_requireRounds_X4_requireWithin
theorem dX4_requireRounds_0 : decode cX4_requireRounds 0 = .ok (.iload_n 0, 1) := by decide +kernel
theorem dX4_requireRounds_1 : decode cX4_requireRounds 1 = .ok (.iconst 1, 1) := by decide +kernel
theorem dX4_requireRounds_2 : decode cX4_requireRounds 2 = .ok (.bipush 50, 2) := by decide +kernel
theorem dX4_requireRounds_4 : decode cX4_requireRounds 4 = .ok (.invokestatic 105, 3) := by decide +kernel
theorem dX4_requireRounds_7 : decode cX4_requireRounds 7 = .ok (.return_, 1) := by decide +kernel
theorem dX4_squareBetween_0 : decode cX4_squareBetween 0 = .ok (.aload_n 0, 1) := by decide +kernel
theorem dX4_squareBetween_1 : decode cX4_squareBetween 1 = .ok (.getfield 9, 3) := by decide +kernel
theorem dX4_squareBetween_4 : decode cX4_squareBetween 4 = .ok (.iload_n 1, 1) := by decide +kernel
theorem dX4_squareBetween_5 : decode cX4_squareBetween 5 = .ok (.iaload, 1) := by decide +kernel
theorem dX4_squareBetween_6 : decode cX4_squareBetween 6 = .ok (.aload_n 0, 1) := by decide +kernel
theorem dX4_squareBetween_7 : decode cX4_squareBetween 7 = .ok (.getfield 9, 3) := by decide +kernel
theorem dX4_squareBetween_10 : decode cX4_squareBetween 10 = .ok (.iload_n 2, 1) := by decide +kernel
theorem dX4_squareBetween_11 : decode cX4_squareBetween 11 = .ok (.iaload, 1) := by decide +kernel
theorem dX4_squareBetween_12 : decode cX4_squareBetween 12 = .ok (.isub, 1) := by decide +kernel
theorem dX4_squareBetween_13 : decode cX4_squareBetween 13 = .ok (.istore_n 3, 1) := by decide +kernel
theorem dX4_squareBetween_14 : decode cX4_squareBetween 14 = .ok (.aload_n 0, 1) := by decide +kernel
theorem dX4_squareBetween_15 : decode cX4_squareBetween 15 = .ok (.getfield 13, 3) := by decide +kernel
theorem dX4_squareBetween_18 : decode cX4_squareBetween 18 = .ok (.iload_n 1, 1) := by decide +kernel
theorem dX4_squareBetween_19 : decode cX4_squareBetween 19 = .ok (.iaload, 1) := by decide +kernel
theorem dX4_squareBetween_20 : decode cX4_squareBetween 20 = .ok (.aload_n 0, 1) := by decide +kernel
theorem dX4_squareBetween_21 : decode cX4_squareBetween 21 = .ok (.getfield 13, 3) := by decide +kernel
theorem dX4_squareBetween_24 : decode cX4_squareBetween 24 = .ok (.iload_n 2, 1) := by decide +kernel
theorem dX4_squareBetween_25 : decode cX4_squareBetween 25 = .ok (.iaload, 1) := by decide +kernel
theorem dX4_squareBetween_26 : decode cX4_squareBetween 26 = .ok (.isub, 1) := by decide +kernel
theorem dX4_squareBetween_27 : decode cX4_squareBetween 27 = .ok (.istore 4, 2) := by decide +kernel
theorem dX4_squareBetween_29 : decode cX4_squareBetween 29 = .ok (.iload_n 3, 1) := by decide +kernel
theorem dX4_squareBetween_30 : decode cX4_squareBetween 30 = .ok (.iload_n 3, 1) := by decide +kernel
theorem dX4_squareBetween_31 : decode cX4_squareBetween 31 = .ok (.imul, 1) := by decide +kernel
theorem dX4_squareBetween_32 : decode cX4_squareBetween 32 = .ok (.iload 4, 2) := by decide +kernel
theorem dX4_squareBetween_34 : decode cX4_squareBetween 34 = .ok (.iload 4, 2) := by decide +kernel
theorem dX4_squareBetween_36 : decode cX4_squareBetween 36 = .ok (.imul, 1) := by decide +kernel
theorem dX4_squareBetween_37 : decode cX4_squareBetween 37 = .ok (.iadd, 1) := by decide +kernel
theorem dX4_squareBetween_38 : decode cX4_squareBetween 38 = .ok (.ireturn, 1) := by decide +kernel
set_option maxRecDepth 20000 in
theorem ggX4_hears_X1_joins : GoodIn wsX4_hears wsX1_joins := goodIn_r _ [7, 8, 9, 10, 5, 11, 37] (by decide +kernel) (by decide +kernel)
set_option maxRecDepth 20000 in
theorem gX4_hears_X1_joins_n112 : GoodIn wsX4_hears (wsX1_joins) := ggX4_hears_X1_joins
set_option maxRecDepth 20000 in
theorem ggX4_hears_X4_squareBetween : GoodIn wsX4_hears wsX4_squareBetween := goodIn_r _ [16, 17, 18, 19, 20, 21, 22, 23, 24, 25, 26, 27, 28, 29, 30, 31, 32, 33, 34, 35, 36] (by decide +kernel) (by decide +kernel)
set_option maxRecDepth 20000 in
theorem gX4_hears_X4_squareBetween : GoodIn wsX4_hears (wsV RX4 215 RX4 yX4_squareBetween wsX4_squareBetween) := goodIn_app (goodIn_of _ (by decide +kernel)) ggX4_hears_X4_squareBetween
theorem dX4_hears_0 : decode cX4_hears 0 = .ok (.iload_n 1, 1) := by decide +kernel
theorem dX4_hears_1 : decode cX4_hears 1 = .ok (.iload_n 2, 1) := by decide +kernel
theorem dX4_hears_2 : decode cX4_hears 2 = .ok (.if_icmp .eq 55, 3) := by decide +kernel
theorem dX4_hears_5 : decode cX4_hears 5 = .ok (.aload_n 0, 1) := by decide +kernel
theorem dX4_hears_6 : decode cX4_hears 6 = .ok (.getfield 16, 3) := by decide +kernel
theorem dX4_hears_9 : decode cX4_hears 9 = .ok (.iload_n 1, 1) := by decide +kernel
theorem dX4_hears_10 : decode cX4_hears 10 = .ok (.baload, 1) := by decide +kernel
theorem dX4_hears_11 : decode cX4_hears 11 = .ok (.ifCond .eq 46, 3) := by decide +kernel
theorem dX4_hears_14 : decode cX4_hears 14 = .ok (.aload_n 0, 1) := by decide +kernel
theorem dX4_hears_15 : decode cX4_hears 15 = .ok (.getfield 16, 3) := by decide +kernel
theorem dX4_hears_18 : decode cX4_hears 18 = .ok (.iload_n 2, 1) := by decide +kernel
theorem dX4_hears_19 : decode cX4_hears 19 = .ok (.baload, 1) := by decide +kernel
theorem dX4_hears_20 : decode cX4_hears 20 = .ok (.ifCond .eq 37, 3) := by decide +kernel
theorem dX4_hears_23 : decode cX4_hears 23 = .ok (.aload_n 0, 1) := by decide +kernel
theorem dX4_hears_24 : decode cX4_hears 24 = .ok (.getfield 43, 3) := by decide +kernel
theorem dX4_hears_27 : decode cX4_hears 27 = .ok (.iload_n 1, 1) := by decide +kernel
theorem dX4_hears_28 : decode cX4_hears 28 = .ok (.iload_n 2, 1) := by decide +kernel
theorem dX4_hears_29 : decode cX4_hears 29 = .ok (.invokevirtual 112, 3) := by decide +kernel
theorem dX4_hears_32 : decode cX4_hears 32 = .ok (.ifCond .ne 25, 3) := by decide +kernel
theorem dX4_hears_35 : decode cX4_hears 35 = .ok (.aload_n 0, 1) := by decide +kernel
theorem dX4_hears_36 : decode cX4_hears 36 = .ok (.iload_n 1, 1) := by decide +kernel
theorem dX4_hears_37 : decode cX4_hears 37 = .ok (.iload_n 2, 1) := by decide +kernel
theorem dX4_hears_38 : decode cX4_hears 38 = .ok (.invokevirtual 215, 3) := by decide +kernel
theorem dX4_hears_41 : decode cX4_hears 41 = .ok (.aload_n 0, 1) := by decide +kernel
theorem dX4_hears_42 : decode cX4_hears 42 = .ok (.getfield 51, 3) := by decide +kernel
theorem dX4_hears_45 : decode cX4_hears 45 = .ok (.aload_n 0, 1) := by decide +kernel
theorem dX4_hears_46 : decode cX4_hears 46 = .ok (.getfield 51, 3) := by decide +kernel
theorem dX4_hears_49 : decode cX4_hears 49 = .ok (.imul, 1) := by decide +kernel
theorem dX4_hears_50 : decode cX4_hears 50 = .ok (.if_icmp .gt 7, 3) := by decide +kernel
theorem dX4_hears_53 : decode cX4_hears 53 = .ok (.iconst 1, 1) := by decide +kernel
theorem dX4_hears_54 : decode cX4_hears 54 = .ok (.goto 4, 3) := by decide +kernel
theorem dX4_hears_57 : decode cX4_hears 57 = .ok (.iconst 0, 1) := by decide +kernel
theorem dX4_hears_58 : decode cX4_hears 58 = .ok (.ireturn, 1) := by decide +kernel
set_option maxRecDepth 20000 in
theorem ggX4_drawNet_X1_clear : GoodIn wsX4_drawNet wsX1_clear := goodIn_r _ [6, 7, 8, 9, 10, 11, 56] (by decide +kernel) (by decide +kernel)
set_option maxRecDepth 20000 in
theorem gX4_drawNet_X1_clear_n218 : GoodIn wsX4_drawNet (wsX1_clear) := ggX4_drawNet_X1_clear
set_option maxRecDepth 20000 in
theorem ggX4_drawNet_X4_hears : GoodIn wsX4_drawNet wsX4_hears := goodIn_r _ [16, 17, 18, 19, 20, 4, 21, 22, 7, 23, 24, 25, 26, 27, 28, 15, 29, 30, 31, 38, 39, 40, 41, 42, 43, 44, 45, 46, 47, 48, 49, 50, 51, 52, 53, 54, 55, 56] (by decide +kernel) (by decide +kernel)
set_option maxRecDepth 20000 in
theorem gX4_drawNet_X4_hears : GoodIn wsX4_drawNet (wsV RX4 122 RX4 yX4_hears wsX4_hears) := goodIn_app (goodIn_of _ (by decide +kernel)) ggX4_drawNet_X4_hears
set_option maxRecDepth 20000 in
theorem ggX4_drawNet_X1_join : GoodIn wsX4_drawNet wsX1_join := goodIn_r _ [34, 7, 35, 36, 4, 37, 56] (by decide +kernel) (by decide +kernel)
set_option maxRecDepth 20000 in
theorem gX4_drawNet_X1_join_n119 : GoodIn wsX4_drawNet (wsX1_join) := ggX4_drawNet_X1_join
theorem dX4_drawNet_0 : decode cX4_drawNet 0 = .ok (.aload_n 0, 1) := by decide +kernel
theorem dX4_drawNet_1 : decode cX4_drawNet 1 = .ok (.getfield 54, 3) := by decide +kernel
theorem dX4_drawNet_4 : decode cX4_drawNet 4 = .ok (.invokevirtual 218, 3) := by decide +kernel
theorem dX4_drawNet_7 : decode cX4_drawNet 7 = .ok (.iconst 0, 1) := by decide +kernel
theorem dX4_drawNet_8 : decode cX4_drawNet 8 = .ok (.istore_n 1, 1) := by decide +kernel
theorem dX4_drawNet_9 : decode cX4_drawNet 9 = .ok (.iload_n 1, 1) := by decide +kernel
theorem dX4_drawNet_10 : decode cX4_drawNet 10 = .ok (.aload_n 0, 1) := by decide +kernel
theorem dX4_drawNet_11 : decode cX4_drawNet 11 = .ok (.getfield 47, 3) := by decide +kernel
theorem dX4_drawNet_14 : decode cX4_drawNet 14 = .ok (.if_icmp .ge 40, 3) := by decide +kernel
theorem dX4_drawNet_17 : decode cX4_drawNet 17 = .ok (.iconst 0, 1) := by decide +kernel
theorem dX4_drawNet_18 : decode cX4_drawNet 18 = .ok (.istore_n 2, 1) := by decide +kernel
theorem dX4_drawNet_19 : decode cX4_drawNet 19 = .ok (.iload_n 2, 1) := by decide +kernel
theorem dX4_drawNet_20 : decode cX4_drawNet 20 = .ok (.iload_n 1, 1) := by decide +kernel
theorem dX4_drawNet_21 : decode cX4_drawNet 21 = .ok (.if_icmp .ge 27, 3) := by decide +kernel
theorem dX4_drawNet_24 : decode cX4_drawNet 24 = .ok (.aload_n 0, 1) := by decide +kernel
theorem dX4_drawNet_25 : decode cX4_drawNet 25 = .ok (.iload_n 1, 1) := by decide +kernel
theorem dX4_drawNet_26 : decode cX4_drawNet 26 = .ok (.iload_n 2, 1) := by decide +kernel
theorem dX4_drawNet_27 : decode cX4_drawNet 27 = .ok (.invokevirtual 122, 3) := by decide +kernel
theorem dX4_drawNet_30 : decode cX4_drawNet 30 = .ok (.ifCond .eq 12, 3) := by decide +kernel
theorem dX4_drawNet_33 : decode cX4_drawNet 33 = .ok (.aload_n 0, 1) := by decide +kernel
theorem dX4_drawNet_34 : decode cX4_drawNet 34 = .ok (.getfield 54, 3) := by decide +kernel
theorem dX4_drawNet_37 : decode cX4_drawNet 37 = .ok (.iload_n 1, 1) := by decide +kernel
theorem dX4_drawNet_38 : decode cX4_drawNet 38 = .ok (.iload_n 2, 1) := by decide +kernel
theorem dX4_drawNet_39 : decode cX4_drawNet 39 = .ok (.invokevirtual 119, 3) := by decide +kernel
theorem dX4_drawNet_42 : decode cX4_drawNet 42 = .ok (.iinc 2 1, 3) := by decide +kernel
theorem dX4_drawNet_45 : decode cX4_drawNet 45 = .ok (.goto (-26), 3) := by decide +kernel
theorem dX4_drawNet_48 : decode cX4_drawNet 48 = .ok (.iinc 1 1, 3) := by decide +kernel
theorem dX4_drawNet_51 : decode cX4_drawNet 51 = .ok (.goto (-42), 3) := by decide +kernel
theorem dX4_drawNet_54 : decode cX4_drawNet 54 = .ok (.return_, 1) := by decide +kernel
set_option maxRecDepth 20000 in
theorem ggX4_countGroups_X1_holds : GoodIn wsX4_countGroups wsX1_holds := goodIn_r _ [6] (by decide +kernel) (by decide +kernel)
set_option maxRecDepth 20000 in
theorem gX4_countGroups_X1_holds_n142 : GoodIn wsX4_countGroups (wsX1_holds) := ggX4_countGroups_X1_holds
set_option maxRecDepth 20000 in
theorem ggX4_countGroups_X1_groupOf : GoodIn wsX4_countGroups wsX1_groupOf := goodIn_r _ [9, 10, 11, 12, 5, 13, 14, 4, 6, 33] (by decide +kernel) (by decide +kernel)
set_option maxRecDepth 20000 in
theorem gX4_countGroups_X1_groupOf_n139 : GoodIn wsX4_countGroups (wsX1_groupOf) := ggX4_countGroups_X1_groupOf
theorem dX4_countGroups_0 : decode cX4_countGroups 0 = .ok (.iconst 0, 1) := by decide +kernel
theorem dX4_countGroups_1 : decode cX4_countGroups 1 = .ok (.istore_n 1, 1) := by decide +kernel
theorem dX4_countGroups_2 : decode cX4_countGroups 2 = .ok (.iconst 0, 1) := by decide +kernel
theorem dX4_countGroups_3 : decode cX4_countGroups 3 = .ok (.istore_n 2, 1) := by decide +kernel
theorem dX4_countGroups_4 : decode cX4_countGroups 4 = .ok (.iconst 0, 1) := by decide +kernel
theorem dX4_countGroups_5 : decode cX4_countGroups 5 = .ok (.istore_n 3, 1) := by decide +kernel
theorem dX4_countGroups_6 : decode cX4_countGroups 6 = .ok (.iload_n 3, 1) := by decide +kernel
theorem dX4_countGroups_7 : decode cX4_countGroups 7 = .ok (.aload_n 0, 1) := by decide +kernel
theorem dX4_countGroups_8 : decode cX4_countGroups 8 = .ok (.getfield 47, 3) := by decide +kernel
theorem dX4_countGroups_11 : decode cX4_countGroups 11 = .ok (.if_icmp .ge 40, 3) := by decide +kernel
theorem dX4_countGroups_14 : decode cX4_countGroups 14 = .ok (.aload_n 0, 1) := by decide +kernel
theorem dX4_countGroups_15 : decode cX4_countGroups 15 = .ok (.getfield 16, 3) := by decide +kernel
theorem dX4_countGroups_18 : decode cX4_countGroups 18 = .ok (.iload_n 3, 1) := by decide +kernel
theorem dX4_countGroups_19 : decode cX4_countGroups 19 = .ok (.baload, 1) := by decide +kernel
theorem dX4_countGroups_20 : decode cX4_countGroups 20 = .ok (.ifCond .eq 25, 3) := by decide +kernel
theorem dX4_countGroups_23 : decode cX4_countGroups 23 = .ok (.iload_n 2, 1) := by decide +kernel
theorem dX4_countGroups_24 : decode cX4_countGroups 24 = .ok (.iload_n 3, 1) := by decide +kernel
theorem dX4_countGroups_25 : decode cX4_countGroups 25 = .ok (.invokestatic 142, 3) := by decide +kernel
theorem dX4_countGroups_28 : decode cX4_countGroups 28 = .ok (.ifCond .ne 17, 3) := by decide +kernel
theorem dX4_countGroups_31 : decode cX4_countGroups 31 = .ok (.iload_n 2, 1) := by decide +kernel
theorem dX4_countGroups_32 : decode cX4_countGroups 32 = .ok (.aload_n 0, 1) := by decide +kernel
theorem dX4_countGroups_33 : decode cX4_countGroups 33 = .ok (.getfield 54, 3) := by decide +kernel
theorem dX4_countGroups_36 : decode cX4_countGroups 36 = .ok (.iload_n 3, 1) := by decide +kernel
theorem dX4_countGroups_37 : decode cX4_countGroups 37 = .ok (.invokevirtual 139, 3) := by decide +kernel
theorem dX4_countGroups_40 : decode cX4_countGroups 40 = .ok (.ior, 1) := by decide +kernel
theorem dX4_countGroups_41 : decode cX4_countGroups 41 = .ok (.istore_n 2, 1) := by decide +kernel
theorem dX4_countGroups_42 : decode cX4_countGroups 42 = .ok (.iinc 1 1, 3) := by decide +kernel
theorem dX4_countGroups_45 : decode cX4_countGroups 45 = .ok (.iinc 3 1, 3) := by decide +kernel
theorem dX4_countGroups_48 : decode cX4_countGroups 48 = .ok (.goto (-42), 3) := by decide +kernel
theorem dX4_countGroups_51 : decode cX4_countGroups 51 = .ok (.iload_n 1, 1) := by decide +kernel
theorem dX4_countGroups_52 : decode cX4_countGroups 52 = .ok (.ireturn, 1) := by decide +kernel
set_option maxRecDepth 20000 in
theorem ggX4_upSet_X1_with : GoodIn wsX4_upSet wsX1_with := goodIn_r _ [5] (by decide +kernel) (by decide +kernel)
set_option maxRecDepth 20000 in
theorem gX4_upSet_X1_with_n221 : GoodIn wsX4_upSet (wsX1_with) := ggX4_upSet_X1_with
theorem dX4_upSet_0 : decode cX4_upSet 0 = .ok (.iconst 0, 1) := by decide +kernel
theorem dX4_upSet_1 : decode cX4_upSet 1 = .ok (.istore_n 1, 1) := by decide +kernel
theorem dX4_upSet_2 : decode cX4_upSet 2 = .ok (.iconst 0, 1) := by decide +kernel
theorem dX4_upSet_3 : decode cX4_upSet 3 = .ok (.istore_n 2, 1) := by decide +kernel
theorem dX4_upSet_4 : decode cX4_upSet 4 = .ok (.iload_n 2, 1) := by decide +kernel
theorem dX4_upSet_5 : decode cX4_upSet 5 = .ok (.aload_n 0, 1) := by decide +kernel
theorem dX4_upSet_6 : decode cX4_upSet 6 = .ok (.getfield 47, 3) := by decide +kernel
theorem dX4_upSet_9 : decode cX4_upSet 9 = .ok (.if_icmp .ge 24, 3) := by decide +kernel
theorem dX4_upSet_12 : decode cX4_upSet 12 = .ok (.aload_n 0, 1) := by decide +kernel
theorem dX4_upSet_13 : decode cX4_upSet 13 = .ok (.getfield 16, 3) := by decide +kernel
theorem dX4_upSet_16 : decode cX4_upSet 16 = .ok (.iload_n 2, 1) := by decide +kernel
theorem dX4_upSet_17 : decode cX4_upSet 17 = .ok (.baload, 1) := by decide +kernel
theorem dX4_upSet_18 : decode cX4_upSet 18 = .ok (.ifCond .eq 9, 3) := by decide +kernel
theorem dX4_upSet_21 : decode cX4_upSet 21 = .ok (.iload_n 1, 1) := by decide +kernel
theorem dX4_upSet_22 : decode cX4_upSet 22 = .ok (.iload_n 2, 1) := by decide +kernel
theorem dX4_upSet_23 : decode cX4_upSet 23 = .ok (.invokestatic 221, 3) := by decide +kernel
theorem dX4_upSet_26 : decode cX4_upSet 26 = .ok (.istore_n 1, 1) := by decide +kernel
theorem dX4_upSet_27 : decode cX4_upSet 27 = .ok (.iinc 2 1, 3) := by decide +kernel
theorem dX4_upSet_30 : decode cX4_upSet 30 = .ok (.goto (-26), 3) := by decide +kernel
theorem dX4_upSet_33 : decode cX4_upSet 33 = .ok (.iload_n 1, 1) := by decide +kernel
theorem dX4_upSet_34 : decode cX4_upSet 34 = .ok (.ireturn, 1) := by decide +kernel
theorem dX4_outranks_0 : decode cX4_outranks 0 = .ok (.aload_n 0, 1) := by decide +kernel
theorem dX4_outranks_1 : decode cX4_outranks 1 = .ok (.getfield 20, 3) := by decide +kernel
theorem dX4_outranks_4 : decode cX4_outranks 4 = .ok (.iload_n 1, 1) := by decide +kernel
theorem dX4_outranks_5 : decode cX4_outranks 5 = .ok (.iaload, 1) := by decide +kernel
theorem dX4_outranks_6 : decode cX4_outranks 6 = .ok (.aload_n 0, 1) := by decide +kernel
theorem dX4_outranks_7 : decode cX4_outranks 7 = .ok (.getfield 20, 3) := by decide +kernel
theorem dX4_outranks_10 : decode cX4_outranks 10 = .ok (.iload_n 2, 1) := by decide +kernel
theorem dX4_outranks_11 : decode cX4_outranks 11 = .ok (.iaload, 1) := by decide +kernel
theorem dX4_outranks_12 : decode cX4_outranks 12 = .ok (.if_icmp .eq 24, 3) := by decide +kernel
theorem dX4_outranks_15 : decode cX4_outranks 15 = .ok (.aload_n 0, 1) := by decide +kernel
theorem dX4_outranks_16 : decode cX4_outranks 16 = .ok (.getfield 20, 3) := by decide +kernel
theorem dX4_outranks_19 : decode cX4_outranks 19 = .ok (.iload_n 1, 1) := by decide +kernel
theorem dX4_outranks_20 : decode cX4_outranks 20 = .ok (.iaload, 1) := by decide +kernel
theorem dX4_outranks_21 : decode cX4_outranks 21 = .ok (.aload_n 0, 1) := by decide +kernel
theorem dX4_outranks_22 : decode cX4_outranks 22 = .ok (.getfield 20, 3) := by decide +kernel
theorem dX4_outranks_25 : decode cX4_outranks 25 = .ok (.iload_n 2, 1) := by decide +kernel
theorem dX4_outranks_26 : decode cX4_outranks 26 = .ok (.iaload, 1) := by decide +kernel
theorem dX4_outranks_27 : decode cX4_outranks 27 = .ok (.if_icmp .le 7, 3) := by decide +kernel
theorem dX4_outranks_30 : decode cX4_outranks 30 = .ok (.iconst 1, 1) := by decide +kernel
theorem dX4_outranks_31 : decode cX4_outranks 31 = .ok (.goto 4, 3) := by decide +kernel
theorem dX4_outranks_34 : decode cX4_outranks 34 = .ok (.iconst 0, 1) := by decide +kernel
theorem dX4_outranks_35 : decode cX4_outranks 35 = .ok (.ireturn, 1) := by decide +kernel
theorem dX4_outranks_36 : decode cX4_outranks 36 = .ok (.iload_n 1, 1) := by decide +kernel
theorem dX4_outranks_37 : decode cX4_outranks 37 = .ok (.iload_n 2, 1) := by decide +kernel
theorem dX4_outranks_38 : decode cX4_outranks 38 = .ok (.if_icmp .ge 7, 3) := by decide +kernel
theorem dX4_outranks_41 : decode cX4_outranks 41 = .ok (.iconst 1, 1) := by decide +kernel
theorem dX4_outranks_42 : decode cX4_outranks 42 = .ok (.goto 4, 3) := by decide +kernel
theorem dX4_outranks_45 : decode cX4_outranks 45 = .ok (.iconst 0, 1) := by decide +kernel
theorem dX4_outranks_46 : decode cX4_outranks 46 = .ok (.ireturn, 1) := by decide +kernel
set_option maxRecDepth 20000 in
theorem ggX4_exchangeEstimates_J7_fill_53178 : GoodIn wsX4_exchangeEstimates wsJ7_fill_53178 := goodIn_r _ [8] (by decide +kernel) (by decide +kernel)
set_option maxRecDepth 20000 in
theorem gX4_exchangeEstimates_J7_fill_53178 : GoodIn wsX4_exchangeEstimates (va_wsS RX4 84 yJ7_fill_53178 wsJ7_fill_53178) := goodIn_app (goodIn_of _ (by decide +kernel)) ggX4_exchangeEstimates_J7_fill_53178
set_option maxRecDepth 20000 in
theorem ggX4_exchangeEstimates_X1_joins : GoodIn wsX4_exchangeEstimates wsX1_joins := goodIn_r _ [12, 13, 14, 15, 10, 16, 58] (by decide +kernel) (by decide +kernel)
set_option maxRecDepth 20000 in
theorem gX4_exchangeEstimates_X1_joins_n112 : GoodIn wsX4_exchangeEstimates (wsX1_joins) := ggX4_exchangeEstimates_X1_joins
set_option maxRecDepth 20000 in
theorem ggX4_exchangeEstimates_X4_flowBetween : GoodIn wsX4_exchangeEstimates wsX4_flowBetween := goodIn_r _ [21, 3, 22, 23, 24, 25, 4, 26, 10, 27, 28, 13, 29, 30, 31, 32, 33, 34, 35, 40, 41, 42, 43, 44, 45, 46, 47, 48, 49, 50, 51, 52, 53, 54, 55, 56, 57, 58] (by decide +kernel) (by decide +kernel)
set_option maxRecDepth 20000 in
theorem gX4_exchangeEstimates_X4_flowBetween : GoodIn wsX4_exchangeEstimates (wsV RX4 224 RX4 yX4_flowBetween wsX4_flowBetween) := goodIn_app (goodIn_of _ (by decide +kernel)) ggX4_exchangeEstimates_X4_flowBetween
set_option maxRecDepth 20000 in
theorem ggX4_exchangeEstimates_X4_addChanges : GoodIn wsX4_exchangeEstimates wsX4_addChanges := goodIn_r _ [39, 2, 40, 41, 42, 43, 44, 45, 46, 47, 48, 49, 50, 51, 52, 53, 54, 55, 56, 57] (by decide +kernel) (by decide +kernel)
set_option maxRecDepth 20000 in
theorem gX4_exchangeEstimates_X4_addChanges : GoodIn wsX4_exchangeEstimates (wsV RX4 227 RX4 yX4_addChanges wsX4_addChanges) := goodIn_app (goodIn_of _ (by decide +kernel)) ggX4_exchangeEstimates_X4_addChanges
theorem dX4_exchangeEstimates_0 : decode cX4_exchangeEstimates 0 = .ok (.aload_n 0, 1) := by decide +kernel
theorem dX4_exchangeEstimates_1 : decode cX4_exchangeEstimates 1 = .ok (.getfield 57, 3) := by decide +kernel
theorem dX4_exchangeEstimates_4 : decode cX4_exchangeEstimates 4 = .ok (.iconst 0, 1) := by decide +kernel
theorem dX4_exchangeEstimates_5 : decode cX4_exchangeEstimates 5 = .ok (.invokestatic 84, 3) := by decide +kernel
theorem dX4_exchangeEstimates_8 : decode cX4_exchangeEstimates 8 = .ok (.iconst 0, 1) := by decide +kernel
theorem dX4_exchangeEstimates_9 : decode cX4_exchangeEstimates 9 = .ok (.istore_n 1, 1) := by decide +kernel
theorem dX4_exchangeEstimates_10 : decode cX4_exchangeEstimates 10 = .ok (.iload_n 1, 1) := by decide +kernel
theorem dX4_exchangeEstimates_11 : decode cX4_exchangeEstimates 11 = .ok (.aload_n 0, 1) := by decide +kernel
theorem dX4_exchangeEstimates_12 : decode cX4_exchangeEstimates 12 = .ok (.getfield 47, 3) := by decide +kernel
theorem dX4_exchangeEstimates_15 : decode cX4_exchangeEstimates 15 = .ok (.if_icmp .ge 66, 3) := by decide +kernel
theorem dX4_exchangeEstimates_18 : decode cX4_exchangeEstimates 18 = .ok (.iload_n 1, 1) := by decide +kernel
theorem dX4_exchangeEstimates_19 : decode cX4_exchangeEstimates 19 = .ok (.iconst 1, 1) := by decide +kernel
theorem dX4_exchangeEstimates_20 : decode cX4_exchangeEstimates 20 = .ok (.iadd, 1) := by decide +kernel
theorem dX4_exchangeEstimates_21 : decode cX4_exchangeEstimates 21 = .ok (.istore_n 2, 1) := by decide +kernel
theorem dX4_exchangeEstimates_22 : decode cX4_exchangeEstimates 22 = .ok (.iload_n 2, 1) := by decide +kernel
theorem dX4_exchangeEstimates_23 : decode cX4_exchangeEstimates 23 = .ok (.aload_n 0, 1) := by decide +kernel
theorem dX4_exchangeEstimates_24 : decode cX4_exchangeEstimates 24 = .ok (.getfield 47, 3) := by decide +kernel
theorem dX4_exchangeEstimates_27 : decode cX4_exchangeEstimates 27 = .ok (.if_icmp .ge 48, 3) := by decide +kernel
theorem dX4_exchangeEstimates_30 : decode cX4_exchangeEstimates 30 = .ok (.aload_n 0, 1) := by decide +kernel
theorem dX4_exchangeEstimates_31 : decode cX4_exchangeEstimates 31 = .ok (.getfield 54, 3) := by decide +kernel
theorem dX4_exchangeEstimates_34 : decode cX4_exchangeEstimates 34 = .ok (.iload_n 1, 1) := by decide +kernel
theorem dX4_exchangeEstimates_35 : decode cX4_exchangeEstimates 35 = .ok (.iload_n 2, 1) := by decide +kernel
theorem dX4_exchangeEstimates_36 : decode cX4_exchangeEstimates 36 = .ok (.invokevirtual 112, 3) := by decide +kernel
theorem dX4_exchangeEstimates_39 : decode cX4_exchangeEstimates 39 = .ok (.ifCond .eq 30, 3) := by decide +kernel
theorem dX4_exchangeEstimates_42 : decode cX4_exchangeEstimates 42 = .ok (.aload_n 0, 1) := by decide +kernel
theorem dX4_exchangeEstimates_43 : decode cX4_exchangeEstimates 43 = .ok (.iload_n 1, 1) := by decide +kernel
theorem dX4_exchangeEstimates_44 : decode cX4_exchangeEstimates 44 = .ok (.iload_n 2, 1) := by decide +kernel
theorem dX4_exchangeEstimates_45 : decode cX4_exchangeEstimates 45 = .ok (.invokevirtual 224, 3) := by decide +kernel
theorem dX4_exchangeEstimates_48 : decode cX4_exchangeEstimates 48 = .ok (.istore_n 3, 1) := by decide +kernel
theorem dX4_exchangeEstimates_49 : decode cX4_exchangeEstimates 49 = .ok (.aload_n 0, 1) := by decide +kernel
theorem dX4_exchangeEstimates_50 : decode cX4_exchangeEstimates 50 = .ok (.getfield 57, 3) := by decide +kernel
theorem dX4_exchangeEstimates_53 : decode cX4_exchangeEstimates 53 = .ok (.iload_n 1, 1) := by decide +kernel
theorem dX4_exchangeEstimates_54 : decode cX4_exchangeEstimates 54 = .ok (.dup2, 1) := by decide +kernel
theorem dX4_exchangeEstimates_55 : decode cX4_exchangeEstimates 55 = .ok (.iaload, 1) := by decide +kernel
theorem dX4_exchangeEstimates_56 : decode cX4_exchangeEstimates 56 = .ok (.iload_n 3, 1) := by decide +kernel
theorem dX4_exchangeEstimates_57 : decode cX4_exchangeEstimates 57 = .ok (.isub, 1) := by decide +kernel
theorem dX4_exchangeEstimates_58 : decode cX4_exchangeEstimates 58 = .ok (.iastore, 1) := by decide +kernel
theorem dX4_exchangeEstimates_59 : decode cX4_exchangeEstimates 59 = .ok (.aload_n 0, 1) := by decide +kernel
theorem dX4_exchangeEstimates_60 : decode cX4_exchangeEstimates 60 = .ok (.getfield 57, 3) := by decide +kernel
theorem dX4_exchangeEstimates_63 : decode cX4_exchangeEstimates 63 = .ok (.iload_n 2, 1) := by decide +kernel
theorem dX4_exchangeEstimates_64 : decode cX4_exchangeEstimates 64 = .ok (.dup2, 1) := by decide +kernel
theorem dX4_exchangeEstimates_65 : decode cX4_exchangeEstimates 65 = .ok (.iaload, 1) := by decide +kernel
theorem dX4_exchangeEstimates_66 : decode cX4_exchangeEstimates 66 = .ok (.iload_n 3, 1) := by decide +kernel
theorem dX4_exchangeEstimates_67 : decode cX4_exchangeEstimates 67 = .ok (.iadd, 1) := by decide +kernel
theorem dX4_exchangeEstimates_68 : decode cX4_exchangeEstimates 68 = .ok (.iastore, 1) := by decide +kernel
theorem dX4_exchangeEstimates_69 : decode cX4_exchangeEstimates 69 = .ok (.iinc 2 1, 3) := by decide +kernel
theorem dX4_exchangeEstimates_72 : decode cX4_exchangeEstimates 72 = .ok (.goto (-50), 3) := by decide +kernel
theorem dX4_exchangeEstimates_75 : decode cX4_exchangeEstimates 75 = .ok (.iinc 1 1, 3) := by decide +kernel
theorem dX4_exchangeEstimates_78 : decode cX4_exchangeEstimates 78 = .ok (.goto (-68), 3) := by decide +kernel
theorem dX4_exchangeEstimates_81 : decode cX4_exchangeEstimates 81 = .ok (.aload_n 0, 1) := by decide +kernel
theorem dX4_exchangeEstimates_82 : decode cX4_exchangeEstimates 82 = .ok (.aload_n 0, 1) := by decide +kernel
theorem dX4_exchangeEstimates_83 : decode cX4_exchangeEstimates 83 = .ok (.getfield 23, 3) := by decide +kernel
theorem dX4_exchangeEstimates_86 : decode cX4_exchangeEstimates 86 = .ok (.aload_n 0, 1) := by decide +kernel
theorem dX4_exchangeEstimates_87 : decode cX4_exchangeEstimates 87 = .ok (.getfield 57, 3) := by decide +kernel
theorem dX4_exchangeEstimates_90 : decode cX4_exchangeEstimates 90 = .ok (.invokevirtual 227, 3) := by decide +kernel
theorem dX4_exchangeEstimates_93 : decode cX4_exchangeEstimates 93 = .ok (.return_, 1) := by decide +kernel
set_option maxRecDepth 20000 in
theorem ggX4_flowBetween_X1_degreeOf : GoodIn wsX4_flowBetween wsX1_degreeOf := goodIn_r _ [10, 11, 12, 13, 14, 15, 16, 17, 18, 37] (by decide +kernel) (by decide +kernel)
set_option maxRecDepth 20000 in
theorem gX4_flowBetween_X1_degreeOf_n132 : GoodIn wsX4_flowBetween (wsX1_degreeOf) := ggX4_flowBetween_X1_degreeOf
theorem dX4_flowBetween_0 : decode cX4_flowBetween 0 = .ok (.aload_n 0, 1) := by decide +kernel
theorem dX4_flowBetween_1 : decode cX4_flowBetween 1 = .ok (.getfield 54, 3) := by decide +kernel
theorem dX4_flowBetween_4 : decode cX4_flowBetween 4 = .ok (.iload_n 1, 1) := by decide +kernel
theorem dX4_flowBetween_5 : decode cX4_flowBetween 5 = .ok (.invokevirtual 132, 3) := by decide +kernel
theorem dX4_flowBetween_8 : decode cX4_flowBetween 8 = .ok (.aload_n 0, 1) := by decide +kernel
theorem dX4_flowBetween_9 : decode cX4_flowBetween 9 = .ok (.getfield 54, 3) := by decide +kernel
theorem dX4_flowBetween_12 : decode cX4_flowBetween 12 = .ok (.iload_n 2, 1) := by decide +kernel
theorem dX4_flowBetween_13 : decode cX4_flowBetween 13 = .ok (.invokevirtual 132, 3) := by decide +kernel
theorem dX4_flowBetween_16 : decode cX4_flowBetween 16 = .ok (.invokestatic 231, 3) := by decide +kernel
theorem dX4_flowBetween_19 : decode cX4_flowBetween 19 = .ok (.iconst 1, 1) := by decide +kernel
theorem dX4_flowBetween_20 : decode cX4_flowBetween 20 = .ok (.iadd, 1) := by decide +kernel
theorem dX4_flowBetween_21 : decode cX4_flowBetween 21 = .ok (.istore_n 3, 1) := by decide +kernel
theorem dX4_flowBetween_22 : decode cX4_flowBetween 22 = .ok (.aload_n 0, 1) := by decide +kernel
theorem dX4_flowBetween_23 : decode cX4_flowBetween 23 = .ok (.getfield 23, 3) := by decide +kernel
theorem dX4_flowBetween_26 : decode cX4_flowBetween 26 = .ok (.iload_n 1, 1) := by decide +kernel
theorem dX4_flowBetween_27 : decode cX4_flowBetween 27 = .ok (.iaload, 1) := by decide +kernel
theorem dX4_flowBetween_28 : decode cX4_flowBetween 28 = .ok (.aload_n 0, 1) := by decide +kernel
theorem dX4_flowBetween_29 : decode cX4_flowBetween 29 = .ok (.getfield 23, 3) := by decide +kernel
theorem dX4_flowBetween_32 : decode cX4_flowBetween 32 = .ok (.iload_n 2, 1) := by decide +kernel
theorem dX4_flowBetween_33 : decode cX4_flowBetween 33 = .ok (.iaload, 1) := by decide +kernel
theorem dX4_flowBetween_34 : decode cX4_flowBetween 34 = .ok (.isub, 1) := by decide +kernel
theorem dX4_flowBetween_35 : decode cX4_flowBetween 35 = .ok (.iload_n 3, 1) := by decide +kernel
theorem dX4_flowBetween_36 : decode cX4_flowBetween 36 = .ok (.idiv, 1) := by decide +kernel
theorem dX4_flowBetween_37 : decode cX4_flowBetween 37 = .ok (.ireturn, 1) := by decide +kernel
theorem dX4_spanOfEstimates_0 : decode cX4_spanOfEstimates 0 = .ok (.aload_n 0, 1) := by decide +kernel
theorem dX4_spanOfEstimates_1 : decode cX4_spanOfEstimates 1 = .ok (.getfield 47, 3) := by decide +kernel
theorem dX4_spanOfEstimates_4 : decode cX4_spanOfEstimates 4 = .ok (.ifCond .ne 5, 3) := by decide +kernel
theorem dX4_spanOfEstimates_7 : decode cX4_spanOfEstimates 7 = .ok (.iconst 0, 1) := by decide +kernel
theorem dX4_spanOfEstimates_8 : decode cX4_spanOfEstimates 8 = .ok (.ireturn, 1) := by decide +kernel
theorem dX4_spanOfEstimates_9 : decode cX4_spanOfEstimates 9 = .ok (.aload_n 0, 1) := by decide +kernel
theorem dX4_spanOfEstimates_10 : decode cX4_spanOfEstimates 10 = .ok (.getfield 23, 3) := by decide +kernel
theorem dX4_spanOfEstimates_13 : decode cX4_spanOfEstimates 13 = .ok (.iconst 0, 1) := by decide +kernel
theorem dX4_spanOfEstimates_14 : decode cX4_spanOfEstimates 14 = .ok (.iaload, 1) := by decide +kernel
theorem dX4_spanOfEstimates_15 : decode cX4_spanOfEstimates 15 = .ok (.istore_n 1, 1) := by decide +kernel
theorem dX4_spanOfEstimates_16 : decode cX4_spanOfEstimates 16 = .ok (.aload_n 0, 1) := by decide +kernel
theorem dX4_spanOfEstimates_17 : decode cX4_spanOfEstimates 17 = .ok (.getfield 23, 3) := by decide +kernel
theorem dX4_spanOfEstimates_20 : decode cX4_spanOfEstimates 20 = .ok (.iconst 0, 1) := by decide +kernel
theorem dX4_spanOfEstimates_21 : decode cX4_spanOfEstimates 21 = .ok (.iaload, 1) := by decide +kernel
theorem dX4_spanOfEstimates_22 : decode cX4_spanOfEstimates 22 = .ok (.istore_n 2, 1) := by decide +kernel
theorem dX4_spanOfEstimates_23 : decode cX4_spanOfEstimates 23 = .ok (.iconst 1, 1) := by decide +kernel
theorem dX4_spanOfEstimates_24 : decode cX4_spanOfEstimates 24 = .ok (.istore_n 3, 1) := by decide +kernel
theorem dX4_spanOfEstimates_25 : decode cX4_spanOfEstimates 25 = .ok (.iload_n 3, 1) := by decide +kernel
theorem dX4_spanOfEstimates_26 : decode cX4_spanOfEstimates 26 = .ok (.aload_n 0, 1) := by decide +kernel
theorem dX4_spanOfEstimates_27 : decode cX4_spanOfEstimates 27 = .ok (.getfield 47, 3) := by decide +kernel
theorem dX4_spanOfEstimates_30 : decode cX4_spanOfEstimates 30 = .ok (.if_icmp .ge 31, 3) := by decide +kernel
theorem dX4_spanOfEstimates_33 : decode cX4_spanOfEstimates 33 = .ok (.iload_n 1, 1) := by decide +kernel
theorem dX4_spanOfEstimates_34 : decode cX4_spanOfEstimates 34 = .ok (.aload_n 0, 1) := by decide +kernel
theorem dX4_spanOfEstimates_35 : decode cX4_spanOfEstimates 35 = .ok (.getfield 23, 3) := by decide +kernel
theorem dX4_spanOfEstimates_38 : decode cX4_spanOfEstimates 38 = .ok (.iload_n 3, 1) := by decide +kernel
theorem dX4_spanOfEstimates_39 : decode cX4_spanOfEstimates 39 = .ok (.iaload, 1) := by decide +kernel
theorem dX4_spanOfEstimates_40 : decode cX4_spanOfEstimates 40 = .ok (.invokestatic 234, 3) := by decide +kernel
theorem dX4_spanOfEstimates_43 : decode cX4_spanOfEstimates 43 = .ok (.istore_n 1, 1) := by decide +kernel
theorem dX4_spanOfEstimates_44 : decode cX4_spanOfEstimates 44 = .ok (.iload_n 2, 1) := by decide +kernel
theorem dX4_spanOfEstimates_45 : decode cX4_spanOfEstimates 45 = .ok (.aload_n 0, 1) := by decide +kernel
theorem dX4_spanOfEstimates_46 : decode cX4_spanOfEstimates 46 = .ok (.getfield 23, 3) := by decide +kernel
theorem dX4_spanOfEstimates_49 : decode cX4_spanOfEstimates 49 = .ok (.iload_n 3, 1) := by decide +kernel
theorem dX4_spanOfEstimates_50 : decode cX4_spanOfEstimates 50 = .ok (.iaload, 1) := by decide +kernel
theorem dX4_spanOfEstimates_51 : decode cX4_spanOfEstimates 51 = .ok (.invokestatic 231, 3) := by decide +kernel
theorem dX4_spanOfEstimates_54 : decode cX4_spanOfEstimates 54 = .ok (.istore_n 2, 1) := by decide +kernel
theorem dX4_spanOfEstimates_55 : decode cX4_spanOfEstimates 55 = .ok (.iinc 3 1, 3) := by decide +kernel
theorem dX4_spanOfEstimates_58 : decode cX4_spanOfEstimates 58 = .ok (.goto (-33), 3) := by decide +kernel
theorem dX4_spanOfEstimates_61 : decode cX4_spanOfEstimates 61 = .ok (.iload_n 2, 1) := by decide +kernel
theorem dX4_spanOfEstimates_62 : decode cX4_spanOfEstimates 62 = .ok (.iload_n 1, 1) := by decide +kernel
theorem dX4_spanOfEstimates_63 : decode cX4_spanOfEstimates 63 = .ok (.isub, 1) := by decide +kernel
theorem dX4_spanOfEstimates_64 : decode cX4_spanOfEstimates 64 = .ok (.ireturn, 1) := by decide +kernel
set_option maxRecDepth 20000 in
theorem ggX4_handHalves_J7_fill_53178 : GoodIn wsX4_handHalves wsJ7_fill_53178 := goodIn_r _ [10] (by decide +kernel) (by decide +kernel)
set_option maxRecDepth 20000 in
theorem gX4_handHalves_J7_fill_53178 : GoodIn wsX4_handHalves (va_wsS RX4 84 yJ7_fill_53178 wsJ7_fill_53178) := goodIn_app (goodIn_of _ (by decide +kernel)) ggX4_handHalves_J7_fill_53178
set_option maxRecDepth 20000 in
theorem ggX4_handHalves_X4_nextReceiver : GoodIn wsX4_handHalves wsX4_nextReceiver := goodIn_r _ [15, 3, 16, 6, 17, 18, 19, 20, 21, 22, 23, 24, 32, 33, 34, 35, 36, 37, 38, 39, 40, 41, 42, 43, 44, 45, 46, 47, 48, 49, 50] (by decide +kernel) (by decide +kernel)
set_option maxRecDepth 20000 in
theorem gX4_handHalves_X4_nextReceiver : GoodIn wsX4_handHalves (wsV RX4 237 RX4 yX4_nextReceiver wsX4_nextReceiver) := goodIn_app (goodIn_of _ (by decide +kernel)) ggX4_handHalves_X4_nextReceiver
set_option maxRecDepth 20000 in
theorem ggX4_handHalves_X4_handOver : GoodIn wsX4_handHalves wsX4_handOver := goodIn_r _ [27] (by decide +kernel) (by decide +kernel)
set_option maxRecDepth 20000 in
theorem gX4_handHalves_X4_handOver : GoodIn wsX4_handHalves (va_wsS RX4 240 yX4_handOver wsX4_handOver) := goodIn_app (goodIn_of _ (by decide +kernel)) ggX4_handHalves_X4_handOver
set_option maxRecDepth 20000 in
theorem ggX4_handHalves_X4_addChanges : GoodIn wsX4_handHalves wsX4_addChanges := goodIn_r _ [31, 3, 32, 33, 34, 35, 36, 37, 38, 39, 40, 41, 42, 43, 44, 45, 46, 47, 48, 49] (by decide +kernel) (by decide +kernel)
set_option maxRecDepth 20000 in
theorem gX4_handHalves_X4_addChanges : GoodIn wsX4_handHalves (wsV RX4 227 RX4 yX4_addChanges wsX4_addChanges) := goodIn_app (goodIn_of _ (by decide +kernel)) ggX4_handHalves_X4_addChanges
theorem dX4_handHalves_0 : decode cX4_handHalves 0 = .ok (.aload_n 0, 1) := by decide +kernel
theorem dX4_handHalves_1 : decode cX4_handHalves 1 = .ok (.getfield 57, 3) := by decide +kernel
theorem dX4_handHalves_4 : decode cX4_handHalves 4 = .ok (.iconst 0, 1) := by decide +kernel
theorem dX4_handHalves_5 : decode cX4_handHalves 5 = .ok (.invokestatic 84, 3) := by decide +kernel
theorem dX4_handHalves_8 : decode cX4_handHalves 8 = .ok (.aload_n 0, 1) := by decide +kernel
theorem dX4_handHalves_9 : decode cX4_handHalves 9 = .ok (.getfield 60, 3) := by decide +kernel
theorem dX4_handHalves_12 : decode cX4_handHalves 12 = .ok (.iconst 0, 1) := by decide +kernel
theorem dX4_handHalves_13 : decode cX4_handHalves 13 = .ok (.invokestatic 84, 3) := by decide +kernel
theorem dX4_handHalves_16 : decode cX4_handHalves 16 = .ok (.iconst 0, 1) := by decide +kernel
theorem dX4_handHalves_17 : decode cX4_handHalves 17 = .ok (.istore_n 1, 1) := by decide +kernel
theorem dX4_handHalves_18 : decode cX4_handHalves 18 = .ok (.iconst 0, 1) := by decide +kernel
theorem dX4_handHalves_19 : decode cX4_handHalves 19 = .ok (.istore_n 2, 1) := by decide +kernel
theorem dX4_handHalves_20 : decode cX4_handHalves 20 = .ok (.iload_n 2, 1) := by decide +kernel
theorem dX4_handHalves_21 : decode cX4_handHalves 21 = .ok (.aload_n 0, 1) := by decide +kernel
theorem dX4_handHalves_22 : decode cX4_handHalves 22 = .ok (.getfield 47, 3) := by decide +kernel
theorem dX4_handHalves_25 : decode cX4_handHalves 25 = .ok (.if_icmp .ge 63, 3) := by decide +kernel
theorem dX4_handHalves_28 : decode cX4_handHalves 28 = .ok (.aload_n 0, 1) := by decide +kernel
theorem dX4_handHalves_29 : decode cX4_handHalves 29 = .ok (.iload_n 2, 1) := by decide +kernel
theorem dX4_handHalves_30 : decode cX4_handHalves 30 = .ok (.invokevirtual 237, 3) := by decide +kernel
theorem dX4_handHalves_33 : decode cX4_handHalves 33 = .ok (.istore_n 3, 1) := by decide +kernel
theorem dX4_handHalves_34 : decode cX4_handHalves 34 = .ok (.iload_n 3, 1) := by decide +kernel
theorem dX4_handHalves_35 : decode cX4_handHalves 35 = .ok (.ifCond .lt 47, 3) := by decide +kernel
theorem dX4_handHalves_38 : decode cX4_handHalves 38 = .ok (.aload_n 0, 1) := by decide +kernel
theorem dX4_handHalves_39 : decode cX4_handHalves 39 = .ok (.getfield 26, 3) := by decide +kernel
theorem dX4_handHalves_42 : decode cX4_handHalves 42 = .ok (.iload_n 2, 1) := by decide +kernel
theorem dX4_handHalves_43 : decode cX4_handHalves 43 = .ok (.iaload, 1) := by decide +kernel
theorem dX4_handHalves_44 : decode cX4_handHalves 44 = .ok (.iconst 2, 1) := by decide +kernel
theorem dX4_handHalves_45 : decode cX4_handHalves 45 = .ok (.idiv, 1) := by decide +kernel
theorem dX4_handHalves_46 : decode cX4_handHalves 46 = .ok (.iload_n 2, 1) := by decide +kernel
theorem dX4_handHalves_47 : decode cX4_handHalves 47 = .ok (.iload_n 3, 1) := by decide +kernel
theorem dX4_handHalves_48 : decode cX4_handHalves 48 = .ok (.aload_n 0, 1) := by decide +kernel
theorem dX4_handHalves_49 : decode cX4_handHalves 49 = .ok (.getfield 57, 3) := by decide +kernel
theorem dX4_handHalves_52 : decode cX4_handHalves 52 = .ok (.invokestatic 240, 3) := by decide +kernel
theorem dX4_handHalves_55 : decode cX4_handHalves 55 = .ok (.aload_n 0, 1) := by decide +kernel
theorem dX4_handHalves_56 : decode cX4_handHalves 56 = .ok (.getfield 29, 3) := by decide +kernel
theorem dX4_handHalves_59 : decode cX4_handHalves 59 = .ok (.iload_n 2, 1) := by decide +kernel
theorem dX4_handHalves_60 : decode cX4_handHalves 60 = .ok (.iaload, 1) := by decide +kernel
theorem dX4_handHalves_61 : decode cX4_handHalves 61 = .ok (.iconst 2, 1) := by decide +kernel
theorem dX4_handHalves_62 : decode cX4_handHalves 62 = .ok (.idiv, 1) := by decide +kernel
theorem dX4_handHalves_63 : decode cX4_handHalves 63 = .ok (.iload_n 2, 1) := by decide +kernel
theorem dX4_handHalves_64 : decode cX4_handHalves 64 = .ok (.iload_n 3, 1) := by decide +kernel
theorem dX4_handHalves_65 : decode cX4_handHalves 65 = .ok (.aload_n 0, 1) := by decide +kernel
theorem dX4_handHalves_66 : decode cX4_handHalves 66 = .ok (.getfield 60, 3) := by decide +kernel
theorem dX4_handHalves_69 : decode cX4_handHalves 69 = .ok (.invokestatic 240, 3) := by decide +kernel
theorem dX4_handHalves_72 : decode cX4_handHalves 72 = .ok (.aload_n 0, 1) := by decide +kernel
theorem dX4_handHalves_73 : decode cX4_handHalves 73 = .ok (.getfield 32, 3) := by decide +kernel
theorem dX4_handHalves_76 : decode cX4_handHalves 76 = .ok (.iload_n 2, 1) := by decide +kernel
theorem dX4_handHalves_77 : decode cX4_handHalves 77 = .ok (.iload_n 3, 1) := by decide +kernel
theorem dX4_handHalves_78 : decode cX4_handHalves 78 = .ok (.iastore, 1) := by decide +kernel
theorem dX4_handHalves_79 : decode cX4_handHalves 79 = .ok (.iinc 1 1, 3) := by decide +kernel
theorem dX4_handHalves_82 : decode cX4_handHalves 82 = .ok (.iinc 2 1, 3) := by decide +kernel
theorem dX4_handHalves_85 : decode cX4_handHalves 85 = .ok (.goto (-65), 3) := by decide +kernel
theorem dX4_handHalves_88 : decode cX4_handHalves 88 = .ok (.aload_n 0, 1) := by decide +kernel
theorem dX4_handHalves_89 : decode cX4_handHalves 89 = .ok (.aload_n 0, 1) := by decide +kernel
theorem dX4_handHalves_90 : decode cX4_handHalves 90 = .ok (.getfield 26, 3) := by decide +kernel
theorem dX4_handHalves_93 : decode cX4_handHalves 93 = .ok (.aload_n 0, 1) := by decide +kernel
theorem dX4_handHalves_94 : decode cX4_handHalves 94 = .ok (.getfield 57, 3) := by decide +kernel
theorem dX4_handHalves_97 : decode cX4_handHalves 97 = .ok (.invokevirtual 227, 3) := by decide +kernel
