theorem dX5_init_0 : decode cX5_init 0 = .ok (.aload_n 0, 1) := by decide +kernel
theorem dX5_init_1 : decode cX5_init 1 = .ok (.invokespecial 1, 3) := by decide +kernel
theorem dX5_init_4 : decode cX5_init 4 = .ok (.aload_n 0, 1) := by decide +kernel
theorem dX5_init_5 : decode cX5_init 5 = .ok (.bipush 8, 2) := by decide +kernel
theorem dX5_init_7 : decode cX5_init 7 = .ok (.newarray .int, 2) := by decide +kernel
theorem dX5_init_9 : decode cX5_init 9 = .ok (.putfield 7, 3) := by decide +kernel
theorem dX5_init_12 : decode cX5_init 12 = .ok (.aload_n 0, 1) := by decide +kernel
theorem dX5_init_13 : decode cX5_init 13 = .ok (.bipush 8, 2) := by decide +kernel
theorem dX5_init_15 : decode cX5_init 15 = .ok (.newarray .int, 2) := by decide +kernel
theorem dX5_init_17 : decode cX5_init 17 = .ok (.putfield 13, 3) := by decide +kernel
theorem dX5_init_20 : decode cX5_init 20 = .ok (.aload_n 0, 1) := by decide +kernel
theorem dX5_init_21 : decode cX5_init 21 = .ok (.bipush 8, 2) := by decide +kernel
theorem dX5_init_23 : decode cX5_init 23 = .ok (.newarray .boolean, 2) := by decide +kernel
theorem dX5_init_25 : decode cX5_init 25 = .ok (.putfield 16, 3) := by decide +kernel
theorem dX5_init_28 : decode cX5_init 28 = .ok (.aload_n 0, 1) := by decide +kernel
theorem dX5_init_29 : decode cX5_init 29 = .ok (.bipush 8, 2) := by decide +kernel
theorem dX5_init_31 : decode cX5_init 31 = .ok (.newarray .int, 2) := by decide +kernel
theorem dX5_init_33 : decode cX5_init 33 = .ok (.putfield 20, 3) := by decide +kernel
theorem dX5_init_36 : decode cX5_init 36 = .ok (.aload_n 0, 1) := by decide +kernel
theorem dX5_init_37 : decode cX5_init 37 = .ok (.bipush 8, 2) := by decide +kernel
theorem dX5_init_39 : decode cX5_init 39 = .ok (.newarray .int, 2) := by decide +kernel
theorem dX5_init_41 : decode cX5_init 41 = .ok (.putfield 23, 3) := by decide +kernel
theorem dX5_init_44 : decode cX5_init 44 = .ok (.aload_n 0, 1) := by decide +kernel
theorem dX5_init_45 : decode cX5_init 45 = .ok (.bipush 8, 2) := by decide +kernel
theorem dX5_init_47 : decode cX5_init 47 = .ok (.newarray .int, 2) := by decide +kernel
theorem dX5_init_49 : decode cX5_init 49 = .ok (.putfield 26, 3) := by decide +kernel
theorem dX5_init_52 : decode cX5_init 52 = .ok (.aload_n 0, 1) := by decide +kernel
theorem dX5_init_53 : decode cX5_init 53 = .ok (.bipush 8, 2) := by decide +kernel
theorem dX5_init_55 : decode cX5_init 55 = .ok (.newarray .int, 2) := by decide +kernel
theorem dX5_init_57 : decode cX5_init 57 = .ok (.putfield 29, 3) := by decide +kernel
theorem dX5_init_60 : decode cX5_init 60 = .ok (.aload_n 0, 1) := by decide +kernel
theorem dX5_init_61 : decode cX5_init 61 = .ok (.bipush 8, 2) := by decide +kernel
theorem dX5_init_63 : decode cX5_init 63 = .ok (.newarray .int, 2) := by decide +kernel
theorem dX5_init_65 : decode cX5_init 65 = .ok (.putfield 32, 3) := by decide +kernel
theorem dX5_init_68 : decode cX5_init 68 = .ok (.aload_n 0, 1) := by decide +kernel
theorem dX5_init_69 : decode cX5_init 69 = .ok (.bipush 64, 2) := by decide +kernel
theorem dX5_init_71 : decode cX5_init 71 = .ok (.newarray .boolean, 2) := by decide +kernel
theorem dX5_init_73 : decode cX5_init 73 = .ok (.putfield 35, 3) := by decide +kernel
theorem dX5_init_76 : decode cX5_init 76 = .ok (.aload_n 0, 1) := by decide +kernel
theorem dX5_init_77 : decode cX5_init 77 = .ok (.bipush 64, 2) := by decide +kernel
theorem dX5_init_79 : decode cX5_init 79 = .ok (.newarray .int, 2) := by decide +kernel
theorem dX5_init_81 : decode cX5_init 81 = .ok (.putfield 38, 3) := by decide +kernel
theorem dX5_init_84 : decode cX5_init 84 = .ok (.aload_n 0, 1) := by decide +kernel
theorem dX5_init_85 : decode cX5_init 85 = .ok (.bipush 100, 2) := by decide +kernel
theorem dX5_init_87 : decode cX5_init 87 = .ok (.putfield 41, 3) := by decide +kernel
theorem dX5_init_90 : decode cX5_init 90 = .ok (.aload_n 0, 1) := by decide +kernel
theorem dX5_init_91 : decode cX5_init 91 = .ok (.bipush 8, 2) := by decide +kernel
theorem dX5_init_93 : decode cX5_init 93 = .ok (.newarray .int, 2) := by decide +kernel
theorem dX5_init_95 : decode cX5_init 95 = .ok (.putfield 45, 3) := by decide +kernel
theorem dX5_init_98 : decode cX5_init 98 = .ok (.aload_n 0, 1) := by decide +kernel
theorem dX5_init_99 : decode cX5_init 99 = .ok (.bipush 8, 2) := by decide +kernel
theorem dX5_init_101 : decode cX5_init 101 = .ok (.newarray .int, 2) := by decide +kernel
theorem dX5_init_103 : decode cX5_init 103 = .ok (.putfield 48, 3) := by decide +kernel
theorem dX5_init_106 : decode cX5_init 106 = .ok (.aload_n 0, 1) := by decide +kernel
theorem dX5_init_107 : decode cX5_init 107 = .ok (.bipush 64, 2) := by decide +kernel
theorem dX5_init_109 : decode cX5_init 109 = .ok (.newarray .boolean, 2) := by decide +kernel
theorem dX5_init_111 : decode cX5_init 111 = .ok (.putfield 51, 3) := by decide +kernel
theorem dX5_init_114 : decode cX5_init 114 = .ok (.aload_n 0, 1) := by decide +kernel
theorem dX5_init_115 : decode cX5_init 115 = .ok (.bipush 64, 2) := by decide +kernel
theorem dX5_init_117 : decode cX5_init 117 = .ok (.newarray .long, 2) := by decide +kernel
theorem dX5_init_119 : decode cX5_init 119 = .ok (.putfield 54, 3) := by decide +kernel
theorem dX5_init_122 : decode cX5_init 122 = .ok (.iconst 0, 1) := by decide +kernel
theorem dX5_init_123 : decode cX5_init 123 = .ok (.istore_n 1, 1) := by decide +kernel
theorem dX5_init_124 : decode cX5_init 124 = .ok (.iload_n 1, 1) := by decide +kernel
theorem dX5_init_125 : decode cX5_init 125 = .ok (.bipush 64, 2) := by decide +kernel
theorem dX5_init_127 : decode cX5_init 127 = .ok (.if_icmp .ge 16, 3) := by decide +kernel
theorem dX5_init_130 : decode cX5_init 130 = .ok (.aload_n 0, 1) := by decide +kernel
theorem dX5_init_131 : decode cX5_init 131 = .ok (.getfield 38, 3) := by decide +kernel
theorem dX5_init_134 : decode cX5_init 134 = .ok (.iload_n 1, 1) := by decide +kernel
theorem dX5_init_135 : decode cX5_init 135 = .ok (.iconst (-1), 1) := by decide +kernel
theorem dX5_init_136 : decode cX5_init 136 = .ok (.iastore, 1) := by decide +kernel
theorem dX5_init_137 : decode cX5_init 137 = .ok (.iinc 1 1, 3) := by decide +kernel
theorem dX5_init_140 : decode cX5_init 140 = .ok (.goto (-16), 3) := by decide +kernel
theorem dX5_init_143 : decode cX5_init 143 = .ok (.return_, 1) := by decide +kernel
theorem dX5_thrown_0 : decode cX5_thrown 0 = .ok (.aload_n 0, 1) := by decide +kernel
theorem dX5_thrown_1 : decode cX5_thrown 1 = .ok (.getfield 58, 3) := by decide +kernel
theorem dX5_thrown_4 : decode cX5_thrown 4 = .ok (.ireturn, 1) := by decide +kernel
theorem dX5_in_0 : decode cX5_in 0 = .ok (.iload_n 0, 1) := by decide +kernel
theorem dX5_in_1 : decode cX5_in 1 = .ok (.iload_n 1, 1) := by decide +kernel
theorem dX5_in_2 : decode cX5_in 2 = .ok (.if_icmp .lt 12, 3) := by decide +kernel
theorem dX5_in_5 : decode cX5_in 5 = .ok (.iload_n 0, 1) := by decide +kernel
theorem dX5_in_6 : decode cX5_in 6 = .ok (.iload_n 2, 1) := by decide +kernel
theorem dX5_in_7 : decode cX5_in 7 = .ok (.if_icmp .gt 7, 3) := by decide +kernel
theorem dX5_in_10 : decode cX5_in 10 = .ok (.iconst 1, 1) := by decide +kernel
theorem dX5_in_11 : decode cX5_in 11 = .ok (.goto 4, 3) := by decide +kernel
theorem dX5_in_14 : decode cX5_in 14 = .ok (.iconst 0, 1) := by decide +kernel
theorem dX5_in_15 : decode cX5_in 15 = .ok (.ireturn, 1) := by decide +kernel
theorem dX5_goes_0 : decode cX5_goes 0 = .ok (.aload_n 0, 1) := by decide +kernel
theorem dX5_goes_1 : decode cX5_goes 1 = .ok (.iload_n 1, 1) := by decide +kernel
theorem dX5_goes_2 : decode cX5_goes 2 = .ok (.ifCond .ne 7, 3) := by decide +kernel
theorem dX5_goes_5 : decode cX5_goes 5 = .ok (.iconst 1, 1) := by decide +kernel
theorem dX5_goes_6 : decode cX5_goes 6 = .ok (.goto 12, 3) := by decide +kernel
theorem dX5_goes_9 : decode cX5_goes 9 = .ok (.iload_n 2, 1) := by decide +kernel
theorem dX5_goes_10 : decode cX5_goes 10 = .ok (.ifCond .eq 7, 3) := by decide +kernel
theorem dX5_goes_13 : decode cX5_goes 13 = .ok (.iconst 0, 1) := by decide +kernel
theorem dX5_goes_14 : decode cX5_goes 14 = .ok (.goto 4, 3) := by decide +kernel
theorem dX5_goes_17 : decode cX5_goes 17 = .ok (.iconst 2, 1) := by decide +kernel
theorem dX5_goes_18 : decode cX5_goes 18 = .ok (.putfield 58, 3) := by decide +kernel
theorem dX5_goes_21 : decode cX5_goes 21 = .ok (.aload_n 0, 1) := by decide +kernel
theorem dX5_goes_22 : decode cX5_goes 22 = .ok (.getfield 58, 3) := by decide +kernel
theorem dX5_goes_25 : decode cX5_goes 25 = .ok (.ifCond .ne 7, 3) := by decide +kernel
theorem dX5_goes_28 : decode cX5_goes 28 = .ok (.iconst 1, 1) := by decide +kernel
theorem dX5_goes_29 : decode cX5_goes 29 = .ok (.goto 4, 3) := by decide +kernel
theorem dX5_goes_32 : decode cX5_goes 32 = .ok (.iconst 0, 1) := by decide +kernel
theorem dX5_goes_33 : decode cX5_goes 33 = .ok (.ireturn, 1) := by decide +kernel
set_option maxRecDepth 20000 in
theorem ggX5_is_X5_in : GoodIn wsX5_is wsX5_in := goodIn_r _ [5] (by decide +kernel) (by decide +kernel)
set_option maxRecDepth 20000 in
theorem gX5_is_X5_in : GoodIn wsX5_is (va_wsS RX5 64 yX5_in wsX5_in) := goodIn_app (goodIn_of _ (by decide +kernel)) ggX5_is_X5_in
theorem dX5_is_0 : decode cX5_is 0 = .ok (.iload_n 1, 1) := by decide +kernel
theorem dX5_is_1 : decode cX5_is 1 = .ok (.iconst 0, 1) := by decide +kernel
theorem dX5_is_2 : decode cX5_is 2 = .ok (.aload_n 0, 1) := by decide +kernel
theorem dX5_is_3 : decode cX5_is 3 = .ok (.getfield 61, 3) := by decide +kernel
theorem dX5_is_6 : decode cX5_is 6 = .ok (.iconst 1, 1) := by decide +kernel
theorem dX5_is_7 : decode cX5_is 7 = .ok (.isub, 1) := by decide +kernel
theorem dX5_is_8 : decode cX5_is 8 = .ok (.invokestatic 64, 3) := by decide +kernel
theorem dX5_is_11 : decode cX5_is 11 = .ok (.ireturn, 1) := by decide +kernel
set_option maxRecDepth 20000 in
theorem ggX5_isPlace_X5_in : GoodIn wsX5_isPlace wsX5_in := goodIn_r _ [4] (by decide +kernel) (by decide +kernel)
set_option maxRecDepth 20000 in
theorem gX5_isPlace_X5_in : GoodIn wsX5_isPlace (va_wsS RX5 64 yX5_in wsX5_in) := goodIn_app (goodIn_of _ (by decide +kernel)) ggX5_isPlace_X5_in
theorem dX5_isPlace_0 : decode cX5_isPlace 0 = .ok (.iload_n 0, 1) := by decide +kernel
theorem dX5_isPlace_1 : decode cX5_isPlace 1 = .ok (.sipush (-1000), 3) := by decide +kernel
theorem dX5_isPlace_4 : decode cX5_isPlace 4 = .ok (.sipush 1000, 3) := by decide +kernel
theorem dX5_isPlace_7 : decode cX5_isPlace 7 = .ok (.invokestatic 64, 3) := by decide +kernel
theorem dX5_isPlace_10 : decode cX5_isPlace 10 = .ok (.ifCond .eq 20, 3) := by decide +kernel
theorem dX5_isPlace_13 : decode cX5_isPlace 13 = .ok (.iload_n 1, 1) := by decide +kernel
theorem dX5_isPlace_14 : decode cX5_isPlace 14 = .ok (.sipush (-1000), 3) := by decide +kernel
theorem dX5_isPlace_17 : decode cX5_isPlace 17 = .ok (.sipush 1000, 3) := by decide +kernel
theorem dX5_isPlace_20 : decode cX5_isPlace 20 = .ok (.invokestatic 64, 3) := by decide +kernel
theorem dX5_isPlace_23 : decode cX5_isPlace 23 = .ok (.ifCond .eq 7, 3) := by decide +kernel
theorem dX5_isPlace_26 : decode cX5_isPlace 26 = .ok (.iconst 1, 1) := by decide +kernel
theorem dX5_isPlace_27 : decode cX5_isPlace 27 = .ok (.goto 4, 3) := by decide +kernel
theorem dX5_isPlace_30 : decode cX5_isPlace 30 = .ok (.iconst 0, 1) := by decide +kernel
theorem dX5_isPlace_31 : decode cX5_isPlace 31 = .ok (.ireturn, 1) := by decide +kernel
set_option maxRecDepth 20000 in
theorem ggX5_addMember_X5_isPlace : GoodIn wsX5_addMember wsX5_isPlace := goodIn_r _ [9, 10, 11, 8, 12] (by decide +kernel) (by decide +kernel)
set_option maxRecDepth 20000 in
theorem gX5_addMember_X5_isPlace : GoodIn wsX5_addMember (va_wsS RX5 68 yX5_isPlace wsX5_isPlace) := goodIn_app (goodIn_of _ (by decide +kernel)) ggX5_addMember_X5_isPlace
set_option maxRecDepth 20000 in
theorem ggX5_addMember_X5_goes : GoodIn wsX5_addMember wsX5_goes := goodIn_r _ [16, 17, 18, 19, 20, 21, 22, 23, 24, 25, 26, 27, 28, 29, 30, 31, 32, 33, 34] (by decide +kernel) (by decide +kernel)
set_option maxRecDepth 20000 in
theorem gX5_addMember_X5_goes : GoodIn wsX5_addMember (wsV RX5 72 RX5 yX5_goes wsX5_goes) := goodIn_app (goodIn_of _ (by decide +kernel)) ggX5_addMember_X5_goes
theorem dX5_addMember_0 : decode cX5_addMember 0 = .ok (.aload_n 0, 1) := by decide +kernel
theorem dX5_addMember_1 : decode cX5_addMember 1 = .ok (.iload_n 1, 1) := by decide +kernel
theorem dX5_addMember_2 : decode cX5_addMember 2 = .ok (.iload_n 2, 1) := by decide +kernel
theorem dX5_addMember_3 : decode cX5_addMember 3 = .ok (.invokestatic 68, 3) := by decide +kernel
theorem dX5_addMember_6 : decode cX5_addMember 6 = .ok (.aload_n 0, 1) := by decide +kernel
theorem dX5_addMember_7 : decode cX5_addMember 7 = .ok (.getfield 61, 3) := by decide +kernel
theorem dX5_addMember_10 : decode cX5_addMember 10 = .ok (.bipush 8, 2) := by decide +kernel
theorem dX5_addMember_12 : decode cX5_addMember 12 = .ok (.if_icmp .ge 7, 3) := by decide +kernel
theorem dX5_addMember_15 : decode cX5_addMember 15 = .ok (.iconst 1, 1) := by decide +kernel
theorem dX5_addMember_16 : decode cX5_addMember 16 = .ok (.goto 4, 3) := by decide +kernel
theorem dX5_addMember_19 : decode cX5_addMember 19 = .ok (.iconst 0, 1) := by decide +kernel
theorem dX5_addMember_20 : decode cX5_addMember 20 = .ok (.invokevirtual 72, 3) := by decide +kernel
theorem dX5_addMember_23 : decode cX5_addMember 23 = .ok (.ifCond .ne 5, 3) := by decide +kernel
theorem dX5_addMember_26 : decode cX5_addMember 26 = .ok (.iconst 0, 1) := by decide +kernel
theorem dX5_addMember_27 : decode cX5_addMember 27 = .ok (.ireturn, 1) := by decide +kernel
theorem dX5_addMember_28 : decode cX5_addMember 28 = .ok (.aload_n 0, 1) := by decide +kernel
theorem dX5_addMember_29 : decode cX5_addMember 29 = .ok (.getfield 7, 3) := by decide +kernel
theorem dX5_addMember_32 : decode cX5_addMember 32 = .ok (.aload_n 0, 1) := by decide +kernel
theorem dX5_addMember_33 : decode cX5_addMember 33 = .ok (.getfield 61, 3) := by decide +kernel
theorem dX5_addMember_36 : decode cX5_addMember 36 = .ok (.iload_n 1, 1) := by decide +kernel
theorem dX5_addMember_37 : decode cX5_addMember 37 = .ok (.iastore, 1) := by decide +kernel
theorem dX5_addMember_38 : decode cX5_addMember 38 = .ok (.aload_n 0, 1) := by decide +kernel
theorem dX5_addMember_39 : decode cX5_addMember 39 = .ok (.getfield 13, 3) := by decide +kernel
theorem dX5_addMember_42 : decode cX5_addMember 42 = .ok (.aload_n 0, 1) := by decide +kernel
theorem dX5_addMember_43 : decode cX5_addMember 43 = .ok (.getfield 61, 3) := by decide +kernel
theorem dX5_addMember_46 : decode cX5_addMember 46 = .ok (.iload_n 2, 1) := by decide +kernel
theorem dX5_addMember_47 : decode cX5_addMember 47 = .ok (.iastore, 1) := by decide +kernel
theorem dX5_addMember_48 : decode cX5_addMember 48 = .ok (.aload_n 0, 1) := by decide +kernel
theorem dX5_addMember_49 : decode cX5_addMember 49 = .ok (.getfield 29, 3) := by decide +kernel
theorem dX5_addMember_52 : decode cX5_addMember 52 = .ok (.aload_n 0, 1) := by decide +kernel
theorem dX5_addMember_53 : decode cX5_addMember 53 = .ok (.getfield 61, 3) := by decide +kernel
theorem dX5_addMember_56 : decode cX5_addMember 56 = .ok (.sipush 1024, 3) := by decide +kernel
theorem dX5_addMember_59 : decode cX5_addMember 59 = .ok (.iastore, 1) := by decide +kernel
theorem dX5_addMember_60 : decode cX5_addMember 60 = .ok (.aload_n 0, 1) := by decide +kernel
theorem dX5_addMember_61 : decode cX5_addMember 61 = .ok (.getfield 32, 3) := by decide +kernel
theorem dX5_addMember_64 : decode cX5_addMember 64 = .ok (.aload_n 0, 1) := by decide +kernel
theorem dX5_addMember_65 : decode cX5_addMember 65 = .ok (.getfield 61, 3) := by decide +kernel
theorem dX5_addMember_68 : decode cX5_addMember 68 = .ok (.iconst (-1), 1) := by decide +kernel
theorem dX5_addMember_69 : decode cX5_addMember 69 = .ok (.iastore, 1) := by decide +kernel
theorem dX5_addMember_70 : decode cX5_addMember 70 = .ok (.aload_n 0, 1) := by decide +kernel
theorem dX5_addMember_71 : decode cX5_addMember 71 = .ok (.dup, 1) := by decide +kernel
theorem dX5_addMember_72 : decode cX5_addMember 72 = .ok (.getfield 61, 3) := by decide +kernel
theorem dX5_addMember_75 : decode cX5_addMember 75 = .ok (.iconst 1, 1) := by decide +kernel
theorem dX5_addMember_76 : decode cX5_addMember 76 = .ok (.iadd, 1) := by decide +kernel
theorem dX5_addMember_77 : decode cX5_addMember 77 = .ok (.putfield 61, 3) := by decide +kernel
theorem dX5_addMember_80 : decode cX5_addMember 80 = .ok (.aload_n 0, 1) := by decide +kernel
theorem dX5_addMember_81 : decode cX5_addMember 81 = .ok (.getfield 61, 3) := by decide +kernel
theorem dX5_addMember_84 : decode cX5_addMember 84 = .ok (.iconst 1, 1) := by decide +kernel
theorem dX5_addMember_85 : decode cX5_addMember 85 = .ok (.isub, 1) := by decide +kernel
theorem dX5_addMember_86 : decode cX5_addMember 86 = .ok (.ireturn, 1) := by decide +kernel
set_option maxRecDepth 20000 in
theorem ggX5_move_X5_is : GoodIn wsX5_move wsX5_is := goodIn_r _ [7, 8, 9, 10, 6, 11, 20, 21, 22, 23, 24, 25, 26, 27, 28, 29, 30, 31, 32, 33, 34, 35, 36] (by decide +kernel) (by decide +kernel)
set_option maxRecDepth 20000 in
theorem gX5_move_X5_is : GoodIn wsX5_move (wsV RX5 76 RX5 yX5_is wsX5_is) := goodIn_app (goodIn_of _ (by decide +kernel)) ggX5_move_X5_is
set_option maxRecDepth 20000 in
theorem ggX5_move_X5_isPlace : GoodIn wsX5_move wsX5_isPlace := goodIn_r _ [14, 9, 10, 6, 11] (by decide +kernel) (by decide +kernel)
set_option maxRecDepth 20000 in
theorem gX5_move_X5_isPlace : GoodIn wsX5_move (va_wsS RX5 68 yX5_isPlace wsX5_isPlace) := goodIn_app (goodIn_of _ (by decide +kernel)) ggX5_move_X5_isPlace
set_option maxRecDepth 20000 in
theorem ggX5_move_X5_goes : GoodIn wsX5_move wsX5_goes := goodIn_r _ [18, 19, 20, 21, 22, 23, 24, 25, 26, 27, 28, 29, 30, 31, 32, 33, 34, 35, 36] (by decide +kernel) (by decide +kernel)
set_option maxRecDepth 20000 in
theorem gX5_move_X5_goes : GoodIn wsX5_move (wsV RX5 72 RX5 yX5_goes wsX5_goes) := goodIn_app (goodIn_of _ (by decide +kernel)) ggX5_move_X5_goes
theorem dX5_move_0 : decode cX5_move 0 = .ok (.aload_n 0, 1) := by decide +kernel
theorem dX5_move_1 : decode cX5_move 1 = .ok (.aload_n 0, 1) := by decide +kernel
theorem dX5_move_2 : decode cX5_move 2 = .ok (.iload_n 1, 1) := by decide +kernel
theorem dX5_move_3 : decode cX5_move 3 = .ok (.invokevirtual 76, 3) := by decide +kernel
theorem dX5_move_6 : decode cX5_move 6 = .ok (.iload_n 2, 1) := by decide +kernel
theorem dX5_move_7 : decode cX5_move 7 = .ok (.iload_n 3, 1) := by decide +kernel
theorem dX5_move_8 : decode cX5_move 8 = .ok (.invokestatic 68, 3) := by decide +kernel
theorem dX5_move_11 : decode cX5_move 11 = .ok (.invokevirtual 72, 3) := by decide +kernel
theorem dX5_move_14 : decode cX5_move 14 = .ok (.ifCond .eq 17, 3) := by decide +kernel
theorem dX5_move_17 : decode cX5_move 17 = .ok (.aload_n 0, 1) := by decide +kernel
theorem dX5_move_18 : decode cX5_move 18 = .ok (.getfield 7, 3) := by decide +kernel
theorem dX5_move_21 : decode cX5_move 21 = .ok (.iload_n 1, 1) := by decide +kernel
theorem dX5_move_22 : decode cX5_move 22 = .ok (.iload_n 2, 1) := by decide +kernel
theorem dX5_move_23 : decode cX5_move 23 = .ok (.iastore, 1) := by decide +kernel
theorem dX5_move_24 : decode cX5_move 24 = .ok (.aload_n 0, 1) := by decide +kernel
theorem dX5_move_25 : decode cX5_move 25 = .ok (.getfield 13, 3) := by decide +kernel
theorem dX5_move_28 : decode cX5_move 28 = .ok (.iload_n 1, 1) := by decide +kernel
theorem dX5_move_29 : decode cX5_move 29 = .ok (.iload_n 3, 1) := by decide +kernel
theorem dX5_move_30 : decode cX5_move 30 = .ok (.iastore, 1) := by decide +kernel
theorem dX5_move_31 : decode cX5_move 31 = .ok (.return_, 1) := by decide +kernel
set_option maxRecDepth 20000 in
theorem ggX5_toggle_X5_is : GoodIn wsX5_toggle wsX5_is := goodIn_r _ [6, 7, 8, 9, 5, 10, 16, 17, 18, 19, 20, 21, 22, 23, 24, 25, 26, 27, 28, 29, 30, 31, 32] (by decide +kernel) (by decide +kernel)
set_option maxRecDepth 20000 in
theorem gX5_toggle_X5_is : GoodIn wsX5_toggle (wsV RX5 76 RX5 yX5_is wsX5_is) := goodIn_app (goodIn_of _ (by decide +kernel)) ggX5_toggle_X5_is
set_option maxRecDepth 20000 in
theorem ggX5_toggle_X5_goes : GoodIn wsX5_toggle wsX5_goes := goodIn_r _ [14, 15, 16, 17, 18, 19, 20, 21, 22, 23, 24, 25, 26, 27, 28, 29, 30, 31, 32] (by decide +kernel) (by decide +kernel)
set_option maxRecDepth 20000 in
theorem gX5_toggle_X5_goes : GoodIn wsX5_toggle (wsV RX5 72 RX5 yX5_goes wsX5_goes) := goodIn_app (goodIn_of _ (by decide +kernel)) ggX5_toggle_X5_goes
theorem dX5_toggle_0 : decode cX5_toggle 0 = .ok (.aload_n 0, 1) := by decide +kernel
theorem dX5_toggle_1 : decode cX5_toggle 1 = .ok (.aload_n 0, 1) := by decide +kernel
theorem dX5_toggle_2 : decode cX5_toggle 2 = .ok (.iload_n 1, 1) := by decide +kernel
theorem dX5_toggle_3 : decode cX5_toggle 3 = .ok (.invokevirtual 76, 3) := by decide +kernel
theorem dX5_toggle_6 : decode cX5_toggle 6 = .ok (.iconst 1, 1) := by decide +kernel
theorem dX5_toggle_7 : decode cX5_toggle 7 = .ok (.invokevirtual 72, 3) := by decide +kernel
theorem dX5_toggle_10 : decode cX5_toggle 10 = .ok (.ifCond .ne 5, 3) := by decide +kernel
theorem dX5_toggle_13 : decode cX5_toggle 13 = .ok (.iconst 0, 1) := by decide +kernel
theorem dX5_toggle_14 : decode cX5_toggle 14 = .ok (.ireturn, 1) := by decide +kernel
theorem dX5_toggle_15 : decode cX5_toggle 15 = .ok (.aload_n 0, 1) := by decide +kernel
theorem dX5_toggle_16 : decode cX5_toggle 16 = .ok (.getfield 16, 3) := by decide +kernel
theorem dX5_toggle_19 : decode cX5_toggle 19 = .ok (.iload_n 1, 1) := by decide +kernel
theorem dX5_toggle_20 : decode cX5_toggle 20 = .ok (.aload_n 0, 1) := by decide +kernel
theorem dX5_toggle_21 : decode cX5_toggle 21 = .ok (.getfield 16, 3) := by decide +kernel
theorem dX5_toggle_24 : decode cX5_toggle 24 = .ok (.iload_n 1, 1) := by decide +kernel
theorem dX5_toggle_25 : decode cX5_toggle 25 = .ok (.baload, 1) := by decide +kernel
theorem dX5_toggle_26 : decode cX5_toggle 26 = .ok (.ifCond .ne 7, 3) := by decide +kernel
theorem dX5_toggle_29 : decode cX5_toggle 29 = .ok (.iconst 1, 1) := by decide +kernel
theorem dX5_toggle_30 : decode cX5_toggle 30 = .ok (.goto 4, 3) := by decide +kernel
theorem dX5_toggle_33 : decode cX5_toggle 33 = .ok (.iconst 0, 1) := by decide +kernel
theorem dX5_toggle_34 : decode cX5_toggle 34 = .ok (.bastore, 1) := by decide +kernel
theorem dX5_toggle_35 : decode cX5_toggle 35 = .ok (.aload_n 0, 1) := by decide +kernel
theorem dX5_toggle_36 : decode cX5_toggle 36 = .ok (.getfield 16, 3) := by decide +kernel
theorem dX5_toggle_39 : decode cX5_toggle 39 = .ok (.iload_n 1, 1) := by decide +kernel
theorem dX5_toggle_40 : decode cX5_toggle 40 = .ok (.baload, 1) := by decide +kernel
theorem dX5_toggle_41 : decode cX5_toggle 41 = .ok (.ifCond .ne 7, 3) := by decide +kernel
theorem dX5_toggle_44 : decode cX5_toggle 44 = .ok (.iconst 1, 1) := by decide +kernel
theorem dX5_toggle_45 : decode cX5_toggle 45 = .ok (.goto 4, 3) := by decide +kernel
theorem dX5_toggle_48 : decode cX5_toggle 48 = .ok (.iconst 0, 1) := by decide +kernel
theorem dX5_toggle_49 : decode cX5_toggle 49 = .ok (.ireturn, 1) := by decide +kernel
set_option maxRecDepth 20000 in
theorem ggX5_setPriority_X5_is : GoodIn wsX5_setPriority wsX5_is := goodIn_r _ [6, 7, 8, 9, 5, 10, 16, 17, 18, 19, 20, 21, 22, 23, 24, 25, 26, 27, 28, 29, 30, 31, 32] (by decide +kernel) (by decide +kernel)
set_option maxRecDepth 20000 in
theorem gX5_setPriority_X5_is : GoodIn wsX5_setPriority (wsV RX5 76 RX5 yX5_is wsX5_is) := goodIn_app (goodIn_of _ (by decide +kernel)) ggX5_setPriority_X5_is
set_option maxRecDepth 20000 in
theorem ggX5_setPriority_X5_in : GoodIn wsX5_setPriority wsX5_in := goodIn_r _ [10] (by decide +kernel) (by decide +kernel)
set_option maxRecDepth 20000 in
theorem gX5_setPriority_X5_in : GoodIn wsX5_setPriority (va_wsS RX5 64 yX5_in wsX5_in) := goodIn_app (goodIn_of _ (by decide +kernel)) ggX5_setPriority_X5_in
set_option maxRecDepth 20000 in
theorem ggX5_setPriority_X5_goes : GoodIn wsX5_setPriority wsX5_goes := goodIn_r _ [14, 15, 16, 17, 18, 19, 20, 21, 22, 23, 24, 25, 26, 27, 28, 29, 30, 31, 32] (by decide +kernel) (by decide +kernel)
set_option maxRecDepth 20000 in
theorem gX5_setPriority_X5_goes : GoodIn wsX5_setPriority (wsV RX5 72 RX5 yX5_goes wsX5_goes) := goodIn_app (goodIn_of _ (by decide +kernel)) ggX5_setPriority_X5_goes
theorem dX5_setPriority_0 : decode cX5_setPriority 0 = .ok (.aload_n 0, 1) := by decide +kernel
theorem dX5_setPriority_1 : decode cX5_setPriority 1 = .ok (.aload_n 0, 1) := by decide +kernel
theorem dX5_setPriority_2 : decode cX5_setPriority 2 = .ok (.iload_n 1, 1) := by decide +kernel
theorem dX5_setPriority_3 : decode cX5_setPriority 3 = .ok (.invokevirtual 76, 3) := by decide +kernel
theorem dX5_setPriority_6 : decode cX5_setPriority 6 = .ok (.iload_n 2, 1) := by decide +kernel
theorem dX5_setPriority_7 : decode cX5_setPriority 7 = .ok (.iconst 0, 1) := by decide +kernel
theorem dX5_setPriority_8 : decode cX5_setPriority 8 = .ok (.bipush 99, 2) := by decide +kernel
theorem dX5_setPriority_10 : decode cX5_setPriority 10 = .ok (.invokestatic 64, 3) := by decide +kernel
theorem dX5_setPriority_13 : decode cX5_setPriority 13 = .ok (.invokevirtual 72, 3) := by decide +kernel
theorem dX5_setPriority_16 : decode cX5_setPriority 16 = .ok (.ifCond .ne 5, 3) := by decide +kernel
theorem dX5_setPriority_19 : decode cX5_setPriority 19 = .ok (.iconst 0, 1) := by decide +kernel
theorem dX5_setPriority_20 : decode cX5_setPriority 20 = .ok (.ireturn, 1) := by decide +kernel
theorem dX5_setPriority_21 : decode cX5_setPriority 21 = .ok (.aload_n 0, 1) := by decide +kernel
theorem dX5_setPriority_22 : decode cX5_setPriority 22 = .ok (.getfield 20, 3) := by decide +kernel
theorem dX5_setPriority_25 : decode cX5_setPriority 25 = .ok (.iload_n 1, 1) := by decide +kernel
theorem dX5_setPriority_26 : decode cX5_setPriority 26 = .ok (.iaload, 1) := by decide +kernel
theorem dX5_setPriority_27 : decode cX5_setPriority 27 = .ok (.istore_n 3, 1) := by decide +kernel
theorem dX5_setPriority_28 : decode cX5_setPriority 28 = .ok (.aload_n 0, 1) := by decide +kernel
theorem dX5_setPriority_29 : decode cX5_setPriority 29 = .ok (.getfield 20, 3) := by decide +kernel
theorem dX5_setPriority_32 : decode cX5_setPriority 32 = .ok (.iload_n 1, 1) := by decide +kernel
theorem dX5_setPriority_33 : decode cX5_setPriority 33 = .ok (.iload_n 2, 1) := by decide +kernel
theorem dX5_setPriority_34 : decode cX5_setPriority 34 = .ok (.iastore, 1) := by decide +kernel
theorem dX5_setPriority_35 : decode cX5_setPriority 35 = .ok (.iload_n 3, 1) := by decide +kernel
theorem dX5_setPriority_36 : decode cX5_setPriority 36 = .ok (.ireturn, 1) := by decide +kernel
set_option maxRecDepth 20000 in
theorem ggX5_setRange_X5_in : GoodIn wsX5_setRange wsX5_in := goodIn_r _ [5] (by decide +kernel) (by decide +kernel)
set_option maxRecDepth 20000 in
theorem gX5_setRange_X5_in : GoodIn wsX5_setRange (va_wsS RX5 64 yX5_in wsX5_in) := goodIn_app (goodIn_of _ (by decide +kernel)) ggX5_setRange_X5_in
set_option maxRecDepth 20000 in
theorem ggX5_setRange_X5_goes : GoodIn wsX5_setRange wsX5_goes := goodIn_r _ [9, 10, 11, 12, 13, 14, 15, 16, 17, 18, 19, 20, 21, 22, 23, 24, 25, 26, 27] (by decide +kernel) (by decide +kernel)
set_option maxRecDepth 20000 in
theorem gX5_setRange_X5_goes : GoodIn wsX5_setRange (wsV RX5 72 RX5 yX5_goes wsX5_goes) := goodIn_app (goodIn_of _ (by decide +kernel)) ggX5_setRange_X5_goes
theorem dX5_setRange_0 : decode cX5_setRange 0 = .ok (.aload_n 0, 1) := by decide +kernel
theorem dX5_setRange_1 : decode cX5_setRange 1 = .ok (.iload_n 1, 1) := by decide +kernel
theorem dX5_setRange_2 : decode cX5_setRange 2 = .ok (.iconst 0, 1) := by decide +kernel
theorem dX5_setRange_3 : decode cX5_setRange 3 = .ok (.sipush 3000, 3) := by decide +kernel
theorem dX5_setRange_6 : decode cX5_setRange 6 = .ok (.invokestatic 64, 3) := by decide +kernel
theorem dX5_setRange_9 : decode cX5_setRange 9 = .ok (.iconst 1, 1) := by decide +kernel
theorem dX5_setRange_10 : decode cX5_setRange 10 = .ok (.invokevirtual 72, 3) := by decide +kernel
theorem dX5_setRange_13 : decode cX5_setRange 13 = .ok (.ifCond .ne 5, 3) := by decide +kernel
theorem dX5_setRange_16 : decode cX5_setRange 16 = .ok (.iconst 0, 1) := by decide +kernel
theorem dX5_setRange_17 : decode cX5_setRange 17 = .ok (.ireturn, 1) := by decide +kernel
theorem dX5_setRange_18 : decode cX5_setRange 18 = .ok (.aload_n 0, 1) := by decide +kernel
theorem dX5_setRange_19 : decode cX5_setRange 19 = .ok (.getfield 41, 3) := by decide +kernel
theorem dX5_setRange_22 : decode cX5_setRange 22 = .ok (.istore_n 2, 1) := by decide +kernel
theorem dX5_setRange_23 : decode cX5_setRange 23 = .ok (.aload_n 0, 1) := by decide +kernel
theorem dX5_setRange_24 : decode cX5_setRange 24 = .ok (.iload_n 1, 1) := by decide +kernel
theorem dX5_setRange_25 : decode cX5_setRange 25 = .ok (.putfield 41, 3) := by decide +kernel
theorem dX5_setRange_28 : decode cX5_setRange 28 = .ok (.iload_n 2, 1) := by decide +kernel
theorem dX5_setRange_29 : decode cX5_setRange 29 = .ok (.ireturn, 1) := by decide +kernel
set_option maxRecDepth 20000 in
theorem ggX5_block_X5_is : GoodIn wsX5_block wsX5_is := goodIn_r _ [6, 7, 8, 9, 5, 10, 16, 17, 18, 19, 20, 21, 22, 23, 24, 25, 26, 27, 28, 29, 30, 31, 32] (by decide +kernel) (by decide +kernel)
set_option maxRecDepth 20000 in
theorem gX5_block_X5_is : GoodIn wsX5_block (wsV RX5 76 RX5 yX5_is wsX5_is) := goodIn_app (goodIn_of _ (by decide +kernel)) ggX5_block_X5_is
set_option maxRecDepth 20000 in
theorem ggX5_block_X5_goes : GoodIn wsX5_block wsX5_goes := goodIn_r _ [14, 15, 16, 17, 18, 19, 20, 21, 22, 23, 24, 25, 26, 27, 28, 29, 30, 31, 32] (by decide +kernel) (by decide +kernel)
set_option maxRecDepth 20000 in
theorem gX5_block_X5_goes : GoodIn wsX5_block (wsV RX5 72 RX5 yX5_goes wsX5_goes) := goodIn_app (goodIn_of _ (by decide +kernel)) ggX5_block_X5_goes
theorem dX5_block_0 : decode cX5_block 0 = .ok (.aload_n 0, 1) := by decide +kernel
theorem dX5_block_1 : decode cX5_block 1 = .ok (.aload_n 0, 1) := by decide +kernel
theorem dX5_block_2 : decode cX5_block 2 = .ok (.iload_n 1, 1) := by decide +kernel
theorem dX5_block_3 : decode cX5_block 3 = .ok (.invokevirtual 76, 3) := by decide +kernel
theorem dX5_block_6 : decode cX5_block 6 = .ok (.ifCond .eq 15, 3) := by decide +kernel
theorem dX5_block_9 : decode cX5_block 9 = .ok (.aload_n 0, 1) := by decide +kernel
theorem dX5_block_10 : decode cX5_block 10 = .ok (.iload_n 2, 1) := by decide +kernel
theorem dX5_block_11 : decode cX5_block 11 = .ok (.invokevirtual 76, 3) := by decide +kernel
theorem dX5_block_14 : decode cX5_block 14 = .ok (.ifCond .eq 7, 3) := by decide +kernel
theorem dX5_block_17 : decode cX5_block 17 = .ok (.iconst 1, 1) := by decide +kernel
theorem dX5_block_18 : decode cX5_block 18 = .ok (.goto 4, 3) := by decide +kernel
theorem dX5_block_21 : decode cX5_block 21 = .ok (.iconst 0, 1) := by decide +kernel
theorem dX5_block_22 : decode cX5_block 22 = .ok (.iload_n 1, 1) := by decide +kernel
theorem dX5_block_23 : decode cX5_block 23 = .ok (.iload_n 2, 1) := by decide +kernel
theorem dX5_block_24 : decode cX5_block 24 = .ok (.if_icmp .eq 7, 3) := by decide +kernel
theorem dX5_block_27 : decode cX5_block 27 = .ok (.iconst 1, 1) := by decide +kernel
theorem dX5_block_28 : decode cX5_block 28 = .ok (.goto 4, 3) := by decide +kernel
theorem dX5_block_31 : decode cX5_block 31 = .ok (.iconst 0, 1) := by decide +kernel
theorem dX5_block_32 : decode cX5_block 32 = .ok (.invokevirtual 72, 3) := by decide +kernel
theorem dX5_block_35 : decode cX5_block 35 = .ok (.ifCond .ne 5, 3) := by decide +kernel
theorem dX5_block_38 : decode cX5_block 38 = .ok (.iconst 0, 1) := by decide +kernel
theorem dX5_block_39 : decode cX5_block 39 = .ok (.ireturn, 1) := by decide +kernel
theorem dX5_block_40 : decode cX5_block 40 = .ok (.aload_n 0, 1) := by decide +kernel
theorem dX5_block_41 : decode cX5_block 41 = .ok (.getfield 35, 3) := by decide +kernel
theorem dX5_block_44 : decode cX5_block 44 = .ok (.bipush 8, 2) := by decide +kernel
theorem dX5_block_46 : decode cX5_block 46 = .ok (.iload_n 1, 1) := by decide +kernel
theorem dX5_block_47 : decode cX5_block 47 = .ok (.imul, 1) := by decide +kernel
theorem dX5_block_48 : decode cX5_block 48 = .ok (.iload_n 2, 1) := by decide +kernel
theorem dX5_block_49 : decode cX5_block 49 = .ok (.iadd, 1) := by decide +kernel
theorem dX5_block_50 : decode cX5_block 50 = .ok (.baload, 1) := by decide +kernel
theorem dX5_block_51 : decode cX5_block 51 = .ok (.ifCond .ne 7, 3) := by decide +kernel
theorem dX5_block_54 : decode cX5_block 54 = .ok (.iconst 1, 1) := by decide +kernel
theorem dX5_block_55 : decode cX5_block 55 = .ok (.goto 4, 3) := by decide +kernel
theorem dX5_block_58 : decode cX5_block 58 = .ok (.iconst 0, 1) := by decide +kernel
theorem dX5_block_59 : decode cX5_block 59 = .ok (.istore_n 3, 1) := by decide +kernel
theorem dX5_block_60 : decode cX5_block 60 = .ok (.aload_n 0, 1) := by decide +kernel
theorem dX5_block_61 : decode cX5_block 61 = .ok (.getfield 35, 3) := by decide +kernel
theorem dX5_block_64 : decode cX5_block 64 = .ok (.bipush 8, 2) := by decide +kernel
theorem dX5_block_66 : decode cX5_block 66 = .ok (.iload_n 1, 1) := by decide +kernel
theorem dX5_block_67 : decode cX5_block 67 = .ok (.imul, 1) := by decide +kernel
theorem dX5_block_68 : decode cX5_block 68 = .ok (.iload_n 2, 1) := by decide +kernel
theorem dX5_block_69 : decode cX5_block 69 = .ok (.iadd, 1) := by decide +kernel
theorem dX5_block_70 : decode cX5_block 70 = .ok (.iload_n 3, 1) := by decide +kernel
theorem dX5_block_71 : decode cX5_block 71 = .ok (.bastore, 1) := by decide +kernel
theorem dX5_block_72 : decode cX5_block 72 = .ok (.aload_n 0, 1) := by decide +kernel
theorem dX5_block_73 : decode cX5_block 73 = .ok (.getfield 35, 3) := by decide +kernel
theorem dX5_block_76 : decode cX5_block 76 = .ok (.bipush 8, 2) := by decide +kernel
theorem dX5_block_78 : decode cX5_block 78 = .ok (.iload_n 2, 1) := by decide +kernel
theorem dX5_block_79 : decode cX5_block 79 = .ok (.imul, 1) := by decide +kernel
theorem dX5_block_80 : decode cX5_block 80 = .ok (.iload_n 1, 1) := by decide +kernel
theorem dX5_block_81 : decode cX5_block 81 = .ok (.iadd, 1) := by decide +kernel
theorem dX5_block_82 : decode cX5_block 82 = .ok (.iload_n 3, 1) := by decide +kernel
theorem dX5_block_83 : decode cX5_block 83 = .ok (.bastore, 1) := by decide +kernel
theorem dX5_block_84 : decode cX5_block 84 = .ok (.iload_n 3, 1) := by decide +kernel
theorem dX5_block_85 : decode cX5_block 85 = .ok (.ireturn, 1) := by decide +kernel
theorem dX5_members_0 : decode cX5_members 0 = .ok (.aload_n 0, 1) := by decide +kernel
theorem dX5_members_1 : decode cX5_members 1 = .ok (.iconst 0, 1) := by decide +kernel
theorem dX5_members_2 : decode cX5_members 2 = .ok (.putfield 58, 3) := by decide +kernel
theorem dX5_members_5 : decode cX5_members 5 = .ok (.aload_n 0, 1) := by decide +kernel
theorem dX5_members_6 : decode cX5_members 6 = .ok (.getfield 61, 3) := by decide +kernel
theorem dX5_members_9 : decode cX5_members 9 = .ok (.ireturn, 1) := by decide +kernel
set_option maxRecDepth 20000 in
theorem ggX5_xOf_X5_is : GoodIn wsX5_xOf wsX5_is := goodIn_r _ [6, 7, 8, 9, 5, 10, 16, 17, 18, 19, 20, 21, 22, 23, 24, 25, 26, 27, 28, 29, 30, 31, 32] (by decide +kernel) (by decide +kernel)
set_option maxRecDepth 20000 in
theorem gX5_xOf_X5_is : GoodIn wsX5_xOf (wsV RX5 76 RX5 yX5_is wsX5_is) := goodIn_app (goodIn_of _ (by decide +kernel)) ggX5_xOf_X5_is
set_option maxRecDepth 20000 in
theorem ggX5_xOf_X5_goes : GoodIn wsX5_xOf wsX5_goes := goodIn_r _ [14, 15, 16, 17, 18, 19, 20, 21, 22, 23, 24, 25, 26, 27, 28, 29, 30, 31, 32] (by decide +kernel) (by decide +kernel)
set_option maxRecDepth 20000 in
theorem gX5_xOf_X5_goes : GoodIn wsX5_xOf (wsV RX5 72 RX5 yX5_goes wsX5_goes) := goodIn_app (goodIn_of _ (by decide +kernel)) ggX5_xOf_X5_goes
theorem dX5_xOf_0 : decode cX5_xOf 0 = .ok (.aload_n 0, 1) := by decide +kernel
theorem dX5_xOf_1 : decode cX5_xOf 1 = .ok (.aload_n 0, 1) := by decide +kernel
theorem dX5_xOf_2 : decode cX5_xOf 2 = .ok (.iload_n 1, 1) := by decide +kernel
theorem dX5_xOf_3 : decode cX5_xOf 3 = .ok (.invokevirtual 76, 3) := by decide +kernel
theorem dX5_xOf_6 : decode cX5_xOf 6 = .ok (.iconst 1, 1) := by decide +kernel
theorem dX5_xOf_7 : decode cX5_xOf 7 = .ok (.invokevirtual 72, 3) := by decide +kernel
theorem dX5_xOf_10 : decode cX5_xOf 10 = .ok (.ifCond .eq 12, 3) := by decide +kernel
theorem dX5_xOf_13 : decode cX5_xOf 13 = .ok (.aload_n 0, 1) := by decide +kernel
theorem dX5_xOf_14 : decode cX5_xOf 14 = .ok (.getfield 7, 3) := by decide +kernel
theorem dX5_xOf_17 : decode cX5_xOf 17 = .ok (.iload_n 1, 1) := by decide +kernel
theorem dX5_xOf_18 : decode cX5_xOf 18 = .ok (.iaload, 1) := by decide +kernel
theorem dX5_xOf_19 : decode cX5_xOf 19 = .ok (.goto 4, 3) := by decide +kernel
theorem dX5_xOf_22 : decode cX5_xOf 22 = .ok (.iconst 0, 1) := by decide +kernel
theorem dX5_xOf_23 : decode cX5_xOf 23 = .ok (.ireturn, 1) := by decide +kernel
set_option maxRecDepth 20000 in
theorem ggX5_yOf_X5_is : GoodIn wsX5_yOf wsX5_is := goodIn_r _ [6, 7, 8, 9, 5, 10, 16, 17, 18, 19, 20, 21, 22, 23, 24, 25, 26, 27, 28, 29, 30, 31, 32] (by decide +kernel) (by decide +kernel)
set_option maxRecDepth 20000 in
theorem gX5_yOf_X5_is : GoodIn wsX5_yOf (wsV RX5 76 RX5 yX5_is wsX5_is) := goodIn_app (goodIn_of _ (by decide +kernel)) ggX5_yOf_X5_is
set_option maxRecDepth 20000 in
theorem ggX5_yOf_X5_goes : GoodIn wsX5_yOf wsX5_goes := goodIn_r _ [14, 15, 16, 17, 18, 19, 20, 21, 22, 23, 24, 25, 26, 27, 28, 29, 30, 31, 32] (by decide +kernel) (by decide +kernel)
set_option maxRecDepth 20000 in
theorem gX5_yOf_X5_goes : GoodIn wsX5_yOf (wsV RX5 72 RX5 yX5_goes wsX5_goes) := goodIn_app (goodIn_of _ (by decide +kernel)) ggX5_yOf_X5_goes
theorem dX5_yOf_0 : decode cX5_yOf 0 = .ok (.aload_n 0, 1) := by decide +kernel
theorem dX5_yOf_1 : decode cX5_yOf 1 = .ok (.aload_n 0, 1) := by decide +kernel
theorem dX5_yOf_2 : decode cX5_yOf 2 = .ok (.iload_n 1, 1) := by decide +kernel
theorem dX5_yOf_3 : decode cX5_yOf 3 = .ok (.invokevirtual 76, 3) := by decide +kernel
theorem dX5_yOf_6 : decode cX5_yOf 6 = .ok (.iconst 1, 1) := by decide +kernel
theorem dX5_yOf_7 : decode cX5_yOf 7 = .ok (.invokevirtual 72, 3) := by decide +kernel
theorem dX5_yOf_10 : decode cX5_yOf 10 = .ok (.ifCond .eq 12, 3) := by decide +kernel
theorem dX5_yOf_13 : decode cX5_yOf 13 = .ok (.aload_n 0, 1) := by decide +kernel
theorem dX5_yOf_14 : decode cX5_yOf 14 = .ok (.getfield 13, 3) := by decide +kernel
theorem dX5_yOf_17 : decode cX5_yOf 17 = .ok (.iload_n 1, 1) := by decide +kernel
theorem dX5_yOf_18 : decode cX5_yOf 18 = .ok (.iaload, 1) := by decide +kernel
theorem dX5_yOf_19 : decode cX5_yOf 19 = .ok (.goto 4, 3) := by decide +kernel
theorem dX5_yOf_22 : decode cX5_yOf 22 = .ok (.iconst 0, 1) := by decide +kernel
theorem dX5_yOf_23 : decode cX5_yOf 23 = .ok (.ireturn, 1) := by decide +kernel
theorem dX5_square_0 : decode cX5_square 0 = .ok (.aload_n 0, 1) := by decide +kernel
theorem dX5_square_1 : decode cX5_square 1 = .ok (.getfield 7, 3) := by decide +kernel
theorem dX5_square_4 : decode cX5_square 4 = .ok (.iload_n 1, 1) := by decide +kernel
theorem dX5_square_5 : decode cX5_square 5 = .ok (.iaload, 1) := by decide +kernel
theorem dX5_square_6 : decode cX5_square 6 = .ok (.aload_n 0, 1) := by decide +kernel
theorem dX5_square_7 : decode cX5_square 7 = .ok (.getfield 7, 3) := by decide +kernel
theorem dX5_square_10 : decode cX5_square 10 = .ok (.iload_n 2, 1) := by decide +kernel
theorem dX5_square_11 : decode cX5_square 11 = .ok (.iaload, 1) := by decide +kernel
theorem dX5_square_12 : decode cX5_square 12 = .ok (.isub, 1) := by decide +kernel
theorem dX5_square_13 : decode cX5_square 13 = .ok (.istore_n 3, 1) := by decide +kernel
theorem dX5_square_14 : decode cX5_square 14 = .ok (.aload_n 0, 1) := by decide +kernel
theorem dX5_square_15 : decode cX5_square 15 = .ok (.getfield 13, 3) := by decide +kernel
theorem dX5_square_18 : decode cX5_square 18 = .ok (.iload_n 1, 1) := by decide +kernel
theorem dX5_square_19 : decode cX5_square 19 = .ok (.iaload, 1) := by decide +kernel
theorem dX5_square_20 : decode cX5_square 20 = .ok (.aload_n 0, 1) := by decide +kernel
theorem dX5_square_21 : decode cX5_square 21 = .ok (.getfield 13, 3) := by decide +kernel
theorem dX5_square_24 : decode cX5_square 24 = .ok (.iload_n 2, 1) := by decide +kernel
theorem dX5_square_25 : decode cX5_square 25 = .ok (.iaload, 1) := by decide +kernel
theorem dX5_square_26 : decode cX5_square 26 = .ok (.isub, 1) := by decide +kernel
theorem dX5_square_27 : decode cX5_square 27 = .ok (.istore 4, 2) := by decide +kernel
theorem dX5_square_29 : decode cX5_square 29 = .ok (.iload_n 3, 1) := by decide +kernel
theorem dX5_square_30 : decode cX5_square 30 = .ok (.iload_n 3, 1) := by decide +kernel
theorem dX5_square_31 : decode cX5_square 31 = .ok (.imul, 1) := by decide +kernel
theorem dX5_square_32 : decode cX5_square 32 = .ok (.iload 4, 2) := by decide +kernel
theorem dX5_square_34 : decode cX5_square 34 = .ok (.iload 4, 2) := by decide +kernel
theorem dX5_square_36 : decode cX5_square 36 = .ok (.imul, 1) := by decide +kernel
theorem dX5_square_37 : decode cX5_square 37 = .ok (.iadd, 1) := by decide +kernel
theorem dX5_square_38 : decode cX5_square 38 = .ok (.ireturn, 1) := by decide +kernel
set_option maxRecDepth 20000 in
theorem ggX5_linked_X5_square : GoodIn wsX5_linked wsX5_square := goodIn_r _ [8, 9, 10, 11, 12, 13, 14, 15, 16, 17, 18, 19, 20, 21, 22, 23, 24, 25, 26, 27] (by decide +kernel) (by decide +kernel)
set_option maxRecDepth 20000 in
theorem gX5_linked_X5_square : GoodIn wsX5_linked (wsV RX5 80 RX5 yX5_square wsX5_square) := goodIn_app (goodIn_of _ (by decide +kernel)) ggX5_linked_X5_square
theorem dX5_linked_0 : decode cX5_linked 0 = .ok (.iload_n 1, 1) := by decide +kernel
theorem dX5_linked_1 : decode cX5_linked 1 = .ok (.iload_n 2, 1) := by decide +kernel
theorem dX5_linked_2 : decode cX5_linked 2 = .ok (.if_icmp .eq 25, 3) := by decide +kernel
theorem dX5_linked_5 : decode cX5_linked 5 = .ok (.aload_n 0, 1) := by decide +kernel
theorem dX5_linked_6 : decode cX5_linked 6 = .ok (.getfield 16, 3) := by decide +kernel
theorem dX5_linked_9 : decode cX5_linked 9 = .ok (.iload_n 1, 1) := by decide +kernel
theorem dX5_linked_10 : decode cX5_linked 10 = .ok (.baload, 1) := by decide +kernel
theorem dX5_linked_11 : decode cX5_linked 11 = .ok (.ifCond .ne 16, 3) := by decide +kernel
theorem dX5_linked_14 : decode cX5_linked 14 = .ok (.aload_n 0, 1) := by decide +kernel
theorem dX5_linked_15 : decode cX5_linked 15 = .ok (.getfield 16, 3) := by decide +kernel
theorem dX5_linked_18 : decode cX5_linked 18 = .ok (.iload_n 2, 1) := by decide +kernel
theorem dX5_linked_19 : decode cX5_linked 19 = .ok (.baload, 1) := by decide +kernel
theorem dX5_linked_20 : decode cX5_linked 20 = .ok (.ifCond .ne 7, 3) := by decide +kernel
theorem dX5_linked_23 : decode cX5_linked 23 = .ok (.iconst 1, 1) := by decide +kernel
theorem dX5_linked_24 : decode cX5_linked 24 = .ok (.goto 4, 3) := by decide +kernel
theorem dX5_linked_27 : decode cX5_linked 27 = .ok (.iconst 0, 1) := by decide +kernel
theorem dX5_linked_28 : decode cX5_linked 28 = .ok (.istore_n 3, 1) := by decide +kernel
theorem dX5_linked_29 : decode cX5_linked 29 = .ok (.iload_n 3, 1) := by decide +kernel
theorem dX5_linked_30 : decode cX5_linked 30 = .ok (.ifCond .eq 39, 3) := by decide +kernel
theorem dX5_linked_33 : decode cX5_linked 33 = .ok (.aload_n 0, 1) := by decide +kernel
theorem dX5_linked_34 : decode cX5_linked 34 = .ok (.getfield 35, 3) := by decide +kernel
theorem dX5_linked_37 : decode cX5_linked 37 = .ok (.bipush 8, 2) := by decide +kernel
theorem dX5_linked_39 : decode cX5_linked 39 = .ok (.iload_n 1, 1) := by decide +kernel
theorem dX5_linked_40 : decode cX5_linked 40 = .ok (.imul, 1) := by decide +kernel
theorem dX5_linked_41 : decode cX5_linked 41 = .ok (.iload_n 2, 1) := by decide +kernel
theorem dX5_linked_42 : decode cX5_linked 42 = .ok (.iadd, 1) := by decide +kernel
theorem dX5_linked_43 : decode cX5_linked 43 = .ok (.baload, 1) := by decide +kernel
theorem dX5_linked_44 : decode cX5_linked 44 = .ok (.ifCond .ne 25, 3) := by decide +kernel
theorem dX5_linked_47 : decode cX5_linked 47 = .ok (.aload_n 0, 1) := by decide +kernel
theorem dX5_linked_48 : decode cX5_linked 48 = .ok (.iload_n 1, 1) := by decide +kernel
theorem dX5_linked_49 : decode cX5_linked 49 = .ok (.iload_n 2, 1) := by decide +kernel
theorem dX5_linked_50 : decode cX5_linked 50 = .ok (.invokevirtual 80, 3) := by decide +kernel
theorem dX5_linked_53 : decode cX5_linked 53 = .ok (.aload_n 0, 1) := by decide +kernel
theorem dX5_linked_54 : decode cX5_linked 54 = .ok (.getfield 41, 3) := by decide +kernel
theorem dX5_linked_57 : decode cX5_linked 57 = .ok (.aload_n 0, 1) := by decide +kernel
theorem dX5_linked_58 : decode cX5_linked 58 = .ok (.getfield 41, 3) := by decide +kernel
theorem dX5_linked_61 : decode cX5_linked 61 = .ok (.imul, 1) := by decide +kernel
theorem dX5_linked_62 : decode cX5_linked 62 = .ok (.if_icmp .gt 7, 3) := by decide +kernel
theorem dX5_linked_65 : decode cX5_linked 65 = .ok (.iconst 1, 1) := by decide +kernel
theorem dX5_linked_66 : decode cX5_linked 66 = .ok (.goto 4, 3) := by decide +kernel
theorem dX5_linked_69 : decode cX5_linked 69 = .ok (.iconst 0, 1) := by decide +kernel
theorem dX5_linked_70 : decode cX5_linked 70 = .ok (.ireturn, 1) := by decide +kernel
set_option maxRecDepth 20000 in
theorem ggX5_degrees_X5_linked : GoodIn wsX5_degrees wsX5_linked := goodIn_r _ [6, 7, 8, 9, 10, 11, 12, 5, 13, 14, 15, 16, 17, 18, 19, 20, 21, 22, 23, 24, 25, 26, 27, 28, 29, 30, 31, 32] (by decide +kernel) (by decide +kernel)
set_option maxRecDepth 20000 in
theorem gX5_degrees_X5_linked : GoodIn wsX5_degrees (wsV RX5 84 RX5 yX5_linked wsX5_linked) := goodIn_app (goodIn_of _ (by decide +kernel)) ggX5_degrees_X5_linked
theorem dX5_degrees_0 : decode cX5_degrees 0 = .ok (.iconst 0, 1) := by decide +kernel
theorem dX5_degrees_1 : decode cX5_degrees 1 = .ok (.istore_n 2, 1) := by decide +kernel
theorem dX5_degrees_2 : decode cX5_degrees 2 = .ok (.iconst 0, 1) := by decide +kernel
theorem dX5_degrees_3 : decode cX5_degrees 3 = .ok (.istore_n 3, 1) := by decide +kernel
theorem dX5_degrees_4 : decode cX5_degrees 4 = .ok (.iload_n 3, 1) := by decide +kernel
theorem dX5_degrees_5 : decode cX5_degrees 5 = .ok (.aload_n 0, 1) := by decide +kernel
theorem dX5_degrees_6 : decode cX5_degrees 6 = .ok (.getfield 61, 3) := by decide +kernel
theorem dX5_degrees_9 : decode cX5_degrees 9 = .ok (.if_icmp .ge 26, 3) := by decide +kernel
theorem dX5_degrees_12 : decode cX5_degrees 12 = .ok (.iload_n 2, 1) := by decide +kernel
theorem dX5_degrees_13 : decode cX5_degrees 13 = .ok (.aload_n 0, 1) := by decide +kernel
theorem dX5_degrees_14 : decode cX5_degrees 14 = .ok (.iload_n 1, 1) := by decide +kernel
theorem dX5_degrees_15 : decode cX5_degrees 15 = .ok (.iload_n 3, 1) := by decide +kernel
theorem dX5_degrees_16 : decode cX5_degrees 16 = .ok (.invokevirtual 84, 3) := by decide +kernel
theorem dX5_degrees_19 : decode cX5_degrees 19 = .ok (.ifCond .eq 7, 3) := by decide +kernel
theorem dX5_degrees_22 : decode cX5_degrees 22 = .ok (.iconst 1, 1) := by decide +kernel
theorem dX5_degrees_23 : decode cX5_degrees 23 = .ok (.goto 4, 3) := by decide +kernel
theorem dX5_degrees_26 : decode cX5_degrees 26 = .ok (.iconst 0, 1) := by decide +kernel
theorem dX5_degrees_27 : decode cX5_degrees 27 = .ok (.iadd, 1) := by decide +kernel
theorem dX5_degrees_28 : decode cX5_degrees 28 = .ok (.istore_n 2, 1) := by decide +kernel
theorem dX5_degrees_29 : decode cX5_degrees 29 = .ok (.iinc 3 1, 3) := by decide +kernel
theorem dX5_degrees_32 : decode cX5_degrees 32 = .ok (.goto (-28), 3) := by decide +kernel
theorem dX5_degrees_35 : decode cX5_degrees 35 = .ok (.iload_n 2, 1) := by decide +kernel
theorem dX5_degrees_36 : decode cX5_degrees 36 = .ok (.ireturn, 1) := by decide +kernel
set_option maxRecDepth 20000 in
theorem ggX5_group_X5_linked : GoodIn wsX5_group wsX5_linked := goodIn_r _ [6, 7, 8, 9, 10, 11, 12, 5, 13, 14, 15, 16, 17, 18, 19, 20, 21, 22, 23, 24, 25, 26, 27, 28, 29, 30, 31, 32] (by decide +kernel) (by decide +kernel)
set_option maxRecDepth 20000 in
theorem gX5_group_X5_linked : GoodIn wsX5_group (wsV RX5 84 RX5 yX5_linked wsX5_linked) := goodIn_app (goodIn_of _ (by decide +kernel)) ggX5_group_X5_linked
theorem dX5_group_0 : decode cX5_group 0 = .ok (.iconst 1, 1) := by decide +kernel
theorem dX5_group_1 : decode cX5_group 1 = .ok (.iload_n 1, 1) := by decide +kernel
theorem dX5_group_2 : decode cX5_group 2 = .ok (.ishl, 1) := by decide +kernel
theorem dX5_group_3 : decode cX5_group 3 = .ok (.istore_n 2, 1) := by decide +kernel
theorem dX5_group_4 : decode cX5_group 4 = .ok (.iconst 0, 1) := by decide +kernel
theorem dX5_group_5 : decode cX5_group 5 = .ok (.istore_n 3, 1) := by decide +kernel
theorem dX5_group_6 : decode cX5_group 6 = .ok (.iload_n 2, 1) := by decide +kernel
theorem dX5_group_7 : decode cX5_group 7 = .ok (.iload_n 3, 1) := by decide +kernel
theorem dX5_group_8 : decode cX5_group 8 = .ok (.if_icmp .eq 104, 3) := by decide +kernel
theorem dX5_group_11 : decode cX5_group 11 = .ok (.iload_n 2, 1) := by decide +kernel
theorem dX5_group_12 : decode cX5_group 12 = .ok (.istore_n 3, 1) := by decide +kernel
theorem dX5_group_13 : decode cX5_group 13 = .ok (.iconst 0, 1) := by decide +kernel
theorem dX5_group_14 : decode cX5_group 14 = .ok (.istore 4, 2) := by decide +kernel
theorem dX5_group_16 : decode cX5_group 16 = .ok (.iload 4, 2) := by decide +kernel
theorem dX5_group_18 : decode cX5_group 18 = .ok (.bipush 64, 2) := by decide +kernel
theorem dX5_group_20 : decode cX5_group 20 = .ok (.if_icmp .ge 89, 3) := by decide +kernel
theorem dX5_group_23 : decode cX5_group 23 = .ok (.iload 4, 2) := by decide +kernel
theorem dX5_group_25 : decode cX5_group 25 = .ok (.bipush 8, 2) := by decide +kernel
theorem dX5_group_27 : decode cX5_group 27 = .ok (.idiv, 1) := by decide +kernel
theorem dX5_group_28 : decode cX5_group 28 = .ok (.aload_n 0, 1) := by decide +kernel
theorem dX5_group_29 : decode cX5_group 29 = .ok (.getfield 61, 3) := by decide +kernel
theorem dX5_group_32 : decode cX5_group 32 = .ok (.if_icmp .ge 49, 3) := by decide +kernel
theorem dX5_group_35 : decode cX5_group 35 = .ok (.iload 4, 2) := by decide +kernel
theorem dX5_group_37 : decode cX5_group 37 = .ok (.bipush 8, 2) := by decide +kernel
theorem dX5_group_39 : decode cX5_group 39 = .ok (.irem, 1) := by decide +kernel
theorem dX5_group_40 : decode cX5_group 40 = .ok (.aload_n 0, 1) := by decide +kernel
theorem dX5_group_41 : decode cX5_group 41 = .ok (.getfield 61, 3) := by decide +kernel
theorem dX5_group_44 : decode cX5_group 44 = .ok (.if_icmp .ge 37, 3) := by decide +kernel
theorem dX5_group_47 : decode cX5_group 47 = .ok (.iload_n 2, 1) := by decide +kernel
theorem dX5_group_48 : decode cX5_group 48 = .ok (.iload 4, 2) := by decide +kernel
theorem dX5_group_50 : decode cX5_group 50 = .ok (.bipush 8, 2) := by decide +kernel
theorem dX5_group_52 : decode cX5_group 52 = .ok (.idiv, 1) := by decide +kernel
theorem dX5_group_53 : decode cX5_group 53 = .ok (.ishr, 1) := by decide +kernel
theorem dX5_group_54 : decode cX5_group 54 = .ok (.iconst 1, 1) := by decide +kernel
theorem dX5_group_55 : decode cX5_group 55 = .ok (.iand, 1) := by decide +kernel
theorem dX5_group_56 : decode cX5_group 56 = .ok (.iconst 1, 1) := by decide +kernel
theorem dX5_group_57 : decode cX5_group 57 = .ok (.if_icmp .ne 24, 3) := by decide +kernel
theorem dX5_group_60 : decode cX5_group 60 = .ok (.aload_n 0, 1) := by decide +kernel
theorem dX5_group_61 : decode cX5_group 61 = .ok (.iload 4, 2) := by decide +kernel
theorem dX5_group_63 : decode cX5_group 63 = .ok (.bipush 8, 2) := by decide +kernel
theorem dX5_group_65 : decode cX5_group 65 = .ok (.idiv, 1) := by decide +kernel
theorem dX5_group_66 : decode cX5_group 66 = .ok (.iload 4, 2) := by decide +kernel
theorem dX5_group_68 : decode cX5_group 68 = .ok (.bipush 8, 2) := by decide +kernel
theorem dX5_group_70 : decode cX5_group 70 = .ok (.irem, 1) := by decide +kernel
theorem dX5_group_71 : decode cX5_group 71 = .ok (.invokevirtual 84, 3) := by decide +kernel
theorem dX5_group_74 : decode cX5_group 74 = .ok (.ifCond .eq 7, 3) := by decide +kernel
theorem dX5_group_77 : decode cX5_group 77 = .ok (.iconst 1, 1) := by decide +kernel
theorem dX5_group_78 : decode cX5_group 78 = .ok (.goto 4, 3) := by decide +kernel
theorem dX5_group_81 : decode cX5_group 81 = .ok (.iconst 0, 1) := by decide +kernel
theorem dX5_group_82 : decode cX5_group 82 = .ok (.istore 5, 2) := by decide +kernel
theorem dX5_group_84 : decode cX5_group 84 = .ok (.iload_n 2, 1) := by decide +kernel
theorem dX5_group_85 : decode cX5_group 85 = .ok (.iload 5, 2) := by decide +kernel
theorem dX5_group_87 : decode cX5_group 87 = .ok (.ifCond .eq 13, 3) := by decide +kernel
theorem dX5_group_90 : decode cX5_group 90 = .ok (.iconst 1, 1) := by decide +kernel
theorem dX5_group_91 : decode cX5_group 91 = .ok (.iload 4, 2) := by decide +kernel
theorem dX5_group_93 : decode cX5_group 93 = .ok (.bipush 8, 2) := by decide +kernel
theorem dX5_group_95 : decode cX5_group 95 = .ok (.irem, 1) := by decide +kernel
theorem dX5_group_96 : decode cX5_group 96 = .ok (.ishl, 1) := by decide +kernel
theorem dX5_group_97 : decode cX5_group 97 = .ok (.goto 4, 3) := by decide +kernel
theorem dX5_group_100 : decode cX5_group 100 = .ok (.iconst 0, 1) := by decide +kernel
theorem dX5_group_101 : decode cX5_group 101 = .ok (.ior, 1) := by decide +kernel
theorem dX5_group_102 : decode cX5_group 102 = .ok (.istore_n 2, 1) := by decide +kernel
theorem dX5_group_103 : decode cX5_group 103 = .ok (.iinc 4 1, 3) := by decide +kernel
theorem dX5_group_106 : decode cX5_group 106 = .ok (.goto (-90), 3) := by decide +kernel
theorem dX5_group_109 : decode cX5_group 109 = .ok (.goto (-103), 3) := by decide +kernel
theorem dX5_group_112 : decode cX5_group 112 = .ok (.iload_n 2, 1) := by decide +kernel
theorem dX5_group_113 : decode cX5_group 113 = .ok (.ireturn, 1) := by decide +kernel
theorem dX5_countUp_0 : decode cX5_countUp 0 = .ok (.iconst 0, 1) := by decide +kernel
theorem dX5_countUp_1 : decode cX5_countUp 1 = .ok (.istore_n 1, 1) := by decide +kernel
theorem dX5_countUp_2 : decode cX5_countUp 2 = .ok (.iconst 0, 1) := by decide +kernel
theorem dX5_countUp_3 : decode cX5_countUp 3 = .ok (.istore_n 2, 1) := by decide +kernel
theorem dX5_countUp_4 : decode cX5_countUp 4 = .ok (.iload_n 2, 1) := by decide +kernel
theorem dX5_countUp_5 : decode cX5_countUp 5 = .ok (.aload_n 0, 1) := by decide +kernel
theorem dX5_countUp_6 : decode cX5_countUp 6 = .ok (.getfield 61, 3) := by decide +kernel
theorem dX5_countUp_9 : decode cX5_countUp 9 = .ok (.if_icmp .ge 26, 3) := by decide +kernel
theorem dX5_countUp_12 : decode cX5_countUp 12 = .ok (.iload_n 1, 1) := by decide +kernel
theorem dX5_countUp_13 : decode cX5_countUp 13 = .ok (.aload_n 0, 1) := by decide +kernel
theorem dX5_countUp_14 : decode cX5_countUp 14 = .ok (.getfield 16, 3) := by decide +kernel
theorem dX5_countUp_17 : decode cX5_countUp 17 = .ok (.iload_n 2, 1) := by decide +kernel
theorem dX5_countUp_18 : decode cX5_countUp 18 = .ok (.baload, 1) := by decide +kernel
theorem dX5_countUp_19 : decode cX5_countUp 19 = .ok (.ifCond .eq 7, 3) := by decide +kernel
theorem dX5_countUp_22 : decode cX5_countUp 22 = .ok (.iconst 0, 1) := by decide +kernel
theorem dX5_countUp_23 : decode cX5_countUp 23 = .ok (.goto 4, 3) := by decide +kernel
theorem dX5_countUp_26 : decode cX5_countUp 26 = .ok (.iconst 1, 1) := by decide +kernel
theorem dX5_countUp_27 : decode cX5_countUp 27 = .ok (.iadd, 1) := by decide +kernel
theorem dX5_countUp_28 : decode cX5_countUp 28 = .ok (.istore_n 1, 1) := by decide +kernel
theorem dX5_countUp_29 : decode cX5_countUp 29 = .ok (.iinc 2 1, 3) := by decide +kernel
theorem dX5_countUp_32 : decode cX5_countUp 32 = .ok (.goto (-28), 3) := by decide +kernel
theorem dX5_countUp_35 : decode cX5_countUp 35 = .ok (.iload_n 1, 1) := by decide +kernel
theorem dX5_countUp_36 : decode cX5_countUp 36 = .ok (.ireturn, 1) := by decide +kernel
set_option maxRecDepth 20000 in
theorem ggX5_countGroups_X5_group : GoodIn wsX5_countGroups wsX5_group := goodIn_r _ [7, 1, 8, 9, 10, 6, 11, 2, 12, 13, 14, 15, 16, 17, 18, 19, 20, 21, 22, 23, 24, 25, 26, 27, 28, 29, 30, 31, 32, 33, 34, 35, 36] (by decide +kernel) (by decide +kernel)
set_option maxRecDepth 20000 in
theorem gX5_countGroups_X5_group : GoodIn wsX5_countGroups (wsV RX5 87 RX5 yX5_group wsX5_group) := goodIn_app (goodIn_of _ (by decide +kernel)) ggX5_countGroups_X5_group
theorem dX5_countGroups_0 : decode cX5_countGroups 0 = .ok (.iconst 0, 1) := by decide +kernel
theorem dX5_countGroups_1 : decode cX5_countGroups 1 = .ok (.istore_n 1, 1) := by decide +kernel
theorem dX5_countGroups_2 : decode cX5_countGroups 2 = .ok (.iconst 0, 1) := by decide +kernel
theorem dX5_countGroups_3 : decode cX5_countGroups 3 = .ok (.istore_n 2, 1) := by decide +kernel
theorem dX5_countGroups_4 : decode cX5_countGroups 4 = .ok (.iload_n 2, 1) := by decide +kernel
theorem dX5_countGroups_5 : decode cX5_countGroups 5 = .ok (.aload_n 0, 1) := by decide +kernel
theorem dX5_countGroups_6 : decode cX5_countGroups 6 = .ok (.getfield 61, 3) := by decide +kernel
theorem dX5_countGroups_9 : decode cX5_countGroups 9 = .ok (.if_icmp .ge 40, 3) := by decide +kernel
theorem dX5_countGroups_12 : decode cX5_countGroups 12 = .ok (.iload_n 1, 1) := by decide +kernel
theorem dX5_countGroups_13 : decode cX5_countGroups 13 = .ok (.aload_n 0, 1) := by decide +kernel
theorem dX5_countGroups_14 : decode cX5_countGroups 14 = .ok (.getfield 16, 3) := by decide +kernel
theorem dX5_countGroups_17 : decode cX5_countGroups 17 = .ok (.iload_n 2, 1) := by decide +kernel
theorem dX5_countGroups_18 : decode cX5_countGroups 18 = .ok (.baload, 1) := by decide +kernel
theorem dX5_countGroups_19 : decode cX5_countGroups 19 = .ok (.ifCond .ne 21, 3) := by decide +kernel
theorem dX5_countGroups_22 : decode cX5_countGroups 22 = .ok (.aload_n 0, 1) := by decide +kernel
theorem dX5_countGroups_23 : decode cX5_countGroups 23 = .ok (.iload_n 2, 1) := by decide +kernel
theorem dX5_countGroups_24 : decode cX5_countGroups 24 = .ok (.invokevirtual 87, 3) := by decide +kernel
theorem dX5_countGroups_27 : decode cX5_countGroups 27 = .ok (.iconst 1, 1) := by decide +kernel
theorem dX5_countGroups_28 : decode cX5_countGroups 28 = .ok (.iload_n 2, 1) := by decide +kernel
theorem dX5_countGroups_29 : decode cX5_countGroups 29 = .ok (.ishl, 1) := by decide +kernel
theorem dX5_countGroups_30 : decode cX5_countGroups 30 = .ok (.iconst 1, 1) := by decide +kernel
theorem dX5_countGroups_31 : decode cX5_countGroups 31 = .ok (.isub, 1) := by decide +kernel
theorem dX5_countGroups_32 : decode cX5_countGroups 32 = .ok (.iand, 1) := by decide +kernel
theorem dX5_countGroups_33 : decode cX5_countGroups 33 = .ok (.ifCond .ne 7, 3) := by decide +kernel
theorem dX5_countGroups_36 : decode cX5_countGroups 36 = .ok (.iconst 1, 1) := by decide +kernel
theorem dX5_countGroups_37 : decode cX5_countGroups 37 = .ok (.goto 4, 3) := by decide +kernel
theorem dX5_countGroups_40 : decode cX5_countGroups 40 = .ok (.iconst 0, 1) := by decide +kernel
theorem dX5_countGroups_41 : decode cX5_countGroups 41 = .ok (.iadd, 1) := by decide +kernel
theorem dX5_countGroups_42 : decode cX5_countGroups 42 = .ok (.istore_n 1, 1) := by decide +kernel
theorem dX5_countGroups_43 : decode cX5_countGroups 43 = .ok (.iinc 2 1, 3) := by decide +kernel
theorem dX5_countGroups_46 : decode cX5_countGroups 46 = .ok (.goto (-42), 3) := by decide +kernel
theorem dX5_countGroups_49 : decode cX5_countGroups 49 = .ok (.iload_n 1, 1) := by decide +kernel
theorem dX5_countGroups_50 : decode cX5_countGroups 50 = .ok (.ireturn, 1) := by decide +kernel
set_option maxRecDepth 20000 in
theorem ggX5_areLinked_X5_is : GoodIn wsX5_areLinked wsX5_is := goodIn_r _ [5, 6, 7, 8, 4, 9, 28, 29, 30, 31, 32, 33, 34, 35, 36, 37, 38, 39, 40, 41, 42, 43, 44] (by decide +kernel) (by decide +kernel)
set_option maxRecDepth 20000 in
theorem gX5_areLinked_X5_is : GoodIn wsX5_areLinked (wsV RX5 76 RX5 yX5_is wsX5_is) := goodIn_app (goodIn_of _ (by decide +kernel)) ggX5_areLinked_X5_is
set_option maxRecDepth 20000 in
theorem ggX5_areLinked_X5_goes : GoodIn wsX5_areLinked wsX5_goes := goodIn_r _ [13, 14, 28, 29, 30, 31, 32, 33, 34, 35, 36, 37, 38, 39, 40, 41, 42, 43, 44] (by decide +kernel) (by decide +kernel)
set_option maxRecDepth 20000 in
theorem gX5_areLinked_X5_goes : GoodIn wsX5_areLinked (wsV RX5 72 RX5 yX5_goes wsX5_goes) := goodIn_app (goodIn_of _ (by decide +kernel)) ggX5_areLinked_X5_goes
set_option maxRecDepth 20000 in
theorem ggX5_areLinked_X5_linked : GoodIn wsX5_areLinked wsX5_linked := goodIn_r _ [18, 19, 20, 21, 22, 23, 24, 4, 25, 26, 27, 28, 29, 30, 31, 32, 33, 34, 35, 36, 37, 38, 39, 40, 41, 42, 43, 44] (by decide +kernel) (by decide +kernel)
set_option maxRecDepth 20000 in
theorem gX5_areLinked_X5_linked : GoodIn wsX5_areLinked (wsV RX5 84 RX5 yX5_linked wsX5_linked) := goodIn_app (goodIn_of _ (by decide +kernel)) ggX5_areLinked_X5_linked
theorem dX5_areLinked_0 : decode cX5_areLinked 0 = .ok (.aload_n 0, 1) := by decide +kernel
theorem dX5_areLinked_1 : decode cX5_areLinked 1 = .ok (.aload_n 0, 1) := by decide +kernel
theorem dX5_areLinked_2 : decode cX5_areLinked 2 = .ok (.iload_n 1, 1) := by decide +kernel
theorem dX5_areLinked_3 : decode cX5_areLinked 3 = .ok (.invokevirtual 76, 3) := by decide +kernel
theorem dX5_areLinked_6 : decode cX5_areLinked 6 = .ok (.ifCond .eq 15, 3) := by decide +kernel
theorem dX5_areLinked_9 : decode cX5_areLinked 9 = .ok (.aload_n 0, 1) := by decide +kernel
theorem dX5_areLinked_10 : decode cX5_areLinked 10 = .ok (.iload_n 2, 1) := by decide +kernel
theorem dX5_areLinked_11 : decode cX5_areLinked 11 = .ok (.invokevirtual 76, 3) := by decide +kernel
theorem dX5_areLinked_14 : decode cX5_areLinked 14 = .ok (.ifCond .eq 7, 3) := by decide +kernel
theorem dX5_areLinked_17 : decode cX5_areLinked 17 = .ok (.iconst 1, 1) := by decide +kernel
theorem dX5_areLinked_18 : decode cX5_areLinked 18 = .ok (.goto 4, 3) := by decide +kernel
theorem dX5_areLinked_21 : decode cX5_areLinked 21 = .ok (.iconst 0, 1) := by decide +kernel
theorem dX5_areLinked_22 : decode cX5_areLinked 22 = .ok (.iconst 1, 1) := by decide +kernel
theorem dX5_areLinked_23 : decode cX5_areLinked 23 = .ok (.invokevirtual 72, 3) := by decide +kernel
theorem dX5_areLinked_26 : decode cX5_areLinked 26 = .ok (.ifCond .eq 16, 3) := by decide +kernel
theorem dX5_areLinked_29 : decode cX5_areLinked 29 = .ok (.aload_n 0, 1) := by decide +kernel
theorem dX5_areLinked_30 : decode cX5_areLinked 30 = .ok (.iload_n 1, 1) := by decide +kernel
theorem dX5_areLinked_31 : decode cX5_areLinked 31 = .ok (.iload_n 2, 1) := by decide +kernel
theorem dX5_areLinked_32 : decode cX5_areLinked 32 = .ok (.invokevirtual 84, 3) := by decide +kernel
theorem dX5_areLinked_35 : decode cX5_areLinked 35 = .ok (.ifCond .eq 7, 3) := by decide +kernel
theorem dX5_areLinked_38 : decode cX5_areLinked 38 = .ok (.iconst 1, 1) := by decide +kernel
theorem dX5_areLinked_39 : decode cX5_areLinked 39 = .ok (.goto 4, 3) := by decide +kernel
theorem dX5_areLinked_42 : decode cX5_areLinked 42 = .ok (.iconst 0, 1) := by decide +kernel
theorem dX5_areLinked_43 : decode cX5_areLinked 43 = .ok (.ireturn, 1) := by decide +kernel
set_option maxRecDepth 20000 in
theorem ggX5_links_X5_degrees : GoodIn wsX5_links wsX5_degrees := goodIn_r _ [7, 2, 8, 9, 10, 6, 11, 12, 13, 14, 15, 16, 17, 18, 19, 20, 21, 22, 23, 24, 25, 26, 27, 28, 29, 30, 31, 32, 33, 34, 35, 36, 37] (by decide +kernel) (by decide +kernel)
set_option maxRecDepth 20000 in
theorem gX5_links_X5_degrees : GoodIn wsX5_links (wsV RX5 91 RX5 yX5_degrees wsX5_degrees) := goodIn_app (goodIn_of _ (by decide +kernel)) ggX5_links_X5_degrees
theorem dX5_links_0 : decode cX5_links 0 = .ok (.aload_n 0, 1) := by decide +kernel
theorem dX5_links_1 : decode cX5_links 1 = .ok (.iconst 0, 1) := by decide +kernel
theorem dX5_links_2 : decode cX5_links 2 = .ok (.putfield 58, 3) := by decide +kernel
theorem dX5_links_5 : decode cX5_links 5 = .ok (.iconst 0, 1) := by decide +kernel
theorem dX5_links_6 : decode cX5_links 6 = .ok (.istore_n 1, 1) := by decide +kernel
theorem dX5_links_7 : decode cX5_links 7 = .ok (.iconst 0, 1) := by decide +kernel
theorem dX5_links_8 : decode cX5_links 8 = .ok (.istore_n 2, 1) := by decide +kernel
theorem dX5_links_9 : decode cX5_links 9 = .ok (.iload_n 2, 1) := by decide +kernel
theorem dX5_links_10 : decode cX5_links 10 = .ok (.aload_n 0, 1) := by decide +kernel
theorem dX5_links_11 : decode cX5_links 11 = .ok (.getfield 61, 3) := by decide +kernel
theorem dX5_links_14 : decode cX5_links 14 = .ok (.if_icmp .ge 17, 3) := by decide +kernel
theorem dX5_links_17 : decode cX5_links 17 = .ok (.iload_n 1, 1) := by decide +kernel
theorem dX5_links_18 : decode cX5_links 18 = .ok (.aload_n 0, 1) := by decide +kernel
theorem dX5_links_19 : decode cX5_links 19 = .ok (.iload_n 2, 1) := by decide +kernel
theorem dX5_links_20 : decode cX5_links 20 = .ok (.invokevirtual 91, 3) := by decide +kernel
theorem dX5_links_23 : decode cX5_links 23 = .ok (.iadd, 1) := by decide +kernel
theorem dX5_links_24 : decode cX5_links 24 = .ok (.istore_n 1, 1) := by decide +kernel
theorem dX5_links_25 : decode cX5_links 25 = .ok (.iinc 2 1, 3) := by decide +kernel
theorem dX5_links_28 : decode cX5_links 28 = .ok (.goto (-19), 3) := by decide +kernel
theorem dX5_links_31 : decode cX5_links 31 = .ok (.iload_n 1, 1) := by decide +kernel
theorem dX5_links_32 : decode cX5_links 32 = .ok (.iconst 2, 1) := by decide +kernel
theorem dX5_links_33 : decode cX5_links 33 = .ok (.idiv, 1) := by decide +kernel
theorem dX5_links_34 : decode cX5_links 34 = .ok (.ireturn, 1) := by decide +kernel
set_option maxRecDepth 20000 in
theorem ggX5_degree_X5_is : GoodIn wsX5_degree wsX5_is := goodIn_r _ [5, 6, 7, 8, 4, 9, 32, 33, 34, 35, 36, 37, 38, 39, 40, 41, 42, 43, 44, 45, 46, 47, 48] (by decide +kernel) (by decide +kernel)
set_option maxRecDepth 20000 in
theorem gX5_degree_X5_is : GoodIn wsX5_degree (wsV RX5 76 RX5 yX5_is wsX5_is) := goodIn_app (goodIn_of _ (by decide +kernel)) ggX5_degree_X5_is
set_option maxRecDepth 20000 in
theorem ggX5_degree_X5_goes : GoodIn wsX5_degree wsX5_goes := goodIn_r _ [13, 14, 32, 33, 34, 35, 36, 37, 38, 39, 40, 41, 42, 43, 44, 45, 46, 47, 48] (by decide +kernel) (by decide +kernel)
set_option maxRecDepth 20000 in
theorem gX5_degree_X5_goes : GoodIn wsX5_degree (wsV RX5 72 RX5 yX5_goes wsX5_goes) := goodIn_app (goodIn_of _ (by decide +kernel)) ggX5_degree_X5_goes
set_option maxRecDepth 20000 in
theorem ggX5_degree_X5_degrees : GoodIn wsX5_degree wsX5_degrees := goodIn_r _ [18, 6, 19, 20, 21, 4, 22, 23, 24, 25, 26, 27, 28, 29, 30, 31, 32, 33, 34, 35, 36, 37, 38, 39, 40, 41, 42, 43, 44, 45, 46, 47, 48] (by decide +kernel) (by decide +kernel)
set_option maxRecDepth 20000 in
theorem gX5_degree_X5_degrees : GoodIn wsX5_degree (wsV RX5 91 RX5 yX5_degrees wsX5_degrees) := goodIn_app (goodIn_of _ (by decide +kernel)) ggX5_degree_X5_degrees
theorem dX5_degree_0 : decode cX5_degree 0 = .ok (.aload_n 0, 1) := by decide +kernel
theorem dX5_degree_1 : decode cX5_degree 1 = .ok (.aload_n 0, 1) := by decide +kernel
theorem dX5_degree_2 : decode cX5_degree 2 = .ok (.iload_n 1, 1) := by decide +kernel
theorem dX5_degree_3 : decode cX5_degree 3 = .ok (.invokevirtual 76, 3) := by decide +kernel
theorem dX5_degree_6 : decode cX5_degree 6 = .ok (.iconst 1, 1) := by decide +kernel
theorem dX5_degree_7 : decode cX5_degree 7 = .ok (.invokevirtual 72, 3) := by decide +kernel
theorem dX5_degree_10 : decode cX5_degree 10 = .ok (.ifCond .eq 11, 3) := by decide +kernel
theorem dX5_degree_13 : decode cX5_degree 13 = .ok (.aload_n 0, 1) := by decide +kernel
theorem dX5_degree_14 : decode cX5_degree 14 = .ok (.iload_n 1, 1) := by decide +kernel
theorem dX5_degree_15 : decode cX5_degree 15 = .ok (.invokevirtual 91, 3) := by decide +kernel
theorem dX5_degree_18 : decode cX5_degree 18 = .ok (.goto 4, 3) := by decide +kernel
theorem dX5_degree_21 : decode cX5_degree 21 = .ok (.iconst 0, 1) := by decide +kernel
theorem dX5_degree_22 : decode cX5_degree 22 = .ok (.ireturn, 1) := by decide +kernel
set_option maxRecDepth 20000 in
theorem ggX5_groups_X5_countGroups : GoodIn wsX5_groups wsX5_countGroups := goodIn_r _ [6, 7, 8, 9, 10, 11, 5, 12, 13, 14, 15, 16, 17, 18, 19, 20, 21, 22, 23, 24, 25, 26, 27, 28, 29, 30, 31, 32, 33, 34, 35, 36, 37, 38, 39, 40, 41] (by decide +kernel) (by decide +kernel)
set_option maxRecDepth 20000 in
theorem gX5_groups_X5_countGroups : GoodIn wsX5_groups (wsV RX5 94 RX5 yX5_countGroups wsX5_countGroups) := goodIn_app (goodIn_of _ (by decide +kernel)) ggX5_groups_X5_countGroups
theorem dX5_groups_0 : decode cX5_groups 0 = .ok (.aload_n 0, 1) := by decide +kernel
theorem dX5_groups_1 : decode cX5_groups 1 = .ok (.iconst 0, 1) := by decide +kernel
theorem dX5_groups_2 : decode cX5_groups 2 = .ok (.putfield 58, 3) := by decide +kernel
theorem dX5_groups_5 : decode cX5_groups 5 = .ok (.aload_n 0, 1) := by decide +kernel
theorem dX5_groups_6 : decode cX5_groups 6 = .ok (.invokevirtual 94, 3) := by decide +kernel
theorem dX5_groups_9 : decode cX5_groups 9 = .ok (.ireturn, 1) := by decide +kernel
set_option maxRecDepth 20000 in
theorem ggX5_leader_X5_is : GoodIn wsX5_leader wsX5_is := goodIn_r _ [9, 3, 10, 11, 8, 12, 33, 34, 35, 36, 37, 38, 39, 40, 41, 42, 43, 44, 45, 46, 47, 48, 49] (by decide +kernel) (by decide +kernel)
set_option maxRecDepth 20000 in
theorem gX5_leader_X5_is : GoodIn wsX5_leader (wsV RX5 76 RX5 yX5_is wsX5_is) := goodIn_app (goodIn_of _ (by decide +kernel)) ggX5_leader_X5_is
set_option maxRecDepth 20000 in
theorem ggX5_leader_X5_goes : GoodIn wsX5_leader wsX5_goes := goodIn_r _ [16, 2, 33, 34, 35, 36, 37, 38, 39, 40, 41, 42, 43, 44, 45, 46, 47, 48, 49] (by decide +kernel) (by decide +kernel)
set_option maxRecDepth 20000 in
theorem gX5_leader_X5_goes : GoodIn wsX5_leader (wsV RX5 72 RX5 yX5_goes wsX5_goes) := goodIn_app (goodIn_of _ (by decide +kernel)) ggX5_leader_X5_goes
set_option maxRecDepth 20000 in
theorem ggX5_leader_X5_group : GoodIn wsX5_leader wsX5_group := goodIn_r _ [20, 3, 21, 22, 23, 8, 24, 1, 25, 26, 27, 28, 29, 30, 31, 32, 33, 34, 35, 36, 37, 38, 39, 40, 41, 42, 43, 44, 45, 46, 47, 48, 49] (by decide +kernel) (by decide +kernel)
set_option maxRecDepth 20000 in
theorem gX5_leader_X5_group : GoodIn wsX5_leader (wsV RX5 87 RX5 yX5_group wsX5_group) := goodIn_app (goodIn_of _ (by decide +kernel)) ggX5_leader_X5_group
theorem dX5_leader_0 : decode cX5_leader 0 = .ok (.aload_n 0, 1) := by decide +kernel
theorem dX5_leader_1 : decode cX5_leader 1 = .ok (.aload_n 0, 1) := by decide +kernel
theorem dX5_leader_2 : decode cX5_leader 2 = .ok (.iload_n 1, 1) := by decide +kernel
theorem dX5_leader_3 : decode cX5_leader 3 = .ok (.invokevirtual 76, 3) := by decide +kernel
theorem dX5_leader_6 : decode cX5_leader 6 = .ok (.iconst 1, 1) := by decide +kernel
theorem dX5_leader_7 : decode cX5_leader 7 = .ok (.invokevirtual 72, 3) := by decide +kernel
theorem dX5_leader_10 : decode cX5_leader 10 = .ok (.ifCond .eq 12, 3) := by decide +kernel
theorem dX5_leader_13 : decode cX5_leader 13 = .ok (.aload_n 0, 1) := by decide +kernel
theorem dX5_leader_14 : decode cX5_leader 14 = .ok (.getfield 16, 3) := by decide +kernel
theorem dX5_leader_17 : decode cX5_leader 17 = .ok (.iload_n 1, 1) := by decide +kernel
theorem dX5_leader_18 : decode cX5_leader 18 = .ok (.baload, 1) := by decide +kernel
theorem dX5_leader_19 : decode cX5_leader 19 = .ok (.ifCond .eq 16, 3) := by decide +kernel
theorem dX5_leader_22 : decode cX5_leader 22 = .ok (.aload_n 0, 1) := by decide +kernel
theorem dX5_leader_23 : decode cX5_leader 23 = .ok (.getfield 58, 3) := by decide +kernel
theorem dX5_leader_26 : decode cX5_leader 26 = .ok (.ifCond .le 7, 3) := by decide +kernel
theorem dX5_leader_29 : decode cX5_leader 29 = .ok (.iconst 0, 1) := by decide +kernel
theorem dX5_leader_30 : decode cX5_leader 30 = .ok (.goto 4, 3) := by decide +kernel
theorem dX5_leader_33 : decode cX5_leader 33 = .ok (.iconst (-1), 1) := by decide +kernel
theorem dX5_leader_34 : decode cX5_leader 34 = .ok (.ireturn, 1) := by decide +kernel
theorem dX5_leader_35 : decode cX5_leader 35 = .ok (.aload_n 0, 1) := by decide +kernel
theorem dX5_leader_36 : decode cX5_leader 36 = .ok (.iload_n 1, 1) := by decide +kernel
theorem dX5_leader_37 : decode cX5_leader 37 = .ok (.invokevirtual 87, 3) := by decide +kernel
theorem dX5_leader_40 : decode cX5_leader 40 = .ok (.istore_n 2, 1) := by decide +kernel
theorem dX5_leader_41 : decode cX5_leader 41 = .ok (.iload_n 1, 1) := by decide +kernel
theorem dX5_leader_42 : decode cX5_leader 42 = .ok (.istore_n 3, 1) := by decide +kernel
theorem dX5_leader_43 : decode cX5_leader 43 = .ok (.aload_n 0, 1) := by decide +kernel
theorem dX5_leader_44 : decode cX5_leader 44 = .ok (.getfield 61, 3) := by decide +kernel
theorem dX5_leader_47 : decode cX5_leader 47 = .ok (.iconst 1, 1) := by decide +kernel
theorem dX5_leader_48 : decode cX5_leader 48 = .ok (.isub, 1) := by decide +kernel
theorem dX5_leader_49 : decode cX5_leader 49 = .ok (.istore 4, 2) := by decide +kernel
theorem dX5_leader_51 : decode cX5_leader 51 = .ok (.iload 4, 2) := by decide +kernel
theorem dX5_leader_53 : decode cX5_leader 53 = .ok (.ifCond .lt 42, 3) := by decide +kernel
theorem dX5_leader_56 : decode cX5_leader 56 = .ok (.iload_n 2, 1) := by decide +kernel
theorem dX5_leader_57 : decode cX5_leader 57 = .ok (.iload 4, 2) := by decide +kernel
theorem dX5_leader_59 : decode cX5_leader 59 = .ok (.ishr, 1) := by decide +kernel
theorem dX5_leader_60 : decode cX5_leader 60 = .ok (.iconst 1, 1) := by decide +kernel
theorem dX5_leader_61 : decode cX5_leader 61 = .ok (.iand, 1) := by decide +kernel
theorem dX5_leader_62 : decode cX5_leader 62 = .ok (.iconst 1, 1) := by decide +kernel
theorem dX5_leader_63 : decode cX5_leader 63 = .ok (.if_icmp .ne 24, 3) := by decide +kernel
theorem dX5_leader_66 : decode cX5_leader 66 = .ok (.aload_n 0, 1) := by decide +kernel
theorem dX5_leader_67 : decode cX5_leader 67 = .ok (.getfield 20, 3) := by decide +kernel
theorem dX5_leader_70 : decode cX5_leader 70 = .ok (.iload 4, 2) := by decide +kernel
theorem dX5_leader_72 : decode cX5_leader 72 = .ok (.iaload, 1) := by decide +kernel
theorem dX5_leader_73 : decode cX5_leader 73 = .ok (.aload_n 0, 1) := by decide +kernel
theorem dX5_leader_74 : decode cX5_leader 74 = .ok (.getfield 20, 3) := by decide +kernel
theorem dX5_leader_77 : decode cX5_leader 77 = .ok (.iload_n 3, 1) := by decide +kernel
theorem dX5_leader_78 : decode cX5_leader 78 = .ok (.iaload, 1) := by decide +kernel
theorem dX5_leader_79 : decode cX5_leader 79 = .ok (.if_icmp .lt 8, 3) := by decide +kernel
theorem dX5_leader_82 : decode cX5_leader 82 = .ok (.iload 4, 2) := by decide +kernel
theorem dX5_leader_84 : decode cX5_leader 84 = .ok (.goto 4, 3) := by decide +kernel
theorem dX5_leader_87 : decode cX5_leader 87 = .ok (.iload_n 3, 1) := by decide +kernel
theorem dX5_leader_88 : decode cX5_leader 88 = .ok (.istore_n 3, 1) := by decide +kernel
theorem dX5_leader_89 : decode cX5_leader 89 = .ok (.iinc 4 (-1), 3) := by decide +kernel
theorem dX5_leader_92 : decode cX5_leader 92 = .ok (.goto (-41), 3) := by decide +kernel
theorem dX5_leader_95 : decode cX5_leader 95 = .ok (.iload_n 3, 1) := by decide +kernel
theorem dX5_leader_96 : decode cX5_leader 96 = .ok (.ireturn, 1) := by decide +kernel
set_option maxRecDepth 20000 in
theorem ggX5_trees_X5_countGroups : GoodIn wsX5_trees wsX5_countGroups := goodIn_r _ [9, 2, 4, 10, 11, 12, 8, 13, 14, 15, 16, 17, 18, 19, 20, 21, 22, 23, 24, 25, 36, 37, 38, 39, 40, 41, 42, 43, 44, 45, 46, 47, 48, 49, 50, 51, 52] (by decide +kernel) (by decide +kernel)
set_option maxRecDepth 20000 in
theorem gX5_trees_X5_countGroups : GoodIn wsX5_trees (wsV RX5 94 RX5 yX5_countGroups wsX5_countGroups) := goodIn_app (goodIn_of _ (by decide +kernel)) ggX5_trees_X5_countGroups
set_option maxRecDepth 20000 in
theorem ggX5_trees_X5_minor : GoodIn wsX5_trees wsX5_minor := goodIn_r _ [29, 3, 30, 31, 32, 33, 34, 8, 35, 2, 14, 15, 16, 17, 4, 18, 19, 20, 21, 22, 23, 24, 25, 36, 37, 38, 39, 40, 41, 42, 43, 44, 45, 46, 47, 48, 49, 50, 51, 52] (by decide +kernel) (by decide +kernel)
set_option maxRecDepth 20000 in
theorem gX5_trees_X5_minor : GoodIn wsX5_trees (wsV RX5 98 RX5 yX5_minor wsX5_minor) := goodIn_app (goodIn_of _ (by decide +kernel)) ggX5_trees_X5_minor
theorem dX5_trees_0 : decode cX5_trees 0 = .ok (.aload_n 0, 1) := by decide +kernel
theorem dX5_trees_1 : decode cX5_trees 1 = .ok (.iconst 0, 1) := by decide +kernel
theorem dX5_trees_2 : decode cX5_trees 2 = .ok (.putfield 58, 3) := by decide +kernel
theorem dX5_trees_5 : decode cX5_trees 5 = .ok (.aload_n 0, 1) := by decide +kernel
theorem dX5_trees_6 : decode cX5_trees 6 = .ok (.invokevirtual 94, 3) := by decide +kernel
theorem dX5_trees_9 : decode cX5_trees 9 = .ok (.iconst 1, 1) := by decide +kernel
theorem dX5_trees_10 : decode cX5_trees 10 = .ok (.if_icmp .eq 5, 3) := by decide +kernel
theorem dX5_trees_13 : decode cX5_trees 13 = .ok (.lconst 0, 1) := by decide +kernel
theorem dX5_trees_14 : decode cX5_trees 14 = .ok (.lreturn, 1) := by decide +kernel
theorem dX5_trees_15 : decode cX5_trees 15 = .ok (.iconst 0, 1) := by decide +kernel
theorem dX5_trees_16 : decode cX5_trees 16 = .ok (.istore_n 1, 1) := by decide +kernel
theorem dX5_trees_17 : decode cX5_trees 17 = .ok (.iconst 0, 1) := by decide +kernel
theorem dX5_trees_18 : decode cX5_trees 18 = .ok (.istore_n 2, 1) := by decide +kernel
theorem dX5_trees_19 : decode cX5_trees 19 = .ok (.iload_n 2, 1) := by decide +kernel
theorem dX5_trees_20 : decode cX5_trees 20 = .ok (.aload_n 0, 1) := by decide +kernel
theorem dX5_trees_21 : decode cX5_trees 21 = .ok (.getfield 61, 3) := by decide +kernel
theorem dX5_trees_24 : decode cX5_trees 24 = .ok (.if_icmp .ge 33, 3) := by decide +kernel
theorem dX5_trees_27 : decode cX5_trees 27 = .ok (.aload_n 0, 1) := by decide +kernel
theorem dX5_trees_28 : decode cX5_trees 28 = .ok (.getfield 48, 3) := by decide +kernel
theorem dX5_trees_31 : decode cX5_trees 31 = .ok (.iload_n 1, 1) := by decide +kernel
theorem dX5_trees_32 : decode cX5_trees 32 = .ok (.iload_n 2, 1) := by decide +kernel
theorem dX5_trees_33 : decode cX5_trees 33 = .ok (.iastore, 1) := by decide +kernel
theorem dX5_trees_34 : decode cX5_trees 34 = .ok (.iload_n 1, 1) := by decide +kernel
theorem dX5_trees_35 : decode cX5_trees 35 = .ok (.aload_n 0, 1) := by decide +kernel
theorem dX5_trees_36 : decode cX5_trees 36 = .ok (.getfield 16, 3) := by decide +kernel
theorem dX5_trees_39 : decode cX5_trees 39 = .ok (.iload_n 2, 1) := by decide +kernel
theorem dX5_trees_40 : decode cX5_trees 40 = .ok (.baload, 1) := by decide +kernel
theorem dX5_trees_41 : decode cX5_trees 41 = .ok (.ifCond .eq 7, 3) := by decide +kernel
theorem dX5_trees_44 : decode cX5_trees 44 = .ok (.iconst 0, 1) := by decide +kernel
theorem dX5_trees_45 : decode cX5_trees 45 = .ok (.goto 4, 3) := by decide +kernel
theorem dX5_trees_48 : decode cX5_trees 48 = .ok (.iconst 1, 1) := by decide +kernel
theorem dX5_trees_49 : decode cX5_trees 49 = .ok (.iadd, 1) := by decide +kernel
theorem dX5_trees_50 : decode cX5_trees 50 = .ok (.istore_n 1, 1) := by decide +kernel
theorem dX5_trees_51 : decode cX5_trees 51 = .ok (.iinc 2 1, 3) := by decide +kernel
theorem dX5_trees_54 : decode cX5_trees 54 = .ok (.goto (-35), 3) := by decide +kernel
theorem dX5_trees_57 : decode cX5_trees 57 = .ok (.aload_n 0, 1) := by decide +kernel
theorem dX5_trees_58 : decode cX5_trees 58 = .ok (.iload_n 1, 1) := by decide +kernel
theorem dX5_trees_59 : decode cX5_trees 59 = .ok (.iconst 1, 1) := by decide +kernel
theorem dX5_trees_60 : decode cX5_trees 60 = .ok (.isub, 1) := by decide +kernel
theorem dX5_trees_61 : decode cX5_trees 61 = .ok (.invokevirtual 98, 3) := by decide +kernel
theorem dX5_trees_64 : decode cX5_trees 64 = .ok (.lreturn, 1) := by decide +kernel
set_option maxRecDepth 20000 in
theorem ggX5_minor_X5_degrees : GoodIn wsX5_minor wsX5_degrees := goodIn_r _ [8, 9, 10, 11, 12, 7, 13, 14, 15, 16, 17, 18, 19, 20, 21, 22, 23, 24, 25, 26, 27, 28, 29, 30, 31, 32, 33, 34, 35, 36, 37, 38, 39] (by decide +kernel) (by decide +kernel)
set_option maxRecDepth 20000 in
theorem gX5_minor_X5_degrees : GoodIn wsX5_minor (wsV RX5 91 RX5 yX5_degrees wsX5_degrees) := goodIn_app (goodIn_of _ (by decide +kernel)) ggX5_minor_X5_degrees
set_option maxRecDepth 20000 in
theorem ggX5_minor_X5_linked : GoodIn wsX5_minor wsX5_linked := goodIn_r _ [13, 14, 15, 16, 17, 18, 19, 7, 20, 21, 22, 23, 24, 25, 26, 27, 28, 29, 30, 31, 32, 33, 34, 35, 36, 37, 38, 39] (by decide +kernel) (by decide +kernel)
set_option maxRecDepth 20000 in
theorem gX5_minor_X5_linked : GoodIn wsX5_minor (wsV RX5 84 RX5 yX5_linked wsX5_linked) := goodIn_app (goodIn_of _ (by decide +kernel)) ggX5_minor_X5_linked
theorem dX5_minor_0 : decode cX5_minor 0 = .ok (.iconst 0, 1) := by decide +kernel
theorem dX5_minor_1 : decode cX5_minor 1 = .ok (.istore_n 2, 1) := by decide +kernel
theorem dX5_minor_2 : decode cX5_minor 2 = .ok (.iload_n 2, 1) := by decide +kernel
theorem dX5_minor_3 : decode cX5_minor 3 = .ok (.iload_n 1, 1) := by decide +kernel
theorem dX5_minor_4 : decode cX5_minor 4 = .ok (.iload_n 1, 1) := by decide +kernel
theorem dX5_minor_5 : decode cX5_minor 5 = .ok (.imul, 1) := by decide +kernel
theorem dX5_minor_6 : decode cX5_minor 6 = .ok (.if_icmp .ge 66, 3) := by decide +kernel
theorem dX5_minor_9 : decode cX5_minor 9 = .ok (.aload_n 0, 1) := by decide +kernel
theorem dX5_minor_10 : decode cX5_minor 10 = .ok (.getfield 48, 3) := by decide +kernel
theorem dX5_minor_13 : decode cX5_minor 13 = .ok (.iload_n 2, 1) := by decide +kernel
theorem dX5_minor_14 : decode cX5_minor 14 = .ok (.iload_n 1, 1) := by decide +kernel
theorem dX5_minor_15 : decode cX5_minor 15 = .ok (.idiv, 1) := by decide +kernel
theorem dX5_minor_16 : decode cX5_minor 16 = .ok (.iaload, 1) := by decide +kernel
theorem dX5_minor_17 : decode cX5_minor 17 = .ok (.istore_n 3, 1) := by decide +kernel
theorem dX5_minor_18 : decode cX5_minor 18 = .ok (.aload_n 0, 1) := by decide +kernel
theorem dX5_minor_19 : decode cX5_minor 19 = .ok (.getfield 48, 3) := by decide +kernel
theorem dX5_minor_22 : decode cX5_minor 22 = .ok (.iload_n 2, 1) := by decide +kernel
theorem dX5_minor_23 : decode cX5_minor 23 = .ok (.iload_n 1, 1) := by decide +kernel
theorem dX5_minor_24 : decode cX5_minor 24 = .ok (.irem, 1) := by decide +kernel
theorem dX5_minor_25 : decode cX5_minor 25 = .ok (.iaload, 1) := by decide +kernel
theorem dX5_minor_26 : decode cX5_minor 26 = .ok (.istore 4, 2) := by decide +kernel
theorem dX5_minor_28 : decode cX5_minor 28 = .ok (.aload_n 0, 1) := by decide +kernel
theorem dX5_minor_29 : decode cX5_minor 29 = .ok (.getfield 54, 3) := by decide +kernel
theorem dX5_minor_32 : decode cX5_minor 32 = .ok (.iload_n 2, 1) := by decide +kernel
theorem dX5_minor_33 : decode cX5_minor 33 = .ok (.iload_n 3, 1) := by decide +kernel
theorem dX5_minor_34 : decode cX5_minor 34 = .ok (.iload 4, 2) := by decide +kernel
theorem dX5_minor_36 : decode cX5_minor 36 = .ok (.if_icmp .ne 12, 3) := by decide +kernel
theorem dX5_minor_39 : decode cX5_minor 39 = .ok (.aload_n 0, 1) := by decide +kernel
theorem dX5_minor_40 : decode cX5_minor 40 = .ok (.iload_n 3, 1) := by decide +kernel
theorem dX5_minor_41 : decode cX5_minor 41 = .ok (.invokevirtual 91, 3) := by decide +kernel
theorem dX5_minor_44 : decode cX5_minor 44 = .ok (.i2l, 1) := by decide +kernel
theorem dX5_minor_45 : decode cX5_minor 45 = .ok (.goto 20, 3) := by decide +kernel
theorem dX5_minor_48 : decode cX5_minor 48 = .ok (.aload_n 0, 1) := by decide +kernel
theorem dX5_minor_49 : decode cX5_minor 49 = .ok (.iload_n 3, 1) := by decide +kernel
theorem dX5_minor_50 : decode cX5_minor 50 = .ok (.iload 4, 2) := by decide +kernel
theorem dX5_minor_52 : decode cX5_minor 52 = .ok (.invokevirtual 84, 3) := by decide +kernel
theorem dX5_minor_55 : decode cX5_minor 55 = .ok (.ifCond .eq 9, 3) := by decide +kernel
theorem dX5_minor_58 : decode cX5_minor 58 = .ok (.ldc2_w 102, 3) := by decide +kernel
theorem dX5_minor_61 : decode cX5_minor 61 = .ok (.goto 4, 3) := by decide +kernel
theorem dX5_minor_64 : decode cX5_minor 64 = .ok (.lconst 0, 1) := by decide +kernel
theorem dX5_minor_65 : decode cX5_minor 65 = .ok (.lastore, 1) := by decide +kernel
theorem dX5_minor_66 : decode cX5_minor 66 = .ok (.iinc 2 1, 3) := by decide +kernel
theorem dX5_minor_69 : decode cX5_minor 69 = .ok (.goto (-67), 3) := by decide +kernel
theorem dX5_minor_72 : decode cX5_minor 72 = .ok (.lconst 1, 1) := by decide +kernel
theorem dX5_minor_73 : decode cX5_minor 73 = .ok (.lstore_n 2, 1) := by decide +kernel
theorem dX5_minor_74 : decode cX5_minor 74 = .ok (.iconst 0, 1) := by decide +kernel
theorem dX5_minor_75 : decode cX5_minor 75 = .ok (.istore 4, 2) := by decide +kernel
theorem dX5_minor_77 : decode cX5_minor 77 = .ok (.iload 4, 2) := by decide +kernel
theorem dX5_minor_79 : decode cX5_minor 79 = .ok (.iconst 1, 1) := by decide +kernel
theorem dX5_minor_80 : decode cX5_minor 80 = .ok (.iadd, 1) := by decide +kernel
theorem dX5_minor_81 : decode cX5_minor 81 = .ok (.iload_n 1, 1) := by decide +kernel
theorem dX5_minor_82 : decode cX5_minor 82 = .ok (.if_icmp .ge 123, 3) := by decide +kernel
theorem dX5_minor_85 : decode cX5_minor 85 = .ok (.iload 4, 2) := by decide +kernel
theorem dX5_minor_87 : decode cX5_minor 87 = .ok (.iconst 1, 1) := by decide +kernel
theorem dX5_minor_88 : decode cX5_minor 88 = .ok (.iadd, 1) := by decide +kernel
theorem dX5_minor_89 : decode cX5_minor 89 = .ok (.istore 5, 2) := by decide +kernel
theorem dX5_minor_91 : decode cX5_minor 91 = .ok (.iload 5, 2) := by decide +kernel
theorem dX5_minor_93 : decode cX5_minor 93 = .ok (.iload_n 1, 1) := by decide +kernel
theorem dX5_minor_94 : decode cX5_minor 94 = .ok (.if_icmp .ge 92, 3) := by decide +kernel
theorem dX5_minor_97 : decode cX5_minor 97 = .ok (.iload 4, 2) := by decide +kernel
theorem dX5_minor_99 : decode cX5_minor 99 = .ok (.iconst 1, 1) := by decide +kernel
theorem dX5_minor_100 : decode cX5_minor 100 = .ok (.iadd, 1) := by decide +kernel
theorem dX5_minor_101 : decode cX5_minor 101 = .ok (.istore 6, 2) := by decide +kernel
theorem dX5_minor_103 : decode cX5_minor 103 = .ok (.iload 6, 2) := by decide +kernel
theorem dX5_minor_105 : decode cX5_minor 105 = .ok (.iload_n 1, 1) := by decide +kernel
theorem dX5_minor_106 : decode cX5_minor 106 = .ok (.if_icmp .ge 74, 3) := by decide +kernel
theorem dX5_minor_109 : decode cX5_minor 109 = .ok (.aload_n 0, 1) := by decide +kernel
theorem dX5_minor_110 : decode cX5_minor 110 = .ok (.getfield 54, 3) := by decide +kernel
theorem dX5_minor_113 : decode cX5_minor 113 = .ok (.iload_n 1, 1) := by decide +kernel
theorem dX5_minor_114 : decode cX5_minor 114 = .ok (.iload 5, 2) := by decide +kernel
theorem dX5_minor_116 : decode cX5_minor 116 = .ok (.imul, 1) := by decide +kernel
theorem dX5_minor_117 : decode cX5_minor 117 = .ok (.iload 6, 2) := by decide +kernel
theorem dX5_minor_119 : decode cX5_minor 119 = .ok (.iadd, 1) := by decide +kernel
theorem dX5_minor_120 : decode cX5_minor 120 = .ok (.aload_n 0, 1) := by decide +kernel
theorem dX5_minor_121 : decode cX5_minor 121 = .ok (.getfield 54, 3) := by decide +kernel
theorem dX5_minor_124 : decode cX5_minor 124 = .ok (.iload_n 1, 1) := by decide +kernel
theorem dX5_minor_125 : decode cX5_minor 125 = .ok (.iload 5, 2) := by decide +kernel
theorem dX5_minor_127 : decode cX5_minor 127 = .ok (.imul, 1) := by decide +kernel
theorem dX5_minor_128 : decode cX5_minor 128 = .ok (.iload 6, 2) := by decide +kernel
theorem dX5_minor_130 : decode cX5_minor 130 = .ok (.iadd, 1) := by decide +kernel
theorem dX5_minor_131 : decode cX5_minor 131 = .ok (.laload, 1) := by decide +kernel
theorem dX5_minor_132 : decode cX5_minor 132 = .ok (.aload_n 0, 1) := by decide +kernel
theorem dX5_minor_133 : decode cX5_minor 133 = .ok (.getfield 54, 3) := by decide +kernel
theorem dX5_minor_136 : decode cX5_minor 136 = .ok (.iload_n 1, 1) := by decide +kernel
theorem dX5_minor_137 : decode cX5_minor 137 = .ok (.iload 4, 2) := by decide +kernel
theorem dX5_minor_139 : decode cX5_minor 139 = .ok (.imul, 1) := by decide +kernel
theorem dX5_minor_140 : decode cX5_minor 140 = .ok (.iload 4, 2) := by decide +kernel
theorem dX5_minor_142 : decode cX5_minor 142 = .ok (.iadd, 1) := by decide +kernel
theorem dX5_minor_143 : decode cX5_minor 143 = .ok (.laload, 1) := by decide +kernel
theorem dX5_minor_144 : decode cX5_minor 144 = .ok (.lmul, 1) := by decide +kernel
theorem dX5_minor_145 : decode cX5_minor 145 = .ok (.aload_n 0, 1) := by decide +kernel
theorem dX5_minor_146 : decode cX5_minor 146 = .ok (.getfield 54, 3) := by decide +kernel
theorem dX5_minor_149 : decode cX5_minor 149 = .ok (.iload_n 1, 1) := by decide +kernel
theorem dX5_minor_150 : decode cX5_minor 150 = .ok (.iload 5, 2) := by decide +kernel
theorem dX5_minor_152 : decode cX5_minor 152 = .ok (.imul, 1) := by decide +kernel
theorem dX5_minor_153 : decode cX5_minor 153 = .ok (.iload 4, 2) := by decide +kernel
theorem dX5_minor_155 : decode cX5_minor 155 = .ok (.iadd, 1) := by decide +kernel
theorem dX5_minor_156 : decode cX5_minor 156 = .ok (.laload, 1) := by decide +kernel
theorem dX5_minor_157 : decode cX5_minor 157 = .ok (.aload_n 0, 1) := by decide +kernel
theorem dX5_minor_158 : decode cX5_minor 158 = .ok (.getfield 54, 3) := by decide +kernel
theorem dX5_minor_161 : decode cX5_minor 161 = .ok (.iload_n 1, 1) := by decide +kernel
theorem dX5_minor_162 : decode cX5_minor 162 = .ok (.iload 4, 2) := by decide +kernel
theorem dX5_minor_164 : decode cX5_minor 164 = .ok (.imul, 1) := by decide +kernel
theorem dX5_minor_165 : decode cX5_minor 165 = .ok (.iload 6, 2) := by decide +kernel
theorem dX5_minor_167 : decode cX5_minor 167 = .ok (.iadd, 1) := by decide +kernel
theorem dX5_minor_168 : decode cX5_minor 168 = .ok (.laload, 1) := by decide +kernel
theorem dX5_minor_169 : decode cX5_minor 169 = .ok (.lmul, 1) := by decide +kernel
theorem dX5_minor_170 : decode cX5_minor 170 = .ok (.lsub, 1) := by decide +kernel
theorem dX5_minor_171 : decode cX5_minor 171 = .ok (.lload_n 2, 1) := by decide +kernel
theorem dX5_minor_172 : decode cX5_minor 172 = .ok (.ldiv, 1) := by decide +kernel
theorem dX5_minor_173 : decode cX5_minor 173 = .ok (.lastore, 1) := by decide +kernel
theorem dX5_minor_174 : decode cX5_minor 174 = .ok (.iinc 6 1, 3) := by decide +kernel
theorem dX5_minor_177 : decode cX5_minor 177 = .ok (.goto (-74), 3) := by decide +kernel
theorem dX5_minor_180 : decode cX5_minor 180 = .ok (.iinc 5 1, 3) := by decide +kernel
theorem dX5_minor_183 : decode cX5_minor 183 = .ok (.goto (-92), 3) := by decide +kernel
theorem dX5_minor_186 : decode cX5_minor 186 = .ok (.aload_n 0, 1) := by decide +kernel
theorem dX5_minor_187 : decode cX5_minor 187 = .ok (.getfield 54, 3) := by decide +kernel
theorem dX5_minor_190 : decode cX5_minor 190 = .ok (.iload_n 1, 1) := by decide +kernel
theorem dX5_minor_191 : decode cX5_minor 191 = .ok (.iload 4, 2) := by decide +kernel
theorem dX5_minor_193 : decode cX5_minor 193 = .ok (.imul, 1) := by decide +kernel
theorem dX5_minor_194 : decode cX5_minor 194 = .ok (.iload 4, 2) := by decide +kernel
theorem dX5_minor_196 : decode cX5_minor 196 = .ok (.iadd, 1) := by decide +kernel
theorem dX5_minor_197 : decode cX5_minor 197 = .ok (.laload, 1) := by decide +kernel
theorem dX5_minor_198 : decode cX5_minor 198 = .ok (.lstore_n 2, 1) := by decide +kernel
theorem dX5_minor_199 : decode cX5_minor 199 = .ok (.iinc 4 1, 3) := by decide +kernel
theorem dX5_minor_202 : decode cX5_minor 202 = .ok (.goto (-125), 3) := by decide +kernel
theorem dX5_minor_205 : decode cX5_minor 205 = .ok (.iload_n 1, 1) := by decide +kernel
theorem dX5_minor_206 : decode cX5_minor 206 = .ok (.ifCond .ne 7, 3) := by decide +kernel
theorem dX5_minor_209 : decode cX5_minor 209 = .ok (.lconst 1, 1) := by decide +kernel
theorem dX5_minor_210 : decode cX5_minor 210 = .ok (.goto 13, 3) := by decide +kernel
theorem dX5_minor_213 : decode cX5_minor 213 = .ok (.aload_n 0, 1) := by decide +kernel
theorem dX5_minor_214 : decode cX5_minor 214 = .ok (.getfield 54, 3) := by decide +kernel
theorem dX5_minor_217 : decode cX5_minor 217 = .ok (.iload_n 1, 1) := by decide +kernel
theorem dX5_minor_218 : decode cX5_minor 218 = .ok (.iload_n 1, 1) := by decide +kernel
theorem dX5_minor_219 : decode cX5_minor 219 = .ok (.imul, 1) := by decide +kernel
theorem dX5_minor_220 : decode cX5_minor 220 = .ok (.iconst 1, 1) := by decide +kernel
theorem dX5_minor_221 : decode cX5_minor 221 = .ok (.isub, 1) := by decide +kernel
theorem dX5_minor_222 : decode cX5_minor 222 = .ok (.laload, 1) := by decide +kernel
theorem dX5_minor_223 : decode cX5_minor 223 = .ok (.lreturn, 1) := by decide +kernel
set_option maxRecDepth 20000 in
theorem ggX5_setEstimate_X5_is : GoodIn wsX5_setEstimate wsX5_is := goodIn_r _ [8, 9, 10, 11, 7, 12, 18, 19, 20, 21, 22, 23, 24, 25, 26, 27, 28, 29, 30, 31, 32, 33, 34] (by decide +kernel) (by decide +kernel)
set_option maxRecDepth 20000 in
theorem gX5_setEstimate_X5_is : GoodIn wsX5_setEstimate (wsV RX5 76 RX5 yX5_is wsX5_is) := goodIn_app (goodIn_of _ (by decide +kernel)) ggX5_setEstimate_X5_is
set_option maxRecDepth 20000 in
theorem ggX5_setEstimate_X5_in : GoodIn wsX5_setEstimate wsX5_in := goodIn_r _ [12] (by decide +kernel) (by decide +kernel)
set_option maxRecDepth 20000 in
theorem gX5_setEstimate_X5_in : GoodIn wsX5_setEstimate (va_wsS RX5 64 yX5_in wsX5_in) := goodIn_app (goodIn_of _ (by decide +kernel)) ggX5_setEstimate_X5_in
set_option maxRecDepth 20000 in
theorem ggX5_setEstimate_X5_goes : GoodIn wsX5_setEstimate wsX5_goes := goodIn_r _ [16, 17, 18, 19, 20, 21, 22, 23, 24, 25, 26, 27, 28, 29, 30, 31, 32, 33, 34] (by decide +kernel) (by decide +kernel)
set_option maxRecDepth 20000 in
theorem gX5_setEstimate_X5_goes : GoodIn wsX5_setEstimate (wsV RX5 72 RX5 yX5_goes wsX5_goes) := goodIn_app (goodIn_of _ (by decide +kernel)) ggX5_setEstimate_X5_goes
theorem dX5_setEstimate_0 : decode cX5_setEstimate 0 = .ok (.aload_n 0, 1) := by decide +kernel
theorem dX5_setEstimate_1 : decode cX5_setEstimate 1 = .ok (.aload_n 0, 1) := by decide +kernel
theorem dX5_setEstimate_2 : decode cX5_setEstimate 2 = .ok (.iload_n 1, 1) := by decide +kernel
theorem dX5_setEstimate_3 : decode cX5_setEstimate 3 = .ok (.invokevirtual 76, 3) := by decide +kernel
theorem dX5_setEstimate_6 : decode cX5_setEstimate 6 = .ok (.iload_n 2, 1) := by decide +kernel
theorem dX5_setEstimate_7 : decode cX5_setEstimate 7 = .ok (.ldc 104, 2) := by decide +kernel
theorem dX5_setEstimate_9 : decode cX5_setEstimate 9 = .ok (.ldc 105, 2) := by decide +kernel
theorem dX5_setEstimate_11 : decode cX5_setEstimate 11 = .ok (.invokestatic 64, 3) := by decide +kernel
theorem dX5_setEstimate_14 : decode cX5_setEstimate 14 = .ok (.invokevirtual 72, 3) := by decide +kernel
theorem dX5_setEstimate_17 : decode cX5_setEstimate 17 = .ok (.ifCond .ne 5, 3) := by decide +kernel
theorem dX5_setEstimate_20 : decode cX5_setEstimate 20 = .ok (.iconst 0, 1) := by decide +kernel
theorem dX5_setEstimate_21 : decode cX5_setEstimate 21 = .ok (.ireturn, 1) := by decide +kernel
theorem dX5_setEstimate_22 : decode cX5_setEstimate 22 = .ok (.aload_n 0, 1) := by decide +kernel
theorem dX5_setEstimate_23 : decode cX5_setEstimate 23 = .ok (.getfield 23, 3) := by decide +kernel
theorem dX5_setEstimate_26 : decode cX5_setEstimate 26 = .ok (.iload_n 1, 1) := by decide +kernel
theorem dX5_setEstimate_27 : decode cX5_setEstimate 27 = .ok (.iaload, 1) := by decide +kernel
theorem dX5_setEstimate_28 : decode cX5_setEstimate 28 = .ok (.istore_n 3, 1) := by decide +kernel
theorem dX5_setEstimate_29 : decode cX5_setEstimate 29 = .ok (.aload_n 0, 1) := by decide +kernel
theorem dX5_setEstimate_30 : decode cX5_setEstimate 30 = .ok (.getfield 23, 3) := by decide +kernel
theorem dX5_setEstimate_33 : decode cX5_setEstimate 33 = .ok (.iload_n 1, 1) := by decide +kernel
theorem dX5_setEstimate_34 : decode cX5_setEstimate 34 = .ok (.iload_n 2, 1) := by decide +kernel
theorem dX5_setEstimate_35 : decode cX5_setEstimate 35 = .ok (.iastore, 1) := by decide +kernel
theorem dX5_setEstimate_36 : decode cX5_setEstimate 36 = .ok (.iload_n 3, 1) := by decide +kernel
theorem dX5_setEstimate_37 : decode cX5_setEstimate 37 = .ok (.ireturn, 1) := by decide +kernel
set_option maxRecDepth 20000 in
theorem ggX5_estimate_X5_is : GoodIn wsX5_estimate wsX5_is := goodIn_r _ [6, 7, 8, 9, 5, 10, 16, 17, 18, 19, 20, 21, 22, 23, 24, 25, 26, 27, 28, 29, 30, 31, 32] (by decide +kernel) (by decide +kernel)
set_option maxRecDepth 20000 in
theorem gX5_estimate_X5_is : GoodIn wsX5_estimate (wsV RX5 76 RX5 yX5_is wsX5_is) := goodIn_app (goodIn_of _ (by decide +kernel)) ggX5_estimate_X5_is
set_option maxRecDepth 20000 in
theorem ggX5_estimate_X5_goes : GoodIn wsX5_estimate wsX5_goes := goodIn_r _ [14, 15, 16, 17, 18, 19, 20, 21, 22, 23, 24, 25, 26, 27, 28, 29, 30, 31, 32] (by decide +kernel) (by decide +kernel)
set_option maxRecDepth 20000 in
theorem gX5_estimate_X5_goes : GoodIn wsX5_estimate (wsV RX5 72 RX5 yX5_goes wsX5_goes) := goodIn_app (goodIn_of _ (by decide +kernel)) ggX5_estimate_X5_goes
theorem dX5_estimate_0 : decode cX5_estimate 0 = .ok (.aload_n 0, 1) := by decide +kernel
theorem dX5_estimate_1 : decode cX5_estimate 1 = .ok (.aload_n 0, 1) := by decide +kernel
theorem dX5_estimate_2 : decode cX5_estimate 2 = .ok (.iload_n 1, 1) := by decide +kernel
theorem dX5_estimate_3 : decode cX5_estimate 3 = .ok (.invokevirtual 76, 3) := by decide +kernel
theorem dX5_estimate_6 : decode cX5_estimate 6 = .ok (.iconst 1, 1) := by decide +kernel
theorem dX5_estimate_7 : decode cX5_estimate 7 = .ok (.invokevirtual 72, 3) := by decide +kernel
theorem dX5_estimate_10 : decode cX5_estimate 10 = .ok (.ifCond .eq 12, 3) := by decide +kernel
theorem dX5_estimate_13 : decode cX5_estimate 13 = .ok (.aload_n 0, 1) := by decide +kernel
theorem dX5_estimate_14 : decode cX5_estimate 14 = .ok (.getfield 23, 3) := by decide +kernel
theorem dX5_estimate_17 : decode cX5_estimate 17 = .ok (.iload_n 1, 1) := by decide +kernel
theorem dX5_estimate_18 : decode cX5_estimate 18 = .ok (.iaload, 1) := by decide +kernel
theorem dX5_estimate_19 : decode cX5_estimate 19 = .ok (.goto 4, 3) := by decide +kernel
theorem dX5_estimate_22 : decode cX5_estimate 22 = .ok (.iconst 0, 1) := by decide +kernel
theorem dX5_estimate_23 : decode cX5_estimate 23 = .ok (.ireturn, 1) := by decide +kernel
set_option maxRecDepth 20000 in
theorem ggX5_agrees_X5_linked : GoodIn wsX5_agrees wsX5_linked := goodIn_r _ [8, 9, 10, 11, 12, 13, 14, 7, 15, 16, 17, 22, 23, 24, 25, 26, 27, 28, 29, 30, 31, 32, 33, 34, 35, 36, 37, 38] (by decide +kernel) (by decide +kernel)
set_option maxRecDepth 20000 in
theorem gX5_agrees_X5_linked : GoodIn wsX5_agrees (wsV RX5 84 RX5 yX5_linked wsX5_linked) := goodIn_app (goodIn_of _ (by decide +kernel)) ggX5_agrees_X5_linked
set_option maxRecDepth 20000 in
theorem ggX5_agrees_X5_degrees : GoodIn wsX5_agrees wsX5_degrees := goodIn_r _ [21, 1, 4, 5, 6, 7, 8, 9, 10, 11, 12, 13, 14, 15, 16, 17, 22, 23, 24, 25, 26, 27, 28, 29, 30, 31, 32, 33, 34, 35, 36, 37, 38] (by decide +kernel) (by decide +kernel)
set_option maxRecDepth 20000 in
theorem gX5_agrees_X5_degrees : GoodIn wsX5_agrees (wsV RX5 91 RX5 yX5_degrees wsX5_degrees) := goodIn_app (goodIn_of _ (by decide +kernel)) ggX5_agrees_X5_degrees
theorem dX5_agrees_0 : decode cX5_agrees 0 = .ok (.iconst 0, 1) := by decide +kernel
theorem dX5_agrees_1 : decode cX5_agrees 1 = .ok (.istore_n 1, 1) := by decide +kernel
theorem dX5_agrees_2 : decode cX5_agrees 2 = .ok (.iload_n 1, 1) := by decide +kernel
theorem dX5_agrees_3 : decode cX5_agrees 3 = .ok (.aload_n 0, 1) := by decide +kernel
theorem dX5_agrees_4 : decode cX5_agrees 4 = .ok (.getfield 61, 3) := by decide +kernel
theorem dX5_agrees_7 : decode cX5_agrees 7 = .ok (.if_icmp .ge 16, 3) := by decide +kernel
theorem dX5_agrees_10 : decode cX5_agrees 10 = .ok (.aload_n 0, 1) := by decide +kernel
theorem dX5_agrees_11 : decode cX5_agrees 11 = .ok (.getfield 45, 3) := by decide +kernel
theorem dX5_agrees_14 : decode cX5_agrees 14 = .ok (.iload_n 1, 1) := by decide +kernel
theorem dX5_agrees_15 : decode cX5_agrees 15 = .ok (.iconst 0, 1) := by decide +kernel
theorem dX5_agrees_16 : decode cX5_agrees 16 = .ok (.iastore, 1) := by decide +kernel
theorem dX5_agrees_17 : decode cX5_agrees 17 = .ok (.iinc 1 1, 3) := by decide +kernel
theorem dX5_agrees_20 : decode cX5_agrees 20 = .ok (.goto (-18), 3) := by decide +kernel
theorem dX5_agrees_23 : decode cX5_agrees 23 = .ok (.iconst 0, 1) := by decide +kernel
theorem dX5_agrees_24 : decode cX5_agrees 24 = .ok (.istore_n 1, 1) := by decide +kernel
theorem dX5_agrees_25 : decode cX5_agrees 25 = .ok (.iload_n 1, 1) := by decide +kernel
theorem dX5_agrees_26 : decode cX5_agrees 26 = .ok (.bipush 64, 2) := by decide +kernel
theorem dX5_agrees_28 : decode cX5_agrees 28 = .ok (.if_icmp .ge 111, 3) := by decide +kernel
theorem dX5_agrees_31 : decode cX5_agrees 31 = .ok (.iload_n 1, 1) := by decide +kernel
theorem dX5_agrees_32 : decode cX5_agrees 32 = .ok (.bipush 8, 2) := by decide +kernel
theorem dX5_agrees_34 : decode cX5_agrees 34 = .ok (.idiv, 1) := by decide +kernel
theorem dX5_agrees_35 : decode cX5_agrees 35 = .ok (.istore_n 2, 1) := by decide +kernel
theorem dX5_agrees_36 : decode cX5_agrees 36 = .ok (.iload_n 1, 1) := by decide +kernel
theorem dX5_agrees_37 : decode cX5_agrees 37 = .ok (.bipush 8, 2) := by decide +kernel
theorem dX5_agrees_39 : decode cX5_agrees 39 = .ok (.irem, 1) := by decide +kernel
theorem dX5_agrees_40 : decode cX5_agrees 40 = .ok (.istore_n 3, 1) := by decide +kernel
theorem dX5_agrees_41 : decode cX5_agrees 41 = .ok (.iload_n 2, 1) := by decide +kernel
theorem dX5_agrees_42 : decode cX5_agrees 42 = .ok (.iload_n 3, 1) := by decide +kernel
theorem dX5_agrees_43 : decode cX5_agrees 43 = .ok (.if_icmp .ge 90, 3) := by decide +kernel
theorem dX5_agrees_46 : decode cX5_agrees 46 = .ok (.iload_n 3, 1) := by decide +kernel
theorem dX5_agrees_47 : decode cX5_agrees 47 = .ok (.aload_n 0, 1) := by decide +kernel
theorem dX5_agrees_48 : decode cX5_agrees 48 = .ok (.getfield 61, 3) := by decide +kernel
theorem dX5_agrees_51 : decode cX5_agrees 51 = .ok (.if_icmp .ge 82, 3) := by decide +kernel
theorem dX5_agrees_54 : decode cX5_agrees 54 = .ok (.aload_n 0, 1) := by decide +kernel
theorem dX5_agrees_55 : decode cX5_agrees 55 = .ok (.iload_n 2, 1) := by decide +kernel
theorem dX5_agrees_56 : decode cX5_agrees 56 = .ok (.iload_n 3, 1) := by decide +kernel
theorem dX5_agrees_57 : decode cX5_agrees 57 = .ok (.invokevirtual 84, 3) := by decide +kernel
theorem dX5_agrees_60 : decode cX5_agrees 60 = .ok (.ifCond .eq 73, 3) := by decide +kernel
theorem dX5_agrees_63 : decode cX5_agrees 63 = .ok (.aload_n 0, 1) := by decide +kernel
theorem dX5_agrees_64 : decode cX5_agrees 64 = .ok (.iload_n 2, 1) := by decide +kernel
theorem dX5_agrees_65 : decode cX5_agrees 65 = .ok (.invokevirtual 91, 3) := by decide +kernel
theorem dX5_agrees_68 : decode cX5_agrees 68 = .ok (.aload_n 0, 1) := by decide +kernel
theorem dX5_agrees_69 : decode cX5_agrees 69 = .ok (.iload_n 3, 1) := by decide +kernel
theorem dX5_agrees_70 : decode cX5_agrees 70 = .ok (.invokevirtual 91, 3) := by decide +kernel
theorem dX5_agrees_73 : decode cX5_agrees 73 = .ok (.if_icmp .le 11, 3) := by decide +kernel
theorem dX5_agrees_76 : decode cX5_agrees 76 = .ok (.aload_n 0, 1) := by decide +kernel
theorem dX5_agrees_77 : decode cX5_agrees 77 = .ok (.iload_n 2, 1) := by decide +kernel
theorem dX5_agrees_78 : decode cX5_agrees 78 = .ok (.invokevirtual 91, 3) := by decide +kernel
theorem dX5_agrees_81 : decode cX5_agrees 81 = .ok (.goto 8, 3) := by decide +kernel
theorem dX5_agrees_84 : decode cX5_agrees 84 = .ok (.aload_n 0, 1) := by decide +kernel
theorem dX5_agrees_85 : decode cX5_agrees 85 = .ok (.iload_n 3, 1) := by decide +kernel
theorem dX5_agrees_86 : decode cX5_agrees 86 = .ok (.invokevirtual 91, 3) := by decide +kernel
theorem dX5_agrees_89 : decode cX5_agrees 89 = .ok (.istore 4, 2) := by decide +kernel
theorem dX5_agrees_91 : decode cX5_agrees 91 = .ok (.aload_n 0, 1) := by decide +kernel
theorem dX5_agrees_92 : decode cX5_agrees 92 = .ok (.getfield 23, 3) := by decide +kernel
theorem dX5_agrees_95 : decode cX5_agrees 95 = .ok (.iload_n 2, 1) := by decide +kernel
theorem dX5_agrees_96 : decode cX5_agrees 96 = .ok (.iaload, 1) := by decide +kernel
theorem dX5_agrees_97 : decode cX5_agrees 97 = .ok (.aload_n 0, 1) := by decide +kernel
theorem dX5_agrees_98 : decode cX5_agrees 98 = .ok (.getfield 23, 3) := by decide +kernel
theorem dX5_agrees_101 : decode cX5_agrees 101 = .ok (.iload_n 3, 1) := by decide +kernel
theorem dX5_agrees_102 : decode cX5_agrees 102 = .ok (.iaload, 1) := by decide +kernel
theorem dX5_agrees_103 : decode cX5_agrees 103 = .ok (.isub, 1) := by decide +kernel
theorem dX5_agrees_104 : decode cX5_agrees 104 = .ok (.iload 4, 2) := by decide +kernel
theorem dX5_agrees_106 : decode cX5_agrees 106 = .ok (.iconst 1, 1) := by decide +kernel
theorem dX5_agrees_107 : decode cX5_agrees 107 = .ok (.iadd, 1) := by decide +kernel
theorem dX5_agrees_108 : decode cX5_agrees 108 = .ok (.idiv, 1) := by decide +kernel
theorem dX5_agrees_109 : decode cX5_agrees 109 = .ok (.istore 5, 2) := by decide +kernel
theorem dX5_agrees_111 : decode cX5_agrees 111 = .ok (.aload_n 0, 1) := by decide +kernel
theorem dX5_agrees_112 : decode cX5_agrees 112 = .ok (.getfield 45, 3) := by decide +kernel
theorem dX5_agrees_115 : decode cX5_agrees 115 = .ok (.iload_n 2, 1) := by decide +kernel
theorem dX5_agrees_116 : decode cX5_agrees 116 = .ok (.dup2, 1) := by decide +kernel
theorem dX5_agrees_117 : decode cX5_agrees 117 = .ok (.iaload, 1) := by decide +kernel
theorem dX5_agrees_118 : decode cX5_agrees 118 = .ok (.iload 5, 2) := by decide +kernel
theorem dX5_agrees_120 : decode cX5_agrees 120 = .ok (.isub, 1) := by decide +kernel
theorem dX5_agrees_121 : decode cX5_agrees 121 = .ok (.iastore, 1) := by decide +kernel
theorem dX5_agrees_122 : decode cX5_agrees 122 = .ok (.aload_n 0, 1) := by decide +kernel
theorem dX5_agrees_123 : decode cX5_agrees 123 = .ok (.getfield 45, 3) := by decide +kernel
theorem dX5_agrees_126 : decode cX5_agrees 126 = .ok (.iload_n 3, 1) := by decide +kernel
theorem dX5_agrees_127 : decode cX5_agrees 127 = .ok (.dup2, 1) := by decide +kernel
theorem dX5_agrees_128 : decode cX5_agrees 128 = .ok (.iaload, 1) := by decide +kernel
theorem dX5_agrees_129 : decode cX5_agrees 129 = .ok (.iload 5, 2) := by decide +kernel
theorem dX5_agrees_131 : decode cX5_agrees 131 = .ok (.iadd, 1) := by decide +kernel
theorem dX5_agrees_132 : decode cX5_agrees 132 = .ok (.iastore, 1) := by decide +kernel
theorem dX5_agrees_133 : decode cX5_agrees 133 = .ok (.iinc 1 1, 3) := by decide +kernel
theorem dX5_agrees_136 : decode cX5_agrees 136 = .ok (.goto (-111), 3) := by decide +kernel
theorem dX5_agrees_139 : decode cX5_agrees 139 = .ok (.iconst 0, 1) := by decide +kernel
theorem dX5_agrees_140 : decode cX5_agrees 140 = .ok (.istore_n 1, 1) := by decide +kernel
theorem dX5_agrees_141 : decode cX5_agrees 141 = .ok (.iload_n 1, 1) := by decide +kernel
theorem dX5_agrees_142 : decode cX5_agrees 142 = .ok (.aload_n 0, 1) := by decide +kernel
theorem dX5_agrees_143 : decode cX5_agrees 143 = .ok (.getfield 61, 3) := by decide +kernel
theorem dX5_agrees_146 : decode cX5_agrees 146 = .ok (.if_icmp .ge 24, 3) := by decide +kernel
theorem dX5_agrees_149 : decode cX5_agrees 149 = .ok (.aload_n 0, 1) := by decide +kernel
theorem dX5_agrees_150 : decode cX5_agrees 150 = .ok (.getfield 23, 3) := by decide +kernel
theorem dX5_agrees_153 : decode cX5_agrees 153 = .ok (.iload_n 1, 1) := by decide +kernel
theorem dX5_agrees_154 : decode cX5_agrees 154 = .ok (.dup2, 1) := by decide +kernel
theorem dX5_agrees_155 : decode cX5_agrees 155 = .ok (.iaload, 1) := by decide +kernel
theorem dX5_agrees_156 : decode cX5_agrees 156 = .ok (.aload_n 0, 1) := by decide +kernel
theorem dX5_agrees_157 : decode cX5_agrees 157 = .ok (.getfield 45, 3) := by decide +kernel
theorem dX5_agrees_160 : decode cX5_agrees 160 = .ok (.iload_n 1, 1) := by decide +kernel
theorem dX5_agrees_161 : decode cX5_agrees 161 = .ok (.iaload, 1) := by decide +kernel
theorem dX5_agrees_162 : decode cX5_agrees 162 = .ok (.iadd, 1) := by decide +kernel
theorem dX5_agrees_163 : decode cX5_agrees 163 = .ok (.iastore, 1) := by decide +kernel
theorem dX5_agrees_164 : decode cX5_agrees 164 = .ok (.iinc 1 1, 3) := by decide +kernel
theorem dX5_agrees_167 : decode cX5_agrees 167 = .ok (.goto (-26), 3) := by decide +kernel
theorem dX5_agrees_170 : decode cX5_agrees 170 = .ok (.return_, 1) := by decide +kernel
set_option maxRecDepth 20000 in
theorem ggX5_agree_X5_in : GoodIn wsX5_agree wsX5_in := goodIn_r _ [6] (by decide +kernel) (by decide +kernel)
set_option maxRecDepth 20000 in
theorem gX5_agree_X5_in : GoodIn wsX5_agree (va_wsS RX5 64 yX5_in wsX5_in) := goodIn_app (goodIn_of _ (by decide +kernel)) ggX5_agree_X5_in
set_option maxRecDepth 20000 in
theorem ggX5_agree_X5_goes : GoodIn wsX5_agree wsX5_goes := goodIn_r _ [10, 11, 34, 35, 36, 37, 38, 39, 40, 41, 42, 43, 44, 45, 46, 47, 48, 49, 50] (by decide +kernel) (by decide +kernel)
set_option maxRecDepth 20000 in
theorem gX5_agree_X5_goes : GoodIn wsX5_agree (wsV RX5 72 RX5 yX5_goes wsX5_goes) := goodIn_app (goodIn_of _ (by decide +kernel)) ggX5_agree_X5_goes
set_option maxRecDepth 20000 in
theorem ggX5_agree_X5_agrees : GoodIn wsX5_agree wsX5_agrees := goodIn_r _ [15, 2, 16, 1, 17, 18, 19, 5, 20, 21, 22, 23, 24, 25, 26, 27, 28, 29, 30, 31, 32, 33, 34, 35, 36, 37, 38, 39, 40, 41, 42, 43, 44, 45, 46, 47, 48, 49, 50] (by decide +kernel) (by decide +kernel)
set_option maxRecDepth 20000 in
theorem gX5_agree_X5_agrees : GoodIn wsX5_agree (wsV RX5 106 RX5 yX5_agrees wsX5_agrees) := goodIn_app (goodIn_of _ (by decide +kernel)) ggX5_agree_X5_agrees
theorem dX5_agree_0 : decode cX5_agree 0 = .ok (.aload_n 0, 1) := by decide +kernel
theorem dX5_agree_1 : decode cX5_agree 1 = .ok (.iload_n 1, 1) := by decide +kernel
theorem dX5_agree_2 : decode cX5_agree 2 = .ok (.iconst 1, 1) := by decide +kernel
theorem dX5_agree_3 : decode cX5_agree 3 = .ok (.bipush 50, 2) := by decide +kernel
theorem dX5_agree_5 : decode cX5_agree 5 = .ok (.invokestatic 64, 3) := by decide +kernel
theorem dX5_agree_8 : decode cX5_agree 8 = .ok (.iconst 1, 1) := by decide +kernel
theorem dX5_agree_9 : decode cX5_agree 9 = .ok (.invokevirtual 72, 3) := by decide +kernel
theorem dX5_agree_12 : decode cX5_agree 12 = .ok (.ifCond .ne 5, 3) := by decide +kernel
theorem dX5_agree_15 : decode cX5_agree 15 = .ok (.iconst 0, 1) := by decide +kernel
theorem dX5_agree_16 : decode cX5_agree 16 = .ok (.ireturn, 1) := by decide +kernel
theorem dX5_agree_17 : decode cX5_agree 17 = .ok (.iconst 0, 1) := by decide +kernel
theorem dX5_agree_18 : decode cX5_agree 18 = .ok (.istore_n 2, 1) := by decide +kernel
theorem dX5_agree_19 : decode cX5_agree 19 = .ok (.iload_n 2, 1) := by decide +kernel
theorem dX5_agree_20 : decode cX5_agree 20 = .ok (.iload_n 1, 1) := by decide +kernel
theorem dX5_agree_21 : decode cX5_agree 21 = .ok (.if_icmp .ge 13, 3) := by decide +kernel
theorem dX5_agree_24 : decode cX5_agree 24 = .ok (.aload_n 0, 1) := by decide +kernel
theorem dX5_agree_25 : decode cX5_agree 25 = .ok (.invokevirtual 106, 3) := by decide +kernel
theorem dX5_agree_28 : decode cX5_agree 28 = .ok (.iinc 2 1, 3) := by decide +kernel
theorem dX5_agree_31 : decode cX5_agree 31 = .ok (.goto (-12), 3) := by decide +kernel
theorem dX5_agree_34 : decode cX5_agree 34 = .ok (.aload_n 0, 1) := by decide +kernel
theorem dX5_agree_35 : decode cX5_agree 35 = .ok (.getfield 23, 3) := by decide +kernel
theorem dX5_agree_38 : decode cX5_agree 38 = .ok (.iconst 0, 1) := by decide +kernel
theorem dX5_agree_39 : decode cX5_agree 39 = .ok (.iaload, 1) := by decide +kernel
theorem dX5_agree_40 : decode cX5_agree 40 = .ok (.istore_n 2, 1) := by decide +kernel
theorem dX5_agree_41 : decode cX5_agree 41 = .ok (.aload_n 0, 1) := by decide +kernel
theorem dX5_agree_42 : decode cX5_agree 42 = .ok (.getfield 23, 3) := by decide +kernel
theorem dX5_agree_45 : decode cX5_agree 45 = .ok (.iconst 0, 1) := by decide +kernel
theorem dX5_agree_46 : decode cX5_agree 46 = .ok (.iaload, 1) := by decide +kernel
theorem dX5_agree_47 : decode cX5_agree 47 = .ok (.istore_n 3, 1) := by decide +kernel
theorem dX5_agree_48 : decode cX5_agree 48 = .ok (.iconst 1, 1) := by decide +kernel
theorem dX5_agree_49 : decode cX5_agree 49 = .ok (.istore 4, 2) := by decide +kernel
theorem dX5_agree_51 : decode cX5_agree 51 = .ok (.iload 4, 2) := by decide +kernel
theorem dX5_agree_53 : decode cX5_agree 53 = .ok (.aload_n 0, 1) := by decide +kernel
theorem dX5_agree_54 : decode cX5_agree 54 = .ok (.getfield 61, 3) := by decide +kernel
theorem dX5_agree_57 : decode cX5_agree 57 = .ok (.if_icmp .ge 55, 3) := by decide +kernel
theorem dX5_agree_60 : decode cX5_agree 60 = .ok (.aload_n 0, 1) := by decide +kernel
theorem dX5_agree_61 : decode cX5_agree 61 = .ok (.getfield 23, 3) := by decide +kernel
theorem dX5_agree_64 : decode cX5_agree 64 = .ok (.iload 4, 2) := by decide +kernel
theorem dX5_agree_66 : decode cX5_agree 66 = .ok (.iaload, 1) := by decide +kernel
theorem dX5_agree_67 : decode cX5_agree 67 = .ok (.iload_n 2, 1) := by decide +kernel
theorem dX5_agree_68 : decode cX5_agree 68 = .ok (.if_icmp .ge 13, 3) := by decide +kernel
theorem dX5_agree_71 : decode cX5_agree 71 = .ok (.aload_n 0, 1) := by decide +kernel
theorem dX5_agree_72 : decode cX5_agree 72 = .ok (.getfield 23, 3) := by decide +kernel
theorem dX5_agree_75 : decode cX5_agree 75 = .ok (.iload 4, 2) := by decide +kernel
theorem dX5_agree_77 : decode cX5_agree 77 = .ok (.iaload, 1) := by decide +kernel
theorem dX5_agree_78 : decode cX5_agree 78 = .ok (.goto 4, 3) := by decide +kernel
theorem dX5_agree_81 : decode cX5_agree 81 = .ok (.iload_n 2, 1) := by decide +kernel
theorem dX5_agree_82 : decode cX5_agree 82 = .ok (.istore_n 2, 1) := by decide +kernel
theorem dX5_agree_83 : decode cX5_agree 83 = .ok (.aload_n 0, 1) := by decide +kernel
theorem dX5_agree_84 : decode cX5_agree 84 = .ok (.getfield 23, 3) := by decide +kernel
theorem dX5_agree_87 : decode cX5_agree 87 = .ok (.iload 4, 2) := by decide +kernel
theorem dX5_agree_89 : decode cX5_agree 89 = .ok (.iaload, 1) := by decide +kernel
theorem dX5_agree_90 : decode cX5_agree 90 = .ok (.iload_n 3, 1) := by decide +kernel
theorem dX5_agree_91 : decode cX5_agree 91 = .ok (.if_icmp .le 13, 3) := by decide +kernel
theorem dX5_agree_94 : decode cX5_agree 94 = .ok (.aload_n 0, 1) := by decide +kernel
theorem dX5_agree_95 : decode cX5_agree 95 = .ok (.getfield 23, 3) := by decide +kernel
theorem dX5_agree_98 : decode cX5_agree 98 = .ok (.iload 4, 2) := by decide +kernel
theorem dX5_agree_100 : decode cX5_agree 100 = .ok (.iaload, 1) := by decide +kernel
theorem dX5_agree_101 : decode cX5_agree 101 = .ok (.goto 4, 3) := by decide +kernel
theorem dX5_agree_104 : decode cX5_agree 104 = .ok (.iload_n 3, 1) := by decide +kernel
theorem dX5_agree_105 : decode cX5_agree 105 = .ok (.istore_n 3, 1) := by decide +kernel
theorem dX5_agree_106 : decode cX5_agree 106 = .ok (.iinc 4 1, 3) := by decide +kernel
theorem dX5_agree_109 : decode cX5_agree 109 = .ok (.goto (-58), 3) := by decide +kernel
theorem dX5_agree_112 : decode cX5_agree 112 = .ok (.iload_n 3, 1) := by decide +kernel
theorem dX5_agree_113 : decode cX5_agree 113 = .ok (.iload_n 2, 1) := by decide +kernel
theorem dX5_agree_114 : decode cX5_agree 114 = .ok (.isub, 1) := by decide +kernel
theorem dX5_agree_115 : decode cX5_agree 115 = .ok (.ireturn, 1) := by decide +kernel
set_option maxRecDepth 20000 in
theorem ggX5_setSum_X5_is : GoodIn wsX5_setSum wsX5_is := goodIn_r _ [8, 9, 10, 11, 7, 12, 18, 19, 20, 21, 22, 23, 24, 25, 26, 27, 28, 29, 30, 31, 32, 33, 34] (by decide +kernel) (by decide +kernel)
set_option maxRecDepth 20000 in
theorem gX5_setSum_X5_is : GoodIn wsX5_setSum (wsV RX5 76 RX5 yX5_is wsX5_is) := goodIn_app (goodIn_of _ (by decide +kernel)) ggX5_setSum_X5_is
set_option maxRecDepth 20000 in
theorem ggX5_setSum_X5_in : GoodIn wsX5_setSum wsX5_in := goodIn_r _ [12] (by decide +kernel) (by decide +kernel)
set_option maxRecDepth 20000 in
theorem gX5_setSum_X5_in : GoodIn wsX5_setSum (va_wsS RX5 64 yX5_in wsX5_in) := goodIn_app (goodIn_of _ (by decide +kernel)) ggX5_setSum_X5_in
set_option maxRecDepth 20000 in
theorem ggX5_setSum_X5_goes : GoodIn wsX5_setSum wsX5_goes := goodIn_r _ [16, 17, 18, 19, 20, 21, 22, 23, 24, 25, 26, 27, 28, 29, 30, 31, 32, 33, 34] (by decide +kernel) (by decide +kernel)
set_option maxRecDepth 20000 in
theorem gX5_setSum_X5_goes : GoodIn wsX5_setSum (wsV RX5 72 RX5 yX5_goes wsX5_goes) := goodIn_app (goodIn_of _ (by decide +kernel)) ggX5_setSum_X5_goes
theorem dX5_setSum_0 : decode cX5_setSum 0 = .ok (.aload_n 0, 1) := by decide +kernel
theorem dX5_setSum_1 : decode cX5_setSum 1 = .ok (.aload_n 0, 1) := by decide +kernel
theorem dX5_setSum_2 : decode cX5_setSum 2 = .ok (.iload_n 1, 1) := by decide +kernel
theorem dX5_setSum_3 : decode cX5_setSum 3 = .ok (.invokevirtual 76, 3) := by decide +kernel
theorem dX5_setSum_6 : decode cX5_setSum 6 = .ok (.iload_n 2, 1) := by decide +kernel
theorem dX5_setSum_7 : decode cX5_setSum 7 = .ok (.ldc 104, 2) := by decide +kernel
theorem dX5_setSum_9 : decode cX5_setSum 9 = .ok (.ldc 105, 2) := by decide +kernel
theorem dX5_setSum_11 : decode cX5_setSum 11 = .ok (.invokestatic 64, 3) := by decide +kernel
theorem dX5_setSum_14 : decode cX5_setSum 14 = .ok (.invokevirtual 72, 3) := by decide +kernel
theorem dX5_setSum_17 : decode cX5_setSum 17 = .ok (.ifCond .ne 5, 3) := by decide +kernel
theorem dX5_setSum_20 : decode cX5_setSum 20 = .ok (.iconst 0, 1) := by decide +kernel
theorem dX5_setSum_21 : decode cX5_setSum 21 = .ok (.ireturn, 1) := by decide +kernel
theorem dX5_setSum_22 : decode cX5_setSum 22 = .ok (.aload_n 0, 1) := by decide +kernel
theorem dX5_setSum_23 : decode cX5_setSum 23 = .ok (.getfield 26, 3) := by decide +kernel
theorem dX5_setSum_26 : decode cX5_setSum 26 = .ok (.iload_n 1, 1) := by decide +kernel
theorem dX5_setSum_27 : decode cX5_setSum 27 = .ok (.iaload, 1) := by decide +kernel
theorem dX5_setSum_28 : decode cX5_setSum 28 = .ok (.istore_n 3, 1) := by decide +kernel
theorem dX5_setSum_29 : decode cX5_setSum 29 = .ok (.aload_n 0, 1) := by decide +kernel
theorem dX5_setSum_30 : decode cX5_setSum 30 = .ok (.getfield 26, 3) := by decide +kernel
theorem dX5_setSum_33 : decode cX5_setSum 33 = .ok (.iload_n 1, 1) := by decide +kernel
theorem dX5_setSum_34 : decode cX5_setSum 34 = .ok (.iload_n 2, 1) := by decide +kernel
theorem dX5_setSum_35 : decode cX5_setSum 35 = .ok (.iastore, 1) := by decide +kernel
theorem dX5_setSum_36 : decode cX5_setSum 36 = .ok (.iload_n 3, 1) := by decide +kernel
theorem dX5_setSum_37 : decode cX5_setSum 37 = .ok (.ireturn, 1) := by decide +kernel
set_option maxRecDepth 20000 in
theorem ggX5_sum_X5_is : GoodIn wsX5_sum wsX5_is := goodIn_r _ [6, 7, 8, 9, 5, 10, 16, 17, 18, 19, 20, 21, 22, 23, 24, 25, 26, 27, 28, 29, 30, 31, 32] (by decide +kernel) (by decide +kernel)
set_option maxRecDepth 20000 in
theorem gX5_sum_X5_is : GoodIn wsX5_sum (wsV RX5 76 RX5 yX5_is wsX5_is) := goodIn_app (goodIn_of _ (by decide +kernel)) ggX5_sum_X5_is
set_option maxRecDepth 20000 in
theorem ggX5_sum_X5_goes : GoodIn wsX5_sum wsX5_goes := goodIn_r _ [14, 15, 16, 17, 18, 19, 20, 21, 22, 23, 24, 25, 26, 27, 28, 29, 30, 31, 32] (by decide +kernel) (by decide +kernel)
set_option maxRecDepth 20000 in
theorem gX5_sum_X5_goes : GoodIn wsX5_sum (wsV RX5 72 RX5 yX5_goes wsX5_goes) := goodIn_app (goodIn_of _ (by decide +kernel)) ggX5_sum_X5_goes
theorem dX5_sum_0 : decode cX5_sum 0 = .ok (.aload_n 0, 1) := by decide +kernel
theorem dX5_sum_1 : decode cX5_sum 1 = .ok (.aload_n 0, 1) := by decide +kernel
theorem dX5_sum_2 : decode cX5_sum 2 = .ok (.iload_n 1, 1) := by decide +kernel
theorem dX5_sum_3 : decode cX5_sum 3 = .ok (.invokevirtual 76, 3) := by decide +kernel
theorem dX5_sum_6 : decode cX5_sum 6 = .ok (.iconst 1, 1) := by decide +kernel
theorem dX5_sum_7 : decode cX5_sum 7 = .ok (.invokevirtual 72, 3) := by decide +kernel
theorem dX5_sum_10 : decode cX5_sum 10 = .ok (.ifCond .eq 12, 3) := by decide +kernel
theorem dX5_sum_13 : decode cX5_sum 13 = .ok (.aload_n 0, 1) := by decide +kernel
theorem dX5_sum_14 : decode cX5_sum 14 = .ok (.getfield 26, 3) := by decide +kernel
theorem dX5_sum_17 : decode cX5_sum 17 = .ok (.iload_n 1, 1) := by decide +kernel
theorem dX5_sum_18 : decode cX5_sum 18 = .ok (.iaload, 1) := by decide +kernel
theorem dX5_sum_19 : decode cX5_sum 19 = .ok (.goto 4, 3) := by decide +kernel
theorem dX5_sum_22 : decode cX5_sum 22 = .ok (.iconst 0, 1) := by decide +kernel
theorem dX5_sum_23 : decode cX5_sum 23 = .ok (.ireturn, 1) := by decide +kernel
set_option maxRecDepth 20000 in
theorem ggX5_weight_X5_is : GoodIn wsX5_weight wsX5_is := goodIn_r _ [6, 7, 8, 9, 5, 10, 16, 17, 18, 19, 20, 21, 22, 23, 24, 25, 26, 27, 28, 29, 30, 31, 32] (by decide +kernel) (by decide +kernel)
set_option maxRecDepth 20000 in
theorem gX5_weight_X5_is : GoodIn wsX5_weight (wsV RX5 76 RX5 yX5_is wsX5_is) := goodIn_app (goodIn_of _ (by decide +kernel)) ggX5_weight_X5_is
set_option maxRecDepth 20000 in
theorem ggX5_weight_X5_goes : GoodIn wsX5_weight wsX5_goes := goodIn_r _ [14, 15, 16, 17, 18, 19, 20, 21, 22, 23, 24, 25, 26, 27, 28, 29, 30, 31, 32] (by decide +kernel) (by decide +kernel)
set_option maxRecDepth 20000 in
theorem gX5_weight_X5_goes : GoodIn wsX5_weight (wsV RX5 72 RX5 yX5_goes wsX5_goes) := goodIn_app (goodIn_of _ (by decide +kernel)) ggX5_weight_X5_goes
theorem dX5_weight_0 : decode cX5_weight 0 = .ok (.aload_n 0, 1) := by decide +kernel
theorem dX5_weight_1 : decode cX5_weight 1 = .ok (.aload_n 0, 1) := by decide +kernel
theorem dX5_weight_2 : decode cX5_weight 2 = .ok (.iload_n 1, 1) := by decide +kernel
theorem dX5_weight_3 : decode cX5_weight 3 = .ok (.invokevirtual 76, 3) := by decide +kernel
theorem dX5_weight_6 : decode cX5_weight 6 = .ok (.iconst 1, 1) := by decide +kernel
theorem dX5_weight_7 : decode cX5_weight 7 = .ok (.invokevirtual 72, 3) := by decide +kernel
theorem dX5_weight_10 : decode cX5_weight 10 = .ok (.ifCond .eq 12, 3) := by decide +kernel
theorem dX5_weight_13 : decode cX5_weight 13 = .ok (.aload_n 0, 1) := by decide +kernel
theorem dX5_weight_14 : decode cX5_weight 14 = .ok (.getfield 29, 3) := by decide +kernel
theorem dX5_weight_17 : decode cX5_weight 17 = .ok (.iload_n 1, 1) := by decide +kernel
theorem dX5_weight_18 : decode cX5_weight 18 = .ok (.iaload, 1) := by decide +kernel
theorem dX5_weight_19 : decode cX5_weight 19 = .ok (.goto 4, 3) := by decide +kernel
theorem dX5_weight_22 : decode cX5_weight 22 = .ok (.iconst 0, 1) := by decide +kernel
theorem dX5_weight_23 : decode cX5_weight 23 = .ok (.ireturn, 1) := by decide +kernel
set_option maxRecDepth 20000 in
theorem ggX5_nextOf_X5_linked : GoodIn wsX5_nextOf wsX5_linked := goodIn_r _ [7, 8, 9, 10, 11, 12, 13, 6, 14, 15, 16, 17, 18, 19, 20, 21, 22, 23, 24, 25, 26, 27, 28, 29, 30, 31, 32, 33] (by decide +kernel) (by decide +kernel)
set_option maxRecDepth 20000 in
theorem gX5_nextOf_X5_linked : GoodIn wsX5_nextOf (wsV RX5 84 RX5 yX5_linked wsX5_linked) := goodIn_app (goodIn_of _ (by decide +kernel)) ggX5_nextOf_X5_linked
theorem dX5_nextOf_0 : decode cX5_nextOf 0 = .ok (.iconst 1, 1) := by decide +kernel
theorem dX5_nextOf_1 : decode cX5_nextOf 1 = .ok (.istore_n 2, 1) := by decide +kernel
theorem dX5_nextOf_2 : decode cX5_nextOf 2 = .ok (.iload_n 2, 1) := by decide +kernel
theorem dX5_nextOf_3 : decode cX5_nextOf 3 = .ok (.bipush 16, 2) := by decide +kernel
theorem dX5_nextOf_5 : decode cX5_nextOf 5 = .ok (.if_icmp .gt 37, 3) := by decide +kernel
theorem dX5_nextOf_8 : decode cX5_nextOf 8 = .ok (.aload_n 0, 1) := by decide +kernel
theorem dX5_nextOf_9 : decode cX5_nextOf 9 = .ok (.getfield 32, 3) := by decide +kernel
theorem dX5_nextOf_12 : decode cX5_nextOf 12 = .ok (.iload_n 1, 1) := by decide +kernel
theorem dX5_nextOf_13 : decode cX5_nextOf 13 = .ok (.iaload, 1) := by decide +kernel
theorem dX5_nextOf_14 : decode cX5_nextOf 14 = .ok (.iload_n 2, 1) := by decide +kernel
theorem dX5_nextOf_15 : decode cX5_nextOf 15 = .ok (.iadd, 1) := by decide +kernel
theorem dX5_nextOf_16 : decode cX5_nextOf 16 = .ok (.istore_n 3, 1) := by decide +kernel
theorem dX5_nextOf_17 : decode cX5_nextOf 17 = .ok (.iload_n 3, 1) := by decide +kernel
theorem dX5_nextOf_18 : decode cX5_nextOf 18 = .ok (.aload_n 0, 1) := by decide +kernel
theorem dX5_nextOf_19 : decode cX5_nextOf 19 = .ok (.getfield 61, 3) := by decide +kernel
theorem dX5_nextOf_22 : decode cX5_nextOf 22 = .ok (.if_icmp .ge 14, 3) := by decide +kernel
theorem dX5_nextOf_25 : decode cX5_nextOf 25 = .ok (.aload_n 0, 1) := by decide +kernel
theorem dX5_nextOf_26 : decode cX5_nextOf 26 = .ok (.iload_n 1, 1) := by decide +kernel
theorem dX5_nextOf_27 : decode cX5_nextOf 27 = .ok (.iload_n 3, 1) := by decide +kernel
theorem dX5_nextOf_28 : decode cX5_nextOf 28 = .ok (.invokevirtual 84, 3) := by decide +kernel
theorem dX5_nextOf_31 : decode cX5_nextOf 31 = .ok (.ifCond .eq 5, 3) := by decide +kernel
theorem dX5_nextOf_34 : decode cX5_nextOf 34 = .ok (.iload_n 3, 1) := by decide +kernel
theorem dX5_nextOf_35 : decode cX5_nextOf 35 = .ok (.ireturn, 1) := by decide +kernel
theorem dX5_nextOf_36 : decode cX5_nextOf 36 = .ok (.iinc 2 1, 3) := by decide +kernel
theorem dX5_nextOf_39 : decode cX5_nextOf 39 = .ok (.goto (-37), 3) := by decide +kernel
theorem dX5_nextOf_42 : decode cX5_nextOf 42 = .ok (.iconst 0, 1) := by decide +kernel
theorem dX5_nextOf_43 : decode cX5_nextOf 43 = .ok (.istore_n 2, 1) := by decide +kernel
theorem dX5_nextOf_44 : decode cX5_nextOf 44 = .ok (.iload_n 2, 1) := by decide +kernel
theorem dX5_nextOf_45 : decode cX5_nextOf 45 = .ok (.aload_n 0, 1) := by decide +kernel
theorem dX5_nextOf_46 : decode cX5_nextOf 46 = .ok (.getfield 61, 3) := by decide +kernel
theorem dX5_nextOf_49 : decode cX5_nextOf 49 = .ok (.if_icmp .ge 20, 3) := by decide +kernel
theorem dX5_nextOf_52 : decode cX5_nextOf 52 = .ok (.aload_n 0, 1) := by decide +kernel
theorem dX5_nextOf_53 : decode cX5_nextOf 53 = .ok (.iload_n 1, 1) := by decide +kernel
theorem dX5_nextOf_54 : decode cX5_nextOf 54 = .ok (.iload_n 2, 1) := by decide +kernel
theorem dX5_nextOf_55 : decode cX5_nextOf 55 = .ok (.invokevirtual 84, 3) := by decide +kernel
theorem dX5_nextOf_58 : decode cX5_nextOf 58 = .ok (.ifCond .eq 5, 3) := by decide +kernel
theorem dX5_nextOf_61 : decode cX5_nextOf 61 = .ok (.iload_n 2, 1) := by decide +kernel
theorem dX5_nextOf_62 : decode cX5_nextOf 62 = .ok (.ireturn, 1) := by decide +kernel
theorem dX5_nextOf_63 : decode cX5_nextOf 63 = .ok (.iinc 2 1, 3) := by decide +kernel
theorem dX5_nextOf_66 : decode cX5_nextOf 66 = .ok (.goto (-22), 3) := by decide +kernel
theorem dX5_nextOf_69 : decode cX5_nextOf 69 = .ok (.iconst (-1), 1) := by decide +kernel
theorem dX5_nextOf_70 : decode cX5_nextOf 70 = .ok (.ireturn, 1) := by decide +kernel
set_option maxRecDepth 20000 in
theorem ggX5_spreads_X5_nextOf : GoodIn wsX5_spreads wsX5_nextOf := goodIn_r _ [11, 6, 1, 12, 13, 14, 10, 15, 16, 17, 18, 19, 20, 21, 22, 23, 24, 25, 26, 27, 28, 29, 30, 31, 32, 33, 34, 35, 36, 37, 38, 39, 40, 41] (by decide +kernel) (by decide +kernel)
set_option maxRecDepth 20000 in
theorem gX5_spreads_X5_nextOf : GoodIn wsX5_spreads (wsV RX5 109 RX5 yX5_nextOf wsX5_nextOf) := goodIn_app (goodIn_of _ (by decide +kernel)) ggX5_spreads_X5_nextOf
theorem dX5_spreads_0 : decode cX5_spreads 0 = .ok (.iconst 0, 1) := by decide +kernel
theorem dX5_spreads_1 : decode cX5_spreads 1 = .ok (.istore_n 1, 1) := by decide +kernel
theorem dX5_spreads_2 : decode cX5_spreads 2 = .ok (.iconst 0, 1) := by decide +kernel
theorem dX5_spreads_3 : decode cX5_spreads 3 = .ok (.istore_n 2, 1) := by decide +kernel
theorem dX5_spreads_4 : decode cX5_spreads 4 = .ok (.iload_n 2, 1) := by decide +kernel
theorem dX5_spreads_5 : decode cX5_spreads 5 = .ok (.aload_n 0, 1) := by decide +kernel
theorem dX5_spreads_6 : decode cX5_spreads 6 = .ok (.getfield 61, 3) := by decide +kernel
theorem dX5_spreads_9 : decode cX5_spreads 9 = .ok (.if_icmp .ge 23, 3) := by decide +kernel
theorem dX5_spreads_12 : decode cX5_spreads 12 = .ok (.aload_n 0, 1) := by decide +kernel
theorem dX5_spreads_13 : decode cX5_spreads 13 = .ok (.getfield 45, 3) := by decide +kernel
theorem dX5_spreads_16 : decode cX5_spreads 16 = .ok (.iload_n 2, 1) := by decide +kernel
theorem dX5_spreads_17 : decode cX5_spreads 17 = .ok (.iconst 0, 1) := by decide +kernel
theorem dX5_spreads_18 : decode cX5_spreads 18 = .ok (.iastore, 1) := by decide +kernel
theorem dX5_spreads_19 : decode cX5_spreads 19 = .ok (.aload_n 0, 1) := by decide +kernel
theorem dX5_spreads_20 : decode cX5_spreads 20 = .ok (.getfield 48, 3) := by decide +kernel
theorem dX5_spreads_23 : decode cX5_spreads 23 = .ok (.iload_n 2, 1) := by decide +kernel
theorem dX5_spreads_24 : decode cX5_spreads 24 = .ok (.iconst 0, 1) := by decide +kernel
theorem dX5_spreads_25 : decode cX5_spreads 25 = .ok (.iastore, 1) := by decide +kernel
theorem dX5_spreads_26 : decode cX5_spreads 26 = .ok (.iinc 2 1, 3) := by decide +kernel
theorem dX5_spreads_29 : decode cX5_spreads 29 = .ok (.goto (-25), 3) := by decide +kernel
theorem dX5_spreads_32 : decode cX5_spreads 32 = .ok (.iconst 0, 1) := by decide +kernel
theorem dX5_spreads_33 : decode cX5_spreads 33 = .ok (.istore_n 2, 1) := by decide +kernel
theorem dX5_spreads_34 : decode cX5_spreads 34 = .ok (.iload_n 2, 1) := by decide +kernel
theorem dX5_spreads_35 : decode cX5_spreads 35 = .ok (.aload_n 0, 1) := by decide +kernel
theorem dX5_spreads_36 : decode cX5_spreads 36 = .ok (.getfield 61, 3) := by decide +kernel
theorem dX5_spreads_39 : decode cX5_spreads 39 = .ok (.if_icmp .ge 97, 3) := by decide +kernel
theorem dX5_spreads_42 : decode cX5_spreads 42 = .ok (.aload_n 0, 1) := by decide +kernel
theorem dX5_spreads_43 : decode cX5_spreads 43 = .ok (.iload_n 2, 1) := by decide +kernel
theorem dX5_spreads_44 : decode cX5_spreads 44 = .ok (.invokevirtual 109, 3) := by decide +kernel
theorem dX5_spreads_47 : decode cX5_spreads 47 = .ok (.istore_n 3, 1) := by decide +kernel
theorem dX5_spreads_48 : decode cX5_spreads 48 = .ok (.iload_n 3, 1) := by decide +kernel
theorem dX5_spreads_49 : decode cX5_spreads 49 = .ok (.ifCond .lt 81, 3) := by decide +kernel
theorem dX5_spreads_52 : decode cX5_spreads 52 = .ok (.aload_n 0, 1) := by decide +kernel
theorem dX5_spreads_53 : decode cX5_spreads 53 = .ok (.getfield 45, 3) := by decide +kernel
theorem dX5_spreads_56 : decode cX5_spreads 56 = .ok (.iload_n 2, 1) := by decide +kernel
theorem dX5_spreads_57 : decode cX5_spreads 57 = .ok (.dup2, 1) := by decide +kernel
theorem dX5_spreads_58 : decode cX5_spreads 58 = .ok (.iaload, 1) := by decide +kernel
theorem dX5_spreads_59 : decode cX5_spreads 59 = .ok (.aload_n 0, 1) := by decide +kernel
theorem dX5_spreads_60 : decode cX5_spreads 60 = .ok (.getfield 26, 3) := by decide +kernel
theorem dX5_spreads_63 : decode cX5_spreads 63 = .ok (.iload_n 2, 1) := by decide +kernel
theorem dX5_spreads_64 : decode cX5_spreads 64 = .ok (.iaload, 1) := by decide +kernel
theorem dX5_spreads_65 : decode cX5_spreads 65 = .ok (.iconst 2, 1) := by decide +kernel
theorem dX5_spreads_66 : decode cX5_spreads 66 = .ok (.idiv, 1) := by decide +kernel
theorem dX5_spreads_67 : decode cX5_spreads 67 = .ok (.isub, 1) := by decide +kernel
theorem dX5_spreads_68 : decode cX5_spreads 68 = .ok (.iastore, 1) := by decide +kernel
theorem dX5_spreads_69 : decode cX5_spreads 69 = .ok (.aload_n 0, 1) := by decide +kernel
theorem dX5_spreads_70 : decode cX5_spreads 70 = .ok (.getfield 45, 3) := by decide +kernel
theorem dX5_spreads_73 : decode cX5_spreads 73 = .ok (.iload_n 3, 1) := by decide +kernel
theorem dX5_spreads_74 : decode cX5_spreads 74 = .ok (.dup2, 1) := by decide +kernel
theorem dX5_spreads_75 : decode cX5_spreads 75 = .ok (.iaload, 1) := by decide +kernel
theorem dX5_spreads_76 : decode cX5_spreads 76 = .ok (.aload_n 0, 1) := by decide +kernel
theorem dX5_spreads_77 : decode cX5_spreads 77 = .ok (.getfield 26, 3) := by decide +kernel
theorem dX5_spreads_80 : decode cX5_spreads 80 = .ok (.iload_n 2, 1) := by decide +kernel
theorem dX5_spreads_81 : decode cX5_spreads 81 = .ok (.iaload, 1) := by decide +kernel
theorem dX5_spreads_82 : decode cX5_spreads 82 = .ok (.iconst 2, 1) := by decide +kernel
theorem dX5_spreads_83 : decode cX5_spreads 83 = .ok (.idiv, 1) := by decide +kernel
theorem dX5_spreads_84 : decode cX5_spreads 84 = .ok (.iadd, 1) := by decide +kernel
theorem dX5_spreads_85 : decode cX5_spreads 85 = .ok (.iastore, 1) := by decide +kernel
theorem dX5_spreads_86 : decode cX5_spreads 86 = .ok (.aload_n 0, 1) := by decide +kernel
theorem dX5_spreads_87 : decode cX5_spreads 87 = .ok (.getfield 48, 3) := by decide +kernel
theorem dX5_spreads_90 : decode cX5_spreads 90 = .ok (.iload_n 2, 1) := by decide +kernel
theorem dX5_spreads_91 : decode cX5_spreads 91 = .ok (.dup2, 1) := by decide +kernel
theorem dX5_spreads_92 : decode cX5_spreads 92 = .ok (.iaload, 1) := by decide +kernel
theorem dX5_spreads_93 : decode cX5_spreads 93 = .ok (.aload_n 0, 1) := by decide +kernel
theorem dX5_spreads_94 : decode cX5_spreads 94 = .ok (.getfield 29, 3) := by decide +kernel
theorem dX5_spreads_97 : decode cX5_spreads 97 = .ok (.iload_n 2, 1) := by decide +kernel
theorem dX5_spreads_98 : decode cX5_spreads 98 = .ok (.iaload, 1) := by decide +kernel
theorem dX5_spreads_99 : decode cX5_spreads 99 = .ok (.iconst 2, 1) := by decide +kernel
theorem dX5_spreads_100 : decode cX5_spreads 100 = .ok (.idiv, 1) := by decide +kernel
theorem dX5_spreads_101 : decode cX5_spreads 101 = .ok (.isub, 1) := by decide +kernel
theorem dX5_spreads_102 : decode cX5_spreads 102 = .ok (.iastore, 1) := by decide +kernel
theorem dX5_spreads_103 : decode cX5_spreads 103 = .ok (.aload_n 0, 1) := by decide +kernel
theorem dX5_spreads_104 : decode cX5_spreads 104 = .ok (.getfield 48, 3) := by decide +kernel
theorem dX5_spreads_107 : decode cX5_spreads 107 = .ok (.iload_n 3, 1) := by decide +kernel
theorem dX5_spreads_108 : decode cX5_spreads 108 = .ok (.dup2, 1) := by decide +kernel
theorem dX5_spreads_109 : decode cX5_spreads 109 = .ok (.iaload, 1) := by decide +kernel
theorem dX5_spreads_110 : decode cX5_spreads 110 = .ok (.aload_n 0, 1) := by decide +kernel
theorem dX5_spreads_111 : decode cX5_spreads 111 = .ok (.getfield 29, 3) := by decide +kernel
theorem dX5_spreads_114 : decode cX5_spreads 114 = .ok (.iload_n 2, 1) := by decide +kernel
theorem dX5_spreads_115 : decode cX5_spreads 115 = .ok (.iaload, 1) := by decide +kernel
theorem dX5_spreads_116 : decode cX5_spreads 116 = .ok (.iconst 2, 1) := by decide +kernel
theorem dX5_spreads_117 : decode cX5_spreads 117 = .ok (.idiv, 1) := by decide +kernel
theorem dX5_spreads_118 : decode cX5_spreads 118 = .ok (.iadd, 1) := by decide +kernel
theorem dX5_spreads_119 : decode cX5_spreads 119 = .ok (.iastore, 1) := by decide +kernel
theorem dX5_spreads_120 : decode cX5_spreads 120 = .ok (.aload_n 0, 1) := by decide +kernel
theorem dX5_spreads_121 : decode cX5_spreads 121 = .ok (.getfield 32, 3) := by decide +kernel
theorem dX5_spreads_124 : decode cX5_spreads 124 = .ok (.iload_n 2, 1) := by decide +kernel
theorem dX5_spreads_125 : decode cX5_spreads 125 = .ok (.iload_n 3, 1) := by decide +kernel
theorem dX5_spreads_126 : decode cX5_spreads 126 = .ok (.iastore, 1) := by decide +kernel
theorem dX5_spreads_127 : decode cX5_spreads 127 = .ok (.iinc 1 1, 3) := by decide +kernel
theorem dX5_spreads_130 : decode cX5_spreads 130 = .ok (.iinc 2 1, 3) := by decide +kernel
theorem dX5_spreads_133 : decode cX5_spreads 133 = .ok (.goto (-99), 3) := by decide +kernel
theorem dX5_spreads_136 : decode cX5_spreads 136 = .ok (.iconst 0, 1) := by decide +kernel
theorem dX5_spreads_137 : decode cX5_spreads 137 = .ok (.istore_n 2, 1) := by decide +kernel
theorem dX5_spreads_138 : decode cX5_spreads 138 = .ok (.iload_n 2, 1) := by decide +kernel
theorem dX5_spreads_139 : decode cX5_spreads 139 = .ok (.aload_n 0, 1) := by decide +kernel
theorem dX5_spreads_140 : decode cX5_spreads 140 = .ok (.getfield 61, 3) := by decide +kernel
theorem dX5_spreads_143 : decode cX5_spreads 143 = .ok (.if_icmp .ge 39, 3) := by decide +kernel
theorem dX5_spreads_146 : decode cX5_spreads 146 = .ok (.aload_n 0, 1) := by decide +kernel
theorem dX5_spreads_147 : decode cX5_spreads 147 = .ok (.getfield 26, 3) := by decide +kernel
theorem dX5_spreads_150 : decode cX5_spreads 150 = .ok (.iload_n 2, 1) := by decide +kernel
theorem dX5_spreads_151 : decode cX5_spreads 151 = .ok (.dup2, 1) := by decide +kernel
theorem dX5_spreads_152 : decode cX5_spreads 152 = .ok (.iaload, 1) := by decide +kernel
theorem dX5_spreads_153 : decode cX5_spreads 153 = .ok (.aload_n 0, 1) := by decide +kernel
theorem dX5_spreads_154 : decode cX5_spreads 154 = .ok (.getfield 45, 3) := by decide +kernel
theorem dX5_spreads_157 : decode cX5_spreads 157 = .ok (.iload_n 2, 1) := by decide +kernel
theorem dX5_spreads_158 : decode cX5_spreads 158 = .ok (.iaload, 1) := by decide +kernel
theorem dX5_spreads_159 : decode cX5_spreads 159 = .ok (.iadd, 1) := by decide +kernel
theorem dX5_spreads_160 : decode cX5_spreads 160 = .ok (.iastore, 1) := by decide +kernel
theorem dX5_spreads_161 : decode cX5_spreads 161 = .ok (.aload_n 0, 1) := by decide +kernel
theorem dX5_spreads_162 : decode cX5_spreads 162 = .ok (.getfield 29, 3) := by decide +kernel
theorem dX5_spreads_165 : decode cX5_spreads 165 = .ok (.iload_n 2, 1) := by decide +kernel
theorem dX5_spreads_166 : decode cX5_spreads 166 = .ok (.dup2, 1) := by decide +kernel
theorem dX5_spreads_167 : decode cX5_spreads 167 = .ok (.iaload, 1) := by decide +kernel
theorem dX5_spreads_168 : decode cX5_spreads 168 = .ok (.aload_n 0, 1) := by decide +kernel
theorem dX5_spreads_169 : decode cX5_spreads 169 = .ok (.getfield 48, 3) := by decide +kernel
theorem dX5_spreads_172 : decode cX5_spreads 172 = .ok (.iload_n 2, 1) := by decide +kernel
theorem dX5_spreads_173 : decode cX5_spreads 173 = .ok (.iaload, 1) := by decide +kernel
theorem dX5_spreads_174 : decode cX5_spreads 174 = .ok (.iadd, 1) := by decide +kernel
theorem dX5_spreads_175 : decode cX5_spreads 175 = .ok (.iastore, 1) := by decide +kernel
theorem dX5_spreads_176 : decode cX5_spreads 176 = .ok (.iinc 2 1, 3) := by decide +kernel
theorem dX5_spreads_179 : decode cX5_spreads 179 = .ok (.goto (-41), 3) := by decide +kernel
theorem dX5_spreads_182 : decode cX5_spreads 182 = .ok (.iload_n 1, 1) := by decide +kernel
theorem dX5_spreads_183 : decode cX5_spreads 183 = .ok (.ireturn, 1) := by decide +kernel
set_option maxRecDepth 20000 in
theorem ggX5_spread_X5_in : GoodIn wsX5_spread wsX5_in := goodIn_r _ [4] (by decide +kernel) (by decide +kernel)
set_option maxRecDepth 20000 in
theorem gX5_spread_X5_in : GoodIn wsX5_spread (va_wsS RX5 64 yX5_in wsX5_in) := goodIn_app (goodIn_of _ (by decide +kernel)) ggX5_spread_X5_in
set_option maxRecDepth 20000 in
theorem ggX5_spread_X5_goes : GoodIn wsX5_spread wsX5_goes := goodIn_r _ [8, 9, 37, 38, 39, 40, 41, 42, 43, 44, 45, 46, 47, 48, 49, 50, 51, 52, 53] (by decide +kernel) (by decide +kernel)
set_option maxRecDepth 20000 in
theorem gX5_spread_X5_goes : GoodIn wsX5_spread (wsV RX5 72 RX5 yX5_goes wsX5_goes) := goodIn_app (goodIn_of _ (by decide +kernel)) ggX5_spread_X5_goes
set_option maxRecDepth 20000 in
theorem ggX5_spread_X5_spreads : GoodIn wsX5_spread wsX5_spreads := goodIn_r _ [13, 14, 15, 16, 17, 18, 19, 20, 21, 22, 3, 23, 24, 25, 26, 27, 28, 29, 30, 31, 32, 33, 34, 35, 36, 37, 38, 39, 40, 41, 42, 43, 44, 45, 46, 47, 48, 49, 50, 51, 52, 53] (by decide +kernel) (by decide +kernel)
set_option maxRecDepth 20000 in
theorem gX5_spread_X5_spreads : GoodIn wsX5_spread (wsV RX5 112 RX5 yX5_spreads wsX5_spreads) := goodIn_app (goodIn_of _ (by decide +kernel)) ggX5_spread_X5_spreads
theorem dX5_spread_0 : decode cX5_spread 0 = .ok (.iconst 0, 1) := by decide +kernel
theorem dX5_spread_1 : decode cX5_spread 1 = .ok (.istore_n 2, 1) := by decide +kernel
theorem dX5_spread_2 : decode cX5_spread 2 = .ok (.aload_n 0, 1) := by decide +kernel
theorem dX5_spread_3 : decode cX5_spread 3 = .ok (.iload_n 1, 1) := by decide +kernel
theorem dX5_spread_4 : decode cX5_spread 4 = .ok (.iconst 1, 1) := by decide +kernel
theorem dX5_spread_5 : decode cX5_spread 5 = .ok (.bipush 50, 2) := by decide +kernel
theorem dX5_spread_7 : decode cX5_spread 7 = .ok (.invokestatic 64, 3) := by decide +kernel
theorem dX5_spread_10 : decode cX5_spread 10 = .ok (.iconst 1, 1) := by decide +kernel
theorem dX5_spread_11 : decode cX5_spread 11 = .ok (.invokevirtual 72, 3) := by decide +kernel
theorem dX5_spread_14 : decode cX5_spread 14 = .ok (.istore_n 3, 1) := by decide +kernel
theorem dX5_spread_15 : decode cX5_spread 15 = .ok (.iconst 0, 1) := by decide +kernel
theorem dX5_spread_16 : decode cX5_spread 16 = .ok (.istore 4, 2) := by decide +kernel
theorem dX5_spread_18 : decode cX5_spread 18 = .ok (.iload 4, 2) := by decide +kernel
theorem dX5_spread_20 : decode cX5_spread 20 = .ok (.iload_n 1, 1) := by decide +kernel
theorem dX5_spread_21 : decode cX5_spread 21 = .ok (.if_icmp .ge 20, 3) := by decide +kernel
theorem dX5_spread_24 : decode cX5_spread 24 = .ok (.iload_n 3, 1) := by decide +kernel
theorem dX5_spread_25 : decode cX5_spread 25 = .ok (.ifCond .eq 16, 3) := by decide +kernel
theorem dX5_spread_28 : decode cX5_spread 28 = .ok (.iload_n 2, 1) := by decide +kernel
theorem dX5_spread_29 : decode cX5_spread 29 = .ok (.aload_n 0, 1) := by decide +kernel
theorem dX5_spread_30 : decode cX5_spread 30 = .ok (.invokevirtual 112, 3) := by decide +kernel
theorem dX5_spread_33 : decode cX5_spread 33 = .ok (.iadd, 1) := by decide +kernel
theorem dX5_spread_34 : decode cX5_spread 34 = .ok (.istore_n 2, 1) := by decide +kernel
theorem dX5_spread_35 : decode cX5_spread 35 = .ok (.iinc 4 1, 3) := by decide +kernel
theorem dX5_spread_38 : decode cX5_spread 38 = .ok (.goto (-20), 3) := by decide +kernel
theorem dX5_spread_41 : decode cX5_spread 41 = .ok (.iload_n 2, 1) := by decide +kernel
theorem dX5_spread_42 : decode cX5_spread 42 = .ok (.ireturn, 1) := by decide +kernel
set_option maxRecDepth 20000 in
theorem ggX5_want_X5_in : GoodIn wsX5_want wsX5_in := goodIn_r _ [6] (by decide +kernel) (by decide +kernel)
set_option maxRecDepth 20000 in
theorem gX5_want_X5_in : GoodIn wsX5_want (va_wsS RX5 64 yX5_in wsX5_in) := goodIn_app (goodIn_of _ (by decide +kernel)) ggX5_want_X5_in
set_option maxRecDepth 20000 in
theorem ggX5_want_X5_is : GoodIn wsX5_want wsX5_is := goodIn_r _ [10, 11, 3, 4, 5, 6, 17, 18, 19, 20, 21, 22, 23, 24, 25, 26, 27, 28, 29, 30, 31, 32, 33] (by decide +kernel) (by decide +kernel)
set_option maxRecDepth 20000 in
theorem gX5_want_X5_is : GoodIn wsX5_want (wsV RX5 76 RX5 yX5_is wsX5_is) := goodIn_app (goodIn_of _ (by decide +kernel)) ggX5_want_X5_is
set_option maxRecDepth 20000 in
theorem ggX5_want_X5_goes : GoodIn wsX5_want wsX5_goes := goodIn_r _ [15, 16, 17, 18, 19, 20, 21, 22, 23, 24, 25, 26, 27, 28, 29, 30, 31, 32, 33] (by decide +kernel) (by decide +kernel)
set_option maxRecDepth 20000 in
theorem gX5_want_X5_goes : GoodIn wsX5_want (wsV RX5 72 RX5 yX5_goes wsX5_goes) := goodIn_app (goodIn_of _ (by decide +kernel)) ggX5_want_X5_goes
theorem dX5_want_0 : decode cX5_want 0 = .ok (.iload_n 1, 1) := by decide +kernel
theorem dX5_want_1 : decode cX5_want 1 = .ok (.iload_n 2, 1) := by decide +kernel
theorem dX5_want_2 : decode cX5_want 2 = .ok (.if_icmp .eq 22, 3) := by decide +kernel
theorem dX5_want_5 : decode cX5_want 5 = .ok (.iload_n 3, 1) := by decide +kernel
theorem dX5_want_6 : decode cX5_want 6 = .ok (.iconst (-1), 1) := by decide +kernel
theorem dX5_want_7 : decode cX5_want 7 = .ok (.if_icmp .eq 13, 3) := by decide +kernel
theorem dX5_want_10 : decode cX5_want 10 = .ok (.iload_n 3, 1) := by decide +kernel
theorem dX5_want_11 : decode cX5_want 11 = .ok (.iconst 1, 1) := by decide +kernel
theorem dX5_want_12 : decode cX5_want 12 = .ok (.ldc 115, 2) := by decide +kernel
theorem dX5_want_14 : decode cX5_want 14 = .ok (.invokestatic 64, 3) := by decide +kernel
theorem dX5_want_17 : decode cX5_want 17 = .ok (.ifCond .eq 7, 3) := by decide +kernel
theorem dX5_want_20 : decode cX5_want 20 = .ok (.iconst 1, 1) := by decide +kernel
theorem dX5_want_21 : decode cX5_want 21 = .ok (.goto 4, 3) := by decide +kernel
theorem dX5_want_24 : decode cX5_want 24 = .ok (.iconst 0, 1) := by decide +kernel
theorem dX5_want_25 : decode cX5_want 25 = .ok (.istore 4, 2) := by decide +kernel
theorem dX5_want_27 : decode cX5_want 27 = .ok (.aload_n 0, 1) := by decide +kernel
theorem dX5_want_28 : decode cX5_want 28 = .ok (.aload_n 0, 1) := by decide +kernel
theorem dX5_want_29 : decode cX5_want 29 = .ok (.iload_n 1, 1) := by decide +kernel
theorem dX5_want_30 : decode cX5_want 30 = .ok (.invokevirtual 76, 3) := by decide +kernel
theorem dX5_want_33 : decode cX5_want 33 = .ok (.ifCond .eq 15, 3) := by decide +kernel
theorem dX5_want_36 : decode cX5_want 36 = .ok (.aload_n 0, 1) := by decide +kernel
theorem dX5_want_37 : decode cX5_want 37 = .ok (.iload_n 2, 1) := by decide +kernel
theorem dX5_want_38 : decode cX5_want 38 = .ok (.invokevirtual 76, 3) := by decide +kernel
theorem dX5_want_41 : decode cX5_want 41 = .ok (.ifCond .eq 7, 3) := by decide +kernel
theorem dX5_want_44 : decode cX5_want 44 = .ok (.iconst 1, 1) := by decide +kernel
theorem dX5_want_45 : decode cX5_want 45 = .ok (.goto 4, 3) := by decide +kernel
theorem dX5_want_48 : decode cX5_want 48 = .ok (.iconst 0, 1) := by decide +kernel
theorem dX5_want_49 : decode cX5_want 49 = .ok (.iload 4, 2) := by decide +kernel
theorem dX5_want_51 : decode cX5_want 51 = .ok (.invokevirtual 72, 3) := by decide +kernel
theorem dX5_want_54 : decode cX5_want 54 = .ok (.ifCond .ne 5, 3) := by decide +kernel
theorem dX5_want_57 : decode cX5_want 57 = .ok (.iconst 0, 1) := by decide +kernel
theorem dX5_want_58 : decode cX5_want 58 = .ok (.ireturn, 1) := by decide +kernel
theorem dX5_want_59 : decode cX5_want 59 = .ok (.aload_n 0, 1) := by decide +kernel
theorem dX5_want_60 : decode cX5_want 60 = .ok (.getfield 38, 3) := by decide +kernel
theorem dX5_want_63 : decode cX5_want 63 = .ok (.bipush 8, 2) := by decide +kernel
theorem dX5_want_65 : decode cX5_want 65 = .ok (.iload_n 1, 1) := by decide +kernel
theorem dX5_want_66 : decode cX5_want 66 = .ok (.imul, 1) := by decide +kernel
theorem dX5_want_67 : decode cX5_want 67 = .ok (.iload_n 2, 1) := by decide +kernel
theorem dX5_want_68 : decode cX5_want 68 = .ok (.iadd, 1) := by decide +kernel
theorem dX5_want_69 : decode cX5_want 69 = .ok (.iaload, 1) := by decide +kernel
theorem dX5_want_70 : decode cX5_want 70 = .ok (.istore 5, 2) := by decide +kernel
theorem dX5_want_72 : decode cX5_want 72 = .ok (.aload_n 0, 1) := by decide +kernel
theorem dX5_want_73 : decode cX5_want 73 = .ok (.getfield 38, 3) := by decide +kernel
theorem dX5_want_76 : decode cX5_want 76 = .ok (.bipush 8, 2) := by decide +kernel
theorem dX5_want_78 : decode cX5_want 78 = .ok (.iload_n 1, 1) := by decide +kernel
theorem dX5_want_79 : decode cX5_want 79 = .ok (.imul, 1) := by decide +kernel
theorem dX5_want_80 : decode cX5_want 80 = .ok (.iload_n 2, 1) := by decide +kernel
theorem dX5_want_81 : decode cX5_want 81 = .ok (.iadd, 1) := by decide +kernel
theorem dX5_want_82 : decode cX5_want 82 = .ok (.iload_n 3, 1) := by decide +kernel
theorem dX5_want_83 : decode cX5_want 83 = .ok (.iastore, 1) := by decide +kernel
theorem dX5_want_84 : decode cX5_want 84 = .ok (.aload_n 0, 1) := by decide +kernel
theorem dX5_want_85 : decode cX5_want 85 = .ok (.getfield 38, 3) := by decide +kernel
theorem dX5_want_88 : decode cX5_want 88 = .ok (.bipush 8, 2) := by decide +kernel
theorem dX5_want_90 : decode cX5_want 90 = .ok (.iload_n 2, 1) := by decide +kernel
theorem dX5_want_91 : decode cX5_want 91 = .ok (.imul, 1) := by decide +kernel
theorem dX5_want_92 : decode cX5_want 92 = .ok (.iload_n 1, 1) := by decide +kernel
theorem dX5_want_93 : decode cX5_want 93 = .ok (.iadd, 1) := by decide +kernel
theorem dX5_want_94 : decode cX5_want 94 = .ok (.iload_n 3, 1) := by decide +kernel
theorem dX5_want_95 : decode cX5_want 95 = .ok (.iastore, 1) := by decide +kernel
theorem dX5_want_96 : decode cX5_want 96 = .ok (.iload 5, 2) := by decide +kernel
theorem dX5_want_98 : decode cX5_want 98 = .ok (.ireturn, 1) := by decide +kernel
set_option maxRecDepth 20000 in
theorem ggX5_above_X5_linked : GoodIn wsX5_above wsX5_linked := goodIn_r _ [6, 7, 8, 9, 10, 11, 12, 5, 13, 14, 15, 16, 17, 18, 19, 20, 21, 22, 23, 24, 25, 26, 27, 28, 29, 30, 31, 32] (by decide +kernel) (by decide +kernel)
set_option maxRecDepth 20000 in
theorem gX5_above_X5_linked : GoodIn wsX5_above (wsV RX5 84 RX5 yX5_linked wsX5_linked) := goodIn_app (goodIn_of _ (by decide +kernel)) ggX5_above_X5_linked
set_option maxRecDepth 20000 in
theorem ggX5_above_X5_square : GoodIn wsX5_above wsX5_square := goodIn_r _ [13, 14, 15, 16, 17, 18, 19, 20, 21, 22, 23, 24, 25, 26, 27, 28, 29, 30, 31, 32] (by decide +kernel) (by decide +kernel)
set_option maxRecDepth 20000 in
theorem gX5_above_X5_square : GoodIn wsX5_above (wsV RX5 80 RX5 yX5_square wsX5_square) := goodIn_app (goodIn_of _ (by decide +kernel)) ggX5_above_X5_square
theorem dX5_above_0 : decode cX5_above 0 = .ok (.aload_n 0, 1) := by decide +kernel
theorem dX5_above_1 : decode cX5_above 1 = .ok (.getfield 38, 3) := by decide +kernel
theorem dX5_above_4 : decode cX5_above 4 = .ok (.bipush 8, 2) := by decide +kernel
theorem dX5_above_6 : decode cX5_above 6 = .ok (.iload_n 1, 1) := by decide +kernel
theorem dX5_above_7 : decode cX5_above 7 = .ok (.imul, 1) := by decide +kernel
theorem dX5_above_8 : decode cX5_above 8 = .ok (.iload_n 2, 1) := by decide +kernel
theorem dX5_above_9 : decode cX5_above 9 = .ok (.iadd, 1) := by decide +kernel
theorem dX5_above_10 : decode cX5_above 10 = .ok (.iaload, 1) := by decide +kernel
theorem dX5_above_11 : decode cX5_above 11 = .ok (.istore_n 3, 1) := by decide +kernel
theorem dX5_above_12 : decode cX5_above 12 = .ok (.iload_n 3, 1) := by decide +kernel
theorem dX5_above_13 : decode cX5_above 13 = .ok (.iconst (-1), 1) := by decide +kernel
theorem dX5_above_14 : decode cX5_above 14 = .ok (.if_icmp .eq 12, 3) := by decide +kernel
theorem dX5_above_17 : decode cX5_above 17 = .ok (.aload_n 0, 1) := by decide +kernel
theorem dX5_above_18 : decode cX5_above 18 = .ok (.iload_n 1, 1) := by decide +kernel
theorem dX5_above_19 : decode cX5_above 19 = .ok (.iload_n 2, 1) := by decide +kernel
theorem dX5_above_20 : decode cX5_above 20 = .ok (.invokevirtual 84, 3) := by decide +kernel
theorem dX5_above_23 : decode cX5_above 23 = .ok (.ifCond .ne 7, 3) := by decide +kernel
theorem dX5_above_26 : decode cX5_above 26 = .ok (.iconst 0, 1) := by decide +kernel
theorem dX5_above_27 : decode cX5_above 27 = .ok (.goto 11, 3) := by decide +kernel
theorem dX5_above_30 : decode cX5_above 30 = .ok (.aload_n 0, 1) := by decide +kernel
theorem dX5_above_31 : decode cX5_above 31 = .ok (.iload_n 1, 1) := by decide +kernel
theorem dX5_above_32 : decode cX5_above 32 = .ok (.iload_n 2, 1) := by decide +kernel
theorem dX5_above_33 : decode cX5_above 33 = .ok (.invokevirtual 80, 3) := by decide +kernel
theorem dX5_above_36 : decode cX5_above 36 = .ok (.iload_n 3, 1) := by decide +kernel
theorem dX5_above_37 : decode cX5_above 37 = .ok (.isub, 1) := by decide +kernel
theorem dX5_above_38 : decode cX5_above 38 = .ok (.ireturn, 1) := by decide +kernel
set_option maxRecDepth 20000 in
theorem ggX5_errors_X5_above : GoodIn wsX5_errors wsX5_above := goodIn_r _ [6, 7, 8, 9, 10, 5, 11, 12, 13, 14, 15, 16, 17, 18, 19, 20, 21, 22, 23, 24, 25, 26, 27, 28, 29, 30, 31, 32, 33, 34, 35, 36, 37] (by decide +kernel) (by decide +kernel)
set_option maxRecDepth 20000 in
theorem gX5_errors_X5_above : GoodIn wsX5_errors (wsV RX5 116 RX5 yX5_above wsX5_above) := goodIn_app (goodIn_of _ (by decide +kernel)) ggX5_errors_X5_above
theorem dX5_errors_0 : decode cX5_errors 0 = .ok (.iconst 0, 1) := by decide +kernel
theorem dX5_errors_1 : decode cX5_errors 1 = .ok (.istore_n 1, 1) := by decide +kernel
theorem dX5_errors_2 : decode cX5_errors 2 = .ok (.iconst 0, 1) := by decide +kernel
theorem dX5_errors_3 : decode cX5_errors 3 = .ok (.istore_n 2, 1) := by decide +kernel
theorem dX5_errors_4 : decode cX5_errors 4 = .ok (.iload_n 2, 1) := by decide +kernel
theorem dX5_errors_5 : decode cX5_errors 5 = .ok (.bipush 64, 2) := by decide +kernel
theorem dX5_errors_7 : decode cX5_errors 7 = .ok (.if_icmp .ge 61, 3) := by decide +kernel
theorem dX5_errors_10 : decode cX5_errors 10 = .ok (.iload_n 2, 1) := by decide +kernel
theorem dX5_errors_11 : decode cX5_errors 11 = .ok (.bipush 8, 2) := by decide +kernel
theorem dX5_errors_13 : decode cX5_errors 13 = .ok (.idiv, 1) := by decide +kernel
theorem dX5_errors_14 : decode cX5_errors 14 = .ok (.iload_n 2, 1) := by decide +kernel
theorem dX5_errors_15 : decode cX5_errors 15 = .ok (.bipush 8, 2) := by decide +kernel
theorem dX5_errors_17 : decode cX5_errors 17 = .ok (.irem, 1) := by decide +kernel
theorem dX5_errors_18 : decode cX5_errors 18 = .ok (.if_icmp .ge 29, 3) := by decide +kernel
theorem dX5_errors_21 : decode cX5_errors 21 = .ok (.iload_n 2, 1) := by decide +kernel
theorem dX5_errors_22 : decode cX5_errors 22 = .ok (.bipush 8, 2) := by decide +kernel
theorem dX5_errors_24 : decode cX5_errors 24 = .ok (.irem, 1) := by decide +kernel
theorem dX5_errors_25 : decode cX5_errors 25 = .ok (.aload_n 0, 1) := by decide +kernel
theorem dX5_errors_26 : decode cX5_errors 26 = .ok (.getfield 61, 3) := by decide +kernel
theorem dX5_errors_29 : decode cX5_errors 29 = .ok (.if_icmp .ge 18, 3) := by decide +kernel
theorem dX5_errors_32 : decode cX5_errors 32 = .ok (.aload_n 0, 1) := by decide +kernel
theorem dX5_errors_33 : decode cX5_errors 33 = .ok (.iload_n 2, 1) := by decide +kernel
theorem dX5_errors_34 : decode cX5_errors 34 = .ok (.bipush 8, 2) := by decide +kernel
theorem dX5_errors_36 : decode cX5_errors 36 = .ok (.idiv, 1) := by decide +kernel
theorem dX5_errors_37 : decode cX5_errors 37 = .ok (.iload_n 2, 1) := by decide +kernel
theorem dX5_errors_38 : decode cX5_errors 38 = .ok (.bipush 8, 2) := by decide +kernel
theorem dX5_errors_40 : decode cX5_errors 40 = .ok (.irem, 1) := by decide +kernel
theorem dX5_errors_41 : decode cX5_errors 41 = .ok (.invokevirtual 116, 3) := by decide +kernel
theorem dX5_errors_44 : decode cX5_errors 44 = .ok (.goto 4, 3) := by decide +kernel
theorem dX5_errors_47 : decode cX5_errors 47 = .ok (.iconst 0, 1) := by decide +kernel
theorem dX5_errors_48 : decode cX5_errors 48 = .ok (.istore_n 3, 1) := by decide +kernel
theorem dX5_errors_49 : decode cX5_errors 49 = .ok (.iload_n 1, 1) := by decide +kernel
theorem dX5_errors_50 : decode cX5_errors 50 = .ok (.iload_n 3, 1) := by decide +kernel
theorem dX5_errors_51 : decode cX5_errors 51 = .ok (.ifCond .ge 8, 3) := by decide +kernel
theorem dX5_errors_54 : decode cX5_errors 54 = .ok (.iload_n 3, 1) := by decide +kernel
theorem dX5_errors_55 : decode cX5_errors 55 = .ok (.ineg, 1) := by decide +kernel
theorem dX5_errors_56 : decode cX5_errors 56 = .ok (.goto 4, 3) := by decide +kernel
theorem dX5_errors_59 : decode cX5_errors 59 = .ok (.iload_n 3, 1) := by decide +kernel
theorem dX5_errors_60 : decode cX5_errors 60 = .ok (.iadd, 1) := by decide +kernel
theorem dX5_errors_61 : decode cX5_errors 61 = .ok (.istore_n 1, 1) := by decide +kernel
theorem dX5_errors_62 : decode cX5_errors 62 = .ok (.iinc 2 1, 3) := by decide +kernel
theorem dX5_errors_65 : decode cX5_errors 65 = .ok (.goto (-61), 3) := by decide +kernel
theorem dX5_errors_68 : decode cX5_errors 68 = .ok (.iload_n 1, 1) := by decide +kernel
theorem dX5_errors_69 : decode cX5_errors 69 = .ok (.ireturn, 1) := by decide +kernel
set_option maxRecDepth 20000 in
theorem ggX5_error_X5_errors : GoodIn wsX5_error wsX5_errors := goodIn_r _ [6, 7, 8, 9, 10, 5, 11, 12, 13, 14, 15, 16, 17, 18, 19, 20, 21, 22, 23, 24, 25, 26, 27, 28, 29, 30, 31, 32, 33, 34, 35, 36, 37, 38, 39, 40, 41, 42] (by decide +kernel) (by decide +kernel)
set_option maxRecDepth 20000 in
theorem gX5_error_X5_errors : GoodIn wsX5_error (wsV RX5 119 RX5 yX5_errors wsX5_errors) := goodIn_app (goodIn_of _ (by decide +kernel)) ggX5_error_X5_errors
theorem dX5_error_0 : decode cX5_error 0 = .ok (.aload_n 0, 1) := by decide +kernel
theorem dX5_error_1 : decode cX5_error 1 = .ok (.iconst 0, 1) := by decide +kernel
theorem dX5_error_2 : decode cX5_error 2 = .ok (.putfield 58, 3) := by decide +kernel
theorem dX5_error_5 : decode cX5_error 5 = .ok (.aload_n 0, 1) := by decide +kernel
theorem dX5_error_6 : decode cX5_error 6 = .ok (.invokevirtual 119, 3) := by decide +kernel
theorem dX5_error_9 : decode cX5_error 9 = .ok (.ireturn, 1) := by decide +kernel
theorem dX5_step_0 : decode cX5_step 0 = .ok (.lload_n 0, 1) := by decide +kernel
theorem dX5_step_1 : decode cX5_step 1 = .ok (.ldc2_w 122, 3) := by decide +kernel
theorem dX5_step_4 : decode cX5_step 4 = .ok (.ldiv, 1) := by decide +kernel
theorem dX5_step_5 : decode cX5_step 5 = .ok (.lstore_n 2, 1) := by decide +kernel
theorem dX5_step_6 : decode cX5_step 6 = .ok (.lload_n 2, 1) := by decide +kernel
theorem dX5_step_7 : decode cX5_step 7 = .ok (.ldc2_w 124, 3) := by decide +kernel
theorem dX5_step_10 : decode cX5_step 10 = .ok (.lcmp, 1) := by decide +kernel
theorem dX5_step_11 : decode cX5_step 11 = .ok (.ifCond .ge 8, 3) := by decide +kernel
theorem dX5_step_14 : decode cX5_step 14 = .ok (.bipush (-50), 2) := by decide +kernel
theorem dX5_step_16 : decode cX5_step 16 = .ok (.goto 18, 3) := by decide +kernel
theorem dX5_step_19 : decode cX5_step 19 = .ok (.lload_n 2, 1) := by decide +kernel
theorem dX5_step_20 : decode cX5_step 20 = .ok (.ldc2_w 126, 3) := by decide +kernel
theorem dX5_step_23 : decode cX5_step 23 = .ok (.lcmp, 1) := by decide +kernel
theorem dX5_step_24 : decode cX5_step 24 = .ok (.ifCond .le 8, 3) := by decide +kernel
theorem dX5_step_27 : decode cX5_step 27 = .ok (.bipush 50, 2) := by decide +kernel
theorem dX5_step_29 : decode cX5_step 29 = .ok (.goto 5, 3) := by decide +kernel
theorem dX5_step_32 : decode cX5_step 32 = .ok (.lload_n 2, 1) := by decide +kernel
theorem dX5_step_33 : decode cX5_step 33 = .ok (.l2i, 1) := by decide +kernel
theorem dX5_step_34 : decode cX5_step 34 = .ok (.ireturn, 1) := by decide +kernel
theorem dX5_within_0 : decode cX5_within 0 = .ok (.iload_n 0, 1) := by decide +kernel
theorem dX5_within_1 : decode cX5_within 1 = .ok (.sipush (-1000), 3) := by decide +kernel
theorem dX5_within_4 : decode cX5_within 4 = .ok (.if_icmp .ge 9, 3) := by decide +kernel
theorem dX5_within_7 : decode cX5_within 7 = .ok (.sipush (-1000), 3) := by decide +kernel
theorem dX5_within_10 : decode cX5_within 10 = .ok (.goto 17, 3) := by decide +kernel
theorem dX5_within_13 : decode cX5_within 13 = .ok (.iload_n 0, 1) := by decide +kernel
theorem dX5_within_14 : decode cX5_within 14 = .ok (.sipush 1000, 3) := by decide +kernel
theorem dX5_within_17 : decode cX5_within 17 = .ok (.if_icmp .le 9, 3) := by decide +kernel
theorem dX5_within_20 : decode cX5_within 20 = .ok (.sipush 1000, 3) := by decide +kernel
theorem dX5_within_23 : decode cX5_within 23 = .ok (.goto 4, 3) := by decide +kernel
theorem dX5_within_26 : decode cX5_within 26 = .ok (.iload_n 0, 1) := by decide +kernel
theorem dX5_within_27 : decode cX5_within 27 = .ok (.ireturn, 1) := by decide +kernel
set_option maxRecDepth 20000 in
theorem ggX5_settles_X5_above : GoodIn wsX5_settles wsX5_above := goodIn_r _ [10, 11, 12, 13, 14, 9, 15, 16, 17, 18, 19, 20, 21, 22, 2, 3, 32, 33, 34, 35, 36, 37, 38, 39, 40, 41, 42, 43, 44, 45, 46, 47, 48] (by decide +kernel) (by decide +kernel)
set_option maxRecDepth 20000 in
theorem gX5_settles_X5_above : GoodIn wsX5_settles (wsV RX5 116 RX5 yX5_above wsX5_above) := goodIn_app (goodIn_of _ (by decide +kernel)) ggX5_settles_X5_above
set_option maxRecDepth 20000 in
theorem ggX5_settles_X5_step : GoodIn wsX5_settles wsX5_step := goodIn_r _ [25, 26, 27, 28] (by decide +kernel) (by decide +kernel)
set_option maxRecDepth 20000 in
theorem gX5_settles_X5_step : GoodIn wsX5_settles (va_wsS RX5 128 yX5_step wsX5_step) := goodIn_app (goodIn_of _ (by decide +kernel)) ggX5_settles_X5_step
set_option maxRecDepth 20000 in
theorem ggX5_settles_X5_within : GoodIn wsX5_settles wsX5_within := goodIn_r _ [31] (by decide +kernel) (by decide +kernel)
set_option maxRecDepth 20000 in
theorem gX5_settles_X5_within : GoodIn wsX5_settles (va_wsS RX5 132 yX5_within wsX5_within) := goodIn_app (goodIn_of _ (by decide +kernel)) ggX5_settles_X5_within
theorem dX5_settles_0 : decode cX5_settles 0 = .ok (.iconst 0, 1) := by decide +kernel
theorem dX5_settles_1 : decode cX5_settles 1 = .ok (.istore_n 1, 1) := by decide +kernel
theorem dX5_settles_2 : decode cX5_settles 2 = .ok (.iload_n 1, 1) := by decide +kernel
theorem dX5_settles_3 : decode cX5_settles 3 = .ok (.aload_n 0, 1) := by decide +kernel
theorem dX5_settles_4 : decode cX5_settles 4 = .ok (.getfield 61, 3) := by decide +kernel
theorem dX5_settles_7 : decode cX5_settles 7 = .ok (.if_icmp .ge 108, 3) := by decide +kernel
theorem dX5_settles_10 : decode cX5_settles 10 = .ok (.lconst 0, 1) := by decide +kernel
theorem dX5_settles_11 : decode cX5_settles 11 = .ok (.lstore_n 2, 1) := by decide +kernel
theorem dX5_settles_12 : decode cX5_settles 12 = .ok (.lconst 0, 1) := by decide +kernel
theorem dX5_settles_13 : decode cX5_settles 13 = .ok (.lstore 4, 2) := by decide +kernel
theorem dX5_settles_15 : decode cX5_settles 15 = .ok (.iconst 0, 1) := by decide +kernel
theorem dX5_settles_16 : decode cX5_settles 16 = .ok (.istore 6, 2) := by decide +kernel
theorem dX5_settles_18 : decode cX5_settles 18 = .ok (.iload 6, 2) := by decide +kernel
theorem dX5_settles_20 : decode cX5_settles 20 = .ok (.aload_n 0, 1) := by decide +kernel
theorem dX5_settles_21 : decode cX5_settles 21 = .ok (.getfield 61, 3) := by decide +kernel
theorem dX5_settles_24 : decode cX5_settles 24 = .ok (.if_icmp .ge 64, 3) := by decide +kernel
theorem dX5_settles_27 : decode cX5_settles 27 = .ok (.aload_n 0, 1) := by decide +kernel
theorem dX5_settles_28 : decode cX5_settles 28 = .ok (.iload_n 1, 1) := by decide +kernel
theorem dX5_settles_29 : decode cX5_settles 29 = .ok (.iload 6, 2) := by decide +kernel
theorem dX5_settles_31 : decode cX5_settles 31 = .ok (.invokevirtual 116, 3) := by decide +kernel
theorem dX5_settles_34 : decode cX5_settles 34 = .ok (.istore 7, 2) := by decide +kernel
theorem dX5_settles_36 : decode cX5_settles 36 = .ok (.lload_n 2, 1) := by decide +kernel
theorem dX5_settles_37 : decode cX5_settles 37 = .ok (.iload 7, 2) := by decide +kernel
theorem dX5_settles_39 : decode cX5_settles 39 = .ok (.i2l, 1) := by decide +kernel
theorem dX5_settles_40 : decode cX5_settles 40 = .ok (.aload_n 0, 1) := by decide +kernel
theorem dX5_settles_41 : decode cX5_settles 41 = .ok (.getfield 7, 3) := by decide +kernel
theorem dX5_settles_44 : decode cX5_settles 44 = .ok (.iload_n 1, 1) := by decide +kernel
theorem dX5_settles_45 : decode cX5_settles 45 = .ok (.iaload, 1) := by decide +kernel
theorem dX5_settles_46 : decode cX5_settles 46 = .ok (.aload_n 0, 1) := by decide +kernel
theorem dX5_settles_47 : decode cX5_settles 47 = .ok (.getfield 7, 3) := by decide +kernel
theorem dX5_settles_50 : decode cX5_settles 50 = .ok (.iload 6, 2) := by decide +kernel
theorem dX5_settles_52 : decode cX5_settles 52 = .ok (.iaload, 1) := by decide +kernel
theorem dX5_settles_53 : decode cX5_settles 53 = .ok (.isub, 1) := by decide +kernel
theorem dX5_settles_54 : decode cX5_settles 54 = .ok (.i2l, 1) := by decide +kernel
theorem dX5_settles_55 : decode cX5_settles 55 = .ok (.lmul, 1) := by decide +kernel
theorem dX5_settles_56 : decode cX5_settles 56 = .ok (.ladd, 1) := by decide +kernel
theorem dX5_settles_57 : decode cX5_settles 57 = .ok (.lstore_n 2, 1) := by decide +kernel
theorem dX5_settles_58 : decode cX5_settles 58 = .ok (.lload 4, 2) := by decide +kernel
theorem dX5_settles_60 : decode cX5_settles 60 = .ok (.iload 7, 2) := by decide +kernel
theorem dX5_settles_62 : decode cX5_settles 62 = .ok (.i2l, 1) := by decide +kernel
theorem dX5_settles_63 : decode cX5_settles 63 = .ok (.aload_n 0, 1) := by decide +kernel
theorem dX5_settles_64 : decode cX5_settles 64 = .ok (.getfield 13, 3) := by decide +kernel
theorem dX5_settles_67 : decode cX5_settles 67 = .ok (.iload_n 1, 1) := by decide +kernel
theorem dX5_settles_68 : decode cX5_settles 68 = .ok (.iaload, 1) := by decide +kernel
theorem dX5_settles_69 : decode cX5_settles 69 = .ok (.aload_n 0, 1) := by decide +kernel
theorem dX5_settles_70 : decode cX5_settles 70 = .ok (.getfield 13, 3) := by decide +kernel
theorem dX5_settles_73 : decode cX5_settles 73 = .ok (.iload 6, 2) := by decide +kernel
theorem dX5_settles_75 : decode cX5_settles 75 = .ok (.iaload, 1) := by decide +kernel
theorem dX5_settles_76 : decode cX5_settles 76 = .ok (.isub, 1) := by decide +kernel
theorem dX5_settles_77 : decode cX5_settles 77 = .ok (.i2l, 1) := by decide +kernel
theorem dX5_settles_78 : decode cX5_settles 78 = .ok (.lmul, 1) := by decide +kernel
theorem dX5_settles_79 : decode cX5_settles 79 = .ok (.ladd, 1) := by decide +kernel
theorem dX5_settles_80 : decode cX5_settles 80 = .ok (.lstore 4, 2) := by decide +kernel
theorem dX5_settles_82 : decode cX5_settles 82 = .ok (.iinc 6 1, 3) := by decide +kernel
theorem dX5_settles_85 : decode cX5_settles 85 = .ok (.goto (-67), 3) := by decide +kernel
theorem dX5_settles_88 : decode cX5_settles 88 = .ok (.aload_n 0, 1) := by decide +kernel
theorem dX5_settles_89 : decode cX5_settles 89 = .ok (.getfield 45, 3) := by decide +kernel
theorem dX5_settles_92 : decode cX5_settles 92 = .ok (.iload_n 1, 1) := by decide +kernel
theorem dX5_settles_93 : decode cX5_settles 93 = .ok (.lload_n 2, 1) := by decide +kernel
theorem dX5_settles_94 : decode cX5_settles 94 = .ok (.invokestatic 128, 3) := by decide +kernel
theorem dX5_settles_97 : decode cX5_settles 97 = .ok (.iastore, 1) := by decide +kernel
theorem dX5_settles_98 : decode cX5_settles 98 = .ok (.aload_n 0, 1) := by decide +kernel
theorem dX5_settles_99 : decode cX5_settles 99 = .ok (.getfield 48, 3) := by decide +kernel
theorem dX5_settles_102 : decode cX5_settles 102 = .ok (.iload_n 1, 1) := by decide +kernel
theorem dX5_settles_103 : decode cX5_settles 103 = .ok (.lload 4, 2) := by decide +kernel
theorem dX5_settles_105 : decode cX5_settles 105 = .ok (.invokestatic 128, 3) := by decide +kernel
theorem dX5_settles_108 : decode cX5_settles 108 = .ok (.iastore, 1) := by decide +kernel
theorem dX5_settles_109 : decode cX5_settles 109 = .ok (.iinc 1 1, 3) := by decide +kernel
theorem dX5_settles_112 : decode cX5_settles 112 = .ok (.goto (-110), 3) := by decide +kernel
theorem dX5_settles_115 : decode cX5_settles 115 = .ok (.iconst 0, 1) := by decide +kernel
theorem dX5_settles_116 : decode cX5_settles 116 = .ok (.istore_n 1, 1) := by decide +kernel
theorem dX5_settles_117 : decode cX5_settles 117 = .ok (.iload_n 1, 1) := by decide +kernel
theorem dX5_settles_118 : decode cX5_settles 118 = .ok (.aload_n 0, 1) := by decide +kernel
theorem dX5_settles_119 : decode cX5_settles 119 = .ok (.getfield 61, 3) := by decide +kernel
theorem dX5_settles_122 : decode cX5_settles 122 = .ok (.if_icmp .ge 53, 3) := by decide +kernel
theorem dX5_settles_125 : decode cX5_settles 125 = .ok (.aload_n 0, 1) := by decide +kernel
theorem dX5_settles_126 : decode cX5_settles 126 = .ok (.getfield 7, 3) := by decide +kernel
theorem dX5_settles_129 : decode cX5_settles 129 = .ok (.iload_n 1, 1) := by decide +kernel
theorem dX5_settles_130 : decode cX5_settles 130 = .ok (.aload_n 0, 1) := by decide +kernel
theorem dX5_settles_131 : decode cX5_settles 131 = .ok (.getfield 7, 3) := by decide +kernel
theorem dX5_settles_134 : decode cX5_settles 134 = .ok (.iload_n 1, 1) := by decide +kernel
theorem dX5_settles_135 : decode cX5_settles 135 = .ok (.iaload, 1) := by decide +kernel
theorem dX5_settles_136 : decode cX5_settles 136 = .ok (.aload_n 0, 1) := by decide +kernel
theorem dX5_settles_137 : decode cX5_settles 137 = .ok (.getfield 45, 3) := by decide +kernel
theorem dX5_settles_140 : decode cX5_settles 140 = .ok (.iload_n 1, 1) := by decide +kernel
theorem dX5_settles_141 : decode cX5_settles 141 = .ok (.iaload, 1) := by decide +kernel
theorem dX5_settles_142 : decode cX5_settles 142 = .ok (.isub, 1) := by decide +kernel
theorem dX5_settles_143 : decode cX5_settles 143 = .ok (.invokestatic 132, 3) := by decide +kernel
theorem dX5_settles_146 : decode cX5_settles 146 = .ok (.iastore, 1) := by decide +kernel
theorem dX5_settles_147 : decode cX5_settles 147 = .ok (.aload_n 0, 1) := by decide +kernel
theorem dX5_settles_148 : decode cX5_settles 148 = .ok (.getfield 13, 3) := by decide +kernel
theorem dX5_settles_151 : decode cX5_settles 151 = .ok (.iload_n 1, 1) := by decide +kernel
theorem dX5_settles_152 : decode cX5_settles 152 = .ok (.aload_n 0, 1) := by decide +kernel
theorem dX5_settles_153 : decode cX5_settles 153 = .ok (.getfield 13, 3) := by decide +kernel
theorem dX5_settles_156 : decode cX5_settles 156 = .ok (.iload_n 1, 1) := by decide +kernel
theorem dX5_settles_157 : decode cX5_settles 157 = .ok (.iaload, 1) := by decide +kernel
theorem dX5_settles_158 : decode cX5_settles 158 = .ok (.aload_n 0, 1) := by decide +kernel
theorem dX5_settles_159 : decode cX5_settles 159 = .ok (.getfield 48, 3) := by decide +kernel
theorem dX5_settles_162 : decode cX5_settles 162 = .ok (.iload_n 1, 1) := by decide +kernel
theorem dX5_settles_163 : decode cX5_settles 163 = .ok (.iaload, 1) := by decide +kernel
theorem dX5_settles_164 : decode cX5_settles 164 = .ok (.isub, 1) := by decide +kernel
theorem dX5_settles_165 : decode cX5_settles 165 = .ok (.invokestatic 132, 3) := by decide +kernel
theorem dX5_settles_168 : decode cX5_settles 168 = .ok (.iastore, 1) := by decide +kernel
theorem dX5_settles_169 : decode cX5_settles 169 = .ok (.iinc 1 1, 3) := by decide +kernel
theorem dX5_settles_172 : decode cX5_settles 172 = .ok (.goto (-55), 3) := by decide +kernel
theorem dX5_settles_175 : decode cX5_settles 175 = .ok (.return_, 1) := by decide +kernel
set_option maxRecDepth 20000 in
theorem ggX5_settle_X5_in : GoodIn wsX5_settle wsX5_in := goodIn_r _ [4] (by decide +kernel) (by decide +kernel)
set_option maxRecDepth 20000 in
theorem gX5_settle_X5_in : GoodIn wsX5_settle (va_wsS RX5 64 yX5_in wsX5_in) := goodIn_app (goodIn_of _ (by decide +kernel)) ggX5_settle_X5_in
set_option maxRecDepth 20000 in
theorem ggX5_settle_X5_goes : GoodIn wsX5_settle wsX5_goes := goodIn_r _ [8, 9, 48, 49, 50, 51, 52, 53, 54, 55, 56, 57, 58, 59, 60, 61, 62, 63, 64] (by decide +kernel) (by decide +kernel)
set_option maxRecDepth 20000 in
theorem gX5_settle_X5_goes : GoodIn wsX5_settle (wsV RX5 72 RX5 yX5_goes wsX5_goes) := goodIn_app (goodIn_of _ (by decide +kernel)) ggX5_settle_X5_goes
set_option maxRecDepth 20000 in
theorem ggX5_settle_X5_settles : GoodIn wsX5_settle wsX5_settles := goodIn_r _ [13, 14, 15, 16, 17, 18, 19, 20, 21, 3, 22, 23, 24, 25, 26, 27, 28, 29, 30, 31, 32, 33, 34, 35, 36, 37, 38, 39, 40, 41, 42, 43, 48, 49, 50, 51, 52, 53, 54, 55, 56, 57, 58, 59, 60, 61, 62, 63, 64] (by decide +kernel) (by decide +kernel)
set_option maxRecDepth 20000 in
theorem gX5_settle_X5_settles : GoodIn wsX5_settle (wsV RX5 135 RX5 yX5_settles wsX5_settles) := goodIn_app (goodIn_of _ (by decide +kernel)) ggX5_settle_X5_settles
set_option maxRecDepth 20000 in
theorem ggX5_settle_X5_errors : GoodIn wsX5_settle wsX5_errors := goodIn_r _ [47, 14, 19, 20, 21, 3, 22, 23, 24, 25, 26, 27, 28, 29, 30, 31, 32, 33, 34, 15, 16, 48, 49, 50, 51, 52, 53, 54, 55, 56, 57, 58, 59, 60, 61, 62, 63, 64] (by decide +kernel) (by decide +kernel)
set_option maxRecDepth 20000 in
theorem gX5_settle_X5_errors : GoodIn wsX5_settle (wsV RX5 119 RX5 yX5_errors wsX5_errors) := goodIn_app (goodIn_of _ (by decide +kernel)) ggX5_settle_X5_errors
theorem dX5_settle_0 : decode cX5_settle 0 = .ok (.aload_n 0, 1) := by decide +kernel
theorem dX5_settle_1 : decode cX5_settle 1 = .ok (.iload_n 1, 1) := by decide +kernel
theorem dX5_settle_2 : decode cX5_settle 2 = .ok (.iconst 1, 1) := by decide +kernel
theorem dX5_settle_3 : decode cX5_settle 3 = .ok (.bipush 50, 2) := by decide +kernel
theorem dX5_settle_5 : decode cX5_settle 5 = .ok (.invokestatic 64, 3) := by decide +kernel
theorem dX5_settle_8 : decode cX5_settle 8 = .ok (.iconst 1, 1) := by decide +kernel
theorem dX5_settle_9 : decode cX5_settle 9 = .ok (.invokevirtual 72, 3) := by decide +kernel
theorem dX5_settle_12 : decode cX5_settle 12 = .ok (.istore_n 2, 1) := by decide +kernel
theorem dX5_settle_13 : decode cX5_settle 13 = .ok (.iconst 0, 1) := by decide +kernel
theorem dX5_settle_14 : decode cX5_settle 14 = .ok (.istore_n 3, 1) := by decide +kernel
theorem dX5_settle_15 : decode cX5_settle 15 = .ok (.iload_n 3, 1) := by decide +kernel
theorem dX5_settle_16 : decode cX5_settle 16 = .ok (.iload_n 1, 1) := by decide +kernel
theorem dX5_settle_17 : decode cX5_settle 17 = .ok (.if_icmp .ge 17, 3) := by decide +kernel
theorem dX5_settle_20 : decode cX5_settle 20 = .ok (.iload_n 2, 1) := by decide +kernel
theorem dX5_settle_21 : decode cX5_settle 21 = .ok (.ifCond .eq 13, 3) := by decide +kernel
theorem dX5_settle_24 : decode cX5_settle 24 = .ok (.aload_n 0, 1) := by decide +kernel
theorem dX5_settle_25 : decode cX5_settle 25 = .ok (.invokevirtual 135, 3) := by decide +kernel
theorem dX5_settle_28 : decode cX5_settle 28 = .ok (.iinc 3 1, 3) := by decide +kernel
theorem dX5_settle_31 : decode cX5_settle 31 = .ok (.goto (-16), 3) := by decide +kernel
theorem dX5_settle_34 : decode cX5_settle 34 = .ok (.iload_n 2, 1) := by decide +kernel
theorem dX5_settle_35 : decode cX5_settle 35 = .ok (.ifCond .eq 10, 3) := by decide +kernel
theorem dX5_settle_38 : decode cX5_settle 38 = .ok (.aload_n 0, 1) := by decide +kernel
theorem dX5_settle_39 : decode cX5_settle 39 = .ok (.invokevirtual 119, 3) := by decide +kernel
theorem dX5_settle_42 : decode cX5_settle 42 = .ok (.goto 4, 3) := by decide +kernel
theorem dX5_settle_45 : decode cX5_settle 45 = .ok (.iconst 0, 1) := by decide +kernel
theorem dX5_settle_46 : decode cX5_settle 46 = .ok (.ireturn, 1) := by decide +kernel
theorem dX5_bits_0 : decode cX5_bits 0 = .ok (.iconst 0, 1) := by decide +kernel
theorem dX5_bits_1 : decode cX5_bits 1 = .ok (.istore_n 1, 1) := by decide +kernel
theorem dX5_bits_2 : decode cX5_bits 2 = .ok (.iconst 0, 1) := by decide +kernel
theorem dX5_bits_3 : decode cX5_bits 3 = .ok (.istore_n 2, 1) := by decide +kernel
theorem dX5_bits_4 : decode cX5_bits 4 = .ok (.iload_n 2, 1) := by decide +kernel
theorem dX5_bits_5 : decode cX5_bits 5 = .ok (.bipush 8, 2) := by decide +kernel
theorem dX5_bits_7 : decode cX5_bits 7 = .ok (.if_icmp .ge 17, 3) := by decide +kernel
theorem dX5_bits_10 : decode cX5_bits 10 = .ok (.iload_n 1, 1) := by decide +kernel
theorem dX5_bits_11 : decode cX5_bits 11 = .ok (.iload_n 0, 1) := by decide +kernel
theorem dX5_bits_12 : decode cX5_bits 12 = .ok (.iload_n 2, 1) := by decide +kernel
theorem dX5_bits_13 : decode cX5_bits 13 = .ok (.ishr, 1) := by decide +kernel
theorem dX5_bits_14 : decode cX5_bits 14 = .ok (.iconst 1, 1) := by decide +kernel
theorem dX5_bits_15 : decode cX5_bits 15 = .ok (.iand, 1) := by decide +kernel
theorem dX5_bits_16 : decode cX5_bits 16 = .ok (.iadd, 1) := by decide +kernel
theorem dX5_bits_17 : decode cX5_bits 17 = .ok (.istore_n 1, 1) := by decide +kernel
theorem dX5_bits_18 : decode cX5_bits 18 = .ok (.iinc 2 1, 3) := by decide +kernel
theorem dX5_bits_21 : decode cX5_bits 21 = .ok (.goto (-17), 3) := by decide +kernel
theorem dX5_bits_24 : decode cX5_bits 24 = .ok (.iload_n 1, 1) := by decide +kernel
theorem dX5_bits_25 : decode cX5_bits 25 = .ok (.ireturn, 1) := by decide +kernel
set_option maxRecDepth 20000 in
theorem ggX5_isFree_X5_bits : GoodIn wsX5_isFree wsX5_bits := goodIn_r _ [5] (by decide +kernel) (by decide +kernel)
set_option maxRecDepth 20000 in
theorem gX5_isFree_X5_bits : GoodIn wsX5_isFree (va_wsS RX5 138 yX5_bits wsX5_bits) := goodIn_app (goodIn_of _ (by decide +kernel)) ggX5_isFree_X5_bits
theorem dX5_isFree_0 : decode cX5_isFree 0 = .ok (.iconst 0, 1) := by decide +kernel
theorem dX5_isFree_1 : decode cX5_isFree 1 = .ok (.istore_n 1, 1) := by decide +kernel
theorem dX5_isFree_2 : decode cX5_isFree 2 = .ok (.iload_n 1, 1) := by decide +kernel
theorem dX5_isFree_3 : decode cX5_isFree 3 = .ok (.sipush 256, 3) := by decide +kernel
theorem dX5_isFree_6 : decode cX5_isFree 6 = .ok (.if_icmp .ge 88, 3) := by decide +kernel
theorem dX5_isFree_9 : decode cX5_isFree 9 = .ok (.iconst 0, 1) := by decide +kernel
theorem dX5_isFree_10 : decode cX5_isFree 10 = .ok (.istore_n 2, 1) := by decide +kernel
theorem dX5_isFree_11 : decode cX5_isFree 11 = .ok (.iconst 0, 1) := by decide +kernel
theorem dX5_isFree_12 : decode cX5_isFree 12 = .ok (.istore_n 3, 1) := by decide +kernel
theorem dX5_isFree_13 : decode cX5_isFree 13 = .ok (.iload_n 3, 1) := by decide +kernel
theorem dX5_isFree_14 : decode cX5_isFree 14 = .ok (.bipush 64, 2) := by decide +kernel
theorem dX5_isFree_16 : decode cX5_isFree 16 = .ok (.if_icmp .ge 50, 3) := by decide +kernel
theorem dX5_isFree_19 : decode cX5_isFree 19 = .ok (.iload_n 2, 1) := by decide +kernel
theorem dX5_isFree_20 : decode cX5_isFree 20 = .ok (.aload_n 0, 1) := by decide +kernel
theorem dX5_isFree_21 : decode cX5_isFree 21 = .ok (.getfield 51, 3) := by decide +kernel
theorem dX5_isFree_24 : decode cX5_isFree 24 = .ok (.iload_n 3, 1) := by decide +kernel
theorem dX5_isFree_25 : decode cX5_isFree 25 = .ok (.baload, 1) := by decide +kernel
theorem dX5_isFree_26 : decode cX5_isFree 26 = .ok (.ifCond .eq 31, 3) := by decide +kernel
theorem dX5_isFree_29 : decode cX5_isFree 29 = .ok (.iload_n 1, 1) := by decide +kernel
theorem dX5_isFree_30 : decode cX5_isFree 30 = .ok (.iload_n 3, 1) := by decide +kernel
theorem dX5_isFree_31 : decode cX5_isFree 31 = .ok (.bipush 8, 2) := by decide +kernel
theorem dX5_isFree_33 : decode cX5_isFree 33 = .ok (.idiv, 1) := by decide +kernel
theorem dX5_isFree_34 : decode cX5_isFree 34 = .ok (.ishr, 1) := by decide +kernel
theorem dX5_isFree_35 : decode cX5_isFree 35 = .ok (.iconst 1, 1) := by decide +kernel
theorem dX5_isFree_36 : decode cX5_isFree 36 = .ok (.iand, 1) := by decide +kernel
theorem dX5_isFree_37 : decode cX5_isFree 37 = .ok (.iconst 1, 1) := by decide +kernel
theorem dX5_isFree_38 : decode cX5_isFree 38 = .ok (.if_icmp .ne 19, 3) := by decide +kernel
theorem dX5_isFree_41 : decode cX5_isFree 41 = .ok (.iload_n 1, 1) := by decide +kernel
theorem dX5_isFree_42 : decode cX5_isFree 42 = .ok (.iload_n 3, 1) := by decide +kernel
theorem dX5_isFree_43 : decode cX5_isFree 43 = .ok (.bipush 8, 2) := by decide +kernel
theorem dX5_isFree_45 : decode cX5_isFree 45 = .ok (.irem, 1) := by decide +kernel
theorem dX5_isFree_46 : decode cX5_isFree 46 = .ok (.ishr, 1) := by decide +kernel
theorem dX5_isFree_47 : decode cX5_isFree 47 = .ok (.iconst 1, 1) := by decide +kernel
theorem dX5_isFree_48 : decode cX5_isFree 48 = .ok (.iand, 1) := by decide +kernel
theorem dX5_isFree_49 : decode cX5_isFree 49 = .ok (.iconst 1, 1) := by decide +kernel
theorem dX5_isFree_50 : decode cX5_isFree 50 = .ok (.if_icmp .ne 7, 3) := by decide +kernel
theorem dX5_isFree_53 : decode cX5_isFree 53 = .ok (.iconst 1, 1) := by decide +kernel
theorem dX5_isFree_54 : decode cX5_isFree 54 = .ok (.goto 4, 3) := by decide +kernel
theorem dX5_isFree_57 : decode cX5_isFree 57 = .ok (.iconst 0, 1) := by decide +kernel
theorem dX5_isFree_58 : decode cX5_isFree 58 = .ok (.iadd, 1) := by decide +kernel
theorem dX5_isFree_59 : decode cX5_isFree 59 = .ok (.istore_n 2, 1) := by decide +kernel
theorem dX5_isFree_60 : decode cX5_isFree 60 = .ok (.iinc 3 1, 3) := by decide +kernel
theorem dX5_isFree_63 : decode cX5_isFree 63 = .ok (.goto (-50), 3) := by decide +kernel
theorem dX5_isFree_66 : decode cX5_isFree 66 = .ok (.iload_n 1, 1) := by decide +kernel
theorem dX5_isFree_67 : decode cX5_isFree 67 = .ok (.invokestatic 138, 3) := by decide +kernel
theorem dX5_isFree_70 : decode cX5_isFree 70 = .ok (.iconst 2, 1) := by decide +kernel
theorem dX5_isFree_71 : decode cX5_isFree 71 = .ok (.if_icmp .lt 17, 3) := by decide +kernel
theorem dX5_isFree_74 : decode cX5_isFree 74 = .ok (.iload_n 2, 1) := by decide +kernel
theorem dX5_isFree_75 : decode cX5_isFree 75 = .ok (.iconst 2, 1) := by decide +kernel
theorem dX5_isFree_76 : decode cX5_isFree 76 = .ok (.iload_n 1, 1) := by decide +kernel
theorem dX5_isFree_77 : decode cX5_isFree 77 = .ok (.invokestatic 138, 3) := by decide +kernel
theorem dX5_isFree_80 : decode cX5_isFree 80 = .ok (.imul, 1) := by decide +kernel
theorem dX5_isFree_81 : decode cX5_isFree 81 = .ok (.iconst 3, 1) := by decide +kernel
theorem dX5_isFree_82 : decode cX5_isFree 82 = .ok (.isub, 1) := by decide +kernel
theorem dX5_isFree_83 : decode cX5_isFree 83 = .ok (.if_icmp .le 5, 3) := by decide +kernel
theorem dX5_isFree_86 : decode cX5_isFree 86 = .ok (.iconst 0, 1) := by decide +kernel
theorem dX5_isFree_87 : decode cX5_isFree 87 = .ok (.ireturn, 1) := by decide +kernel
theorem dX5_isFree_88 : decode cX5_isFree 88 = .ok (.iinc 1 1, 3) := by decide +kernel
theorem dX5_isFree_91 : decode cX5_isFree 91 = .ok (.goto (-89), 3) := by decide +kernel
theorem dX5_isFree_94 : decode cX5_isFree 94 = .ok (.iconst 1, 1) := by decide +kernel
theorem dX5_isFree_95 : decode cX5_isFree 95 = .ok (.ireturn, 1) := by decide +kernel
set_option maxRecDepth 20000 in
theorem ggX5_ranks_X5_linked : GoodIn wsX5_ranks wsX5_linked := goodIn_r _ [7, 8, 9, 10, 11, 12, 13, 6, 14, 15, 16, 24, 25, 26, 27, 28, 29, 30, 31, 32, 33, 34, 35, 36, 37, 38, 39, 40] (by decide +kernel) (by decide +kernel)
set_option maxRecDepth 20000 in
theorem gX5_ranks_X5_linked : GoodIn wsX5_ranks (wsV RX5 84 RX5 yX5_linked wsX5_linked) := goodIn_app (goodIn_of _ (by decide +kernel)) ggX5_ranks_X5_linked
set_option maxRecDepth 20000 in
theorem ggX5_ranks_X5_isFree : GoodIn wsX5_ranks wsX5_isFree := goodIn_r _ [20, 1, 21, 22, 6, 23, 24, 25, 26, 27, 28, 29, 30, 31, 32, 33, 34, 35, 36, 37, 38, 39, 40] (by decide +kernel) (by decide +kernel)
set_option maxRecDepth 20000 in
theorem gX5_ranks_X5_isFree : GoodIn wsX5_ranks (wsV RX5 141 RX5 yX5_isFree wsX5_isFree) := goodIn_app (goodIn_of _ (by decide +kernel)) ggX5_ranks_X5_isFree
theorem dX5_ranks_0 : decode cX5_ranks 0 = .ok (.iconst 0, 1) := by decide +kernel
theorem dX5_ranks_1 : decode cX5_ranks 1 = .ok (.istore_n 3, 1) := by decide +kernel
theorem dX5_ranks_2 : decode cX5_ranks 2 = .ok (.iconst 0, 1) := by decide +kernel
theorem dX5_ranks_3 : decode cX5_ranks 3 = .ok (.istore 4, 2) := by decide +kernel
theorem dX5_ranks_5 : decode cX5_ranks 5 = .ok (.iload 4, 2) := by decide +kernel
theorem dX5_ranks_7 : decode cX5_ranks 7 = .ok (.bipush 64, 2) := by decide +kernel
theorem dX5_ranks_9 : decode cX5_ranks 9 = .ok (.if_icmp .ge 17, 3) := by decide +kernel
theorem dX5_ranks_12 : decode cX5_ranks 12 = .ok (.aload_n 0, 1) := by decide +kernel
theorem dX5_ranks_13 : decode cX5_ranks 13 = .ok (.getfield 51, 3) := by decide +kernel
theorem dX5_ranks_16 : decode cX5_ranks 16 = .ok (.iload 4, 2) := by decide +kernel
theorem dX5_ranks_18 : decode cX5_ranks 18 = .ok (.iconst 0, 1) := by decide +kernel
theorem dX5_ranks_19 : decode cX5_ranks 19 = .ok (.bastore, 1) := by decide +kernel
theorem dX5_ranks_20 : decode cX5_ranks 20 = .ok (.iinc 4 1, 3) := by decide +kernel
theorem dX5_ranks_23 : decode cX5_ranks 23 = .ok (.goto (-18), 3) := by decide +kernel
theorem dX5_ranks_26 : decode cX5_ranks 26 = .ok (.iconst 0, 1) := by decide +kernel
theorem dX5_ranks_27 : decode cX5_ranks 27 = .ok (.istore 4, 2) := by decide +kernel
theorem dX5_ranks_29 : decode cX5_ranks 29 = .ok (.iload 4, 2) := by decide +kernel
theorem dX5_ranks_31 : decode cX5_ranks 31 = .ok (.bipush 64, 2) := by decide +kernel
theorem dX5_ranks_33 : decode cX5_ranks 33 = .ok (.if_icmp .ge 123, 3) := by decide +kernel
theorem dX5_ranks_36 : decode cX5_ranks 36 = .ok (.iload 4, 2) := by decide +kernel
theorem dX5_ranks_38 : decode cX5_ranks 38 = .ok (.bipush 8, 2) := by decide +kernel
theorem dX5_ranks_40 : decode cX5_ranks 40 = .ok (.idiv, 1) := by decide +kernel
theorem dX5_ranks_41 : decode cX5_ranks 41 = .ok (.istore 5, 2) := by decide +kernel
theorem dX5_ranks_43 : decode cX5_ranks 43 = .ok (.iload 4, 2) := by decide +kernel
theorem dX5_ranks_45 : decode cX5_ranks 45 = .ok (.bipush 8, 2) := by decide +kernel
theorem dX5_ranks_47 : decode cX5_ranks 47 = .ok (.irem, 1) := by decide +kernel
theorem dX5_ranks_48 : decode cX5_ranks 48 = .ok (.istore 6, 2) := by decide +kernel
theorem dX5_ranks_50 : decode cX5_ranks 50 = .ok (.iload 5, 2) := by decide +kernel
theorem dX5_ranks_52 : decode cX5_ranks 52 = .ok (.iload_n 1, 1) := by decide +kernel
theorem dX5_ranks_53 : decode cX5_ranks 53 = .ok (.if_icmp .ne 9, 3) := by decide +kernel
theorem dX5_ranks_56 : decode cX5_ranks 56 = .ok (.iload 6, 2) := by decide +kernel
theorem dX5_ranks_58 : decode cX5_ranks 58 = .ok (.iload_n 2, 1) := by decide +kernel
theorem dX5_ranks_59 : decode cX5_ranks 59 = .ok (.if_icmp .eq 15, 3) := by decide +kernel
theorem dX5_ranks_62 : decode cX5_ranks 62 = .ok (.iload 5, 2) := by decide +kernel
theorem dX5_ranks_64 : decode cX5_ranks 64 = .ok (.iload_n 2, 1) := by decide +kernel
theorem dX5_ranks_65 : decode cX5_ranks 65 = .ok (.if_icmp .ne 13, 3) := by decide +kernel
theorem dX5_ranks_68 : decode cX5_ranks 68 = .ok (.iload 6, 2) := by decide +kernel
theorem dX5_ranks_70 : decode cX5_ranks 70 = .ok (.iload_n 1, 1) := by decide +kernel
theorem dX5_ranks_71 : decode cX5_ranks 71 = .ok (.if_icmp .ne 7, 3) := by decide +kernel
theorem dX5_ranks_74 : decode cX5_ranks 74 = .ok (.iconst 1, 1) := by decide +kernel
theorem dX5_ranks_75 : decode cX5_ranks 75 = .ok (.goto 4, 3) := by decide +kernel
theorem dX5_ranks_78 : decode cX5_ranks 78 = .ok (.iconst 0, 1) := by decide +kernel
theorem dX5_ranks_79 : decode cX5_ranks 79 = .ok (.istore 7, 2) := by decide +kernel
theorem dX5_ranks_81 : decode cX5_ranks 81 = .ok (.iload 5, 2) := by decide +kernel
theorem dX5_ranks_83 : decode cX5_ranks 83 = .ok (.iload 6, 2) := by decide +kernel
theorem dX5_ranks_85 : decode cX5_ranks 85 = .ok (.if_icmp .ge 65, 3) := by decide +kernel
theorem dX5_ranks_88 : decode cX5_ranks 88 = .ok (.iload 6, 2) := by decide +kernel
theorem dX5_ranks_90 : decode cX5_ranks 90 = .ok (.aload_n 0, 1) := by decide +kernel
theorem dX5_ranks_91 : decode cX5_ranks 91 = .ok (.getfield 61, 3) := by decide +kernel
theorem dX5_ranks_94 : decode cX5_ranks 94 = .ok (.if_icmp .ge 56, 3) := by decide +kernel
theorem dX5_ranks_97 : decode cX5_ranks 97 = .ok (.iload 7, 2) := by decide +kernel
theorem dX5_ranks_99 : decode cX5_ranks 99 = .ok (.ifCond .ne 51, 3) := by decide +kernel
theorem dX5_ranks_102 : decode cX5_ranks 102 = .ok (.aload_n 0, 1) := by decide +kernel
theorem dX5_ranks_103 : decode cX5_ranks 103 = .ok (.iload 5, 2) := by decide +kernel
theorem dX5_ranks_105 : decode cX5_ranks 105 = .ok (.iload 6, 2) := by decide +kernel
theorem dX5_ranks_107 : decode cX5_ranks 107 = .ok (.invokevirtual 84, 3) := by decide +kernel
theorem dX5_ranks_110 : decode cX5_ranks 110 = .ok (.ifCond .eq 40, 3) := by decide +kernel
theorem dX5_ranks_113 : decode cX5_ranks 113 = .ok (.aload_n 0, 1) := by decide +kernel
theorem dX5_ranks_114 : decode cX5_ranks 114 = .ok (.getfield 51, 3) := by decide +kernel
theorem dX5_ranks_117 : decode cX5_ranks 117 = .ok (.iload 4, 2) := by decide +kernel
theorem dX5_ranks_119 : decode cX5_ranks 119 = .ok (.iconst 1, 1) := by decide +kernel
theorem dX5_ranks_120 : decode cX5_ranks 120 = .ok (.bastore, 1) := by decide +kernel
theorem dX5_ranks_121 : decode cX5_ranks 121 = .ok (.aload_n 0, 1) := by decide +kernel
theorem dX5_ranks_122 : decode cX5_ranks 122 = .ok (.getfield 51, 3) := by decide +kernel
theorem dX5_ranks_125 : decode cX5_ranks 125 = .ok (.iload 4, 2) := by decide +kernel
theorem dX5_ranks_127 : decode cX5_ranks 127 = .ok (.aload_n 0, 1) := by decide +kernel
theorem dX5_ranks_128 : decode cX5_ranks 128 = .ok (.invokevirtual 141, 3) := by decide +kernel
theorem dX5_ranks_131 : decode cX5_ranks 131 = .ok (.bastore, 1) := by decide +kernel
theorem dX5_ranks_132 : decode cX5_ranks 132 = .ok (.iload_n 3, 1) := by decide +kernel
theorem dX5_ranks_133 : decode cX5_ranks 133 = .ok (.aload_n 0, 1) := by decide +kernel
theorem dX5_ranks_134 : decode cX5_ranks 134 = .ok (.getfield 51, 3) := by decide +kernel
theorem dX5_ranks_137 : decode cX5_ranks 137 = .ok (.iload 4, 2) := by decide +kernel
theorem dX5_ranks_139 : decode cX5_ranks 139 = .ok (.baload, 1) := by decide +kernel
theorem dX5_ranks_140 : decode cX5_ranks 140 = .ok (.ifCond .eq 7, 3) := by decide +kernel
theorem dX5_ranks_143 : decode cX5_ranks 143 = .ok (.iconst 1, 1) := by decide +kernel
theorem dX5_ranks_144 : decode cX5_ranks 144 = .ok (.goto 4, 3) := by decide +kernel
theorem dX5_ranks_147 : decode cX5_ranks 147 = .ok (.iconst 0, 1) := by decide +kernel
theorem dX5_ranks_148 : decode cX5_ranks 148 = .ok (.iadd, 1) := by decide +kernel
theorem dX5_ranks_149 : decode cX5_ranks 149 = .ok (.istore_n 3, 1) := by decide +kernel
theorem dX5_ranks_150 : decode cX5_ranks 150 = .ok (.iinc 4 1, 3) := by decide +kernel
theorem dX5_ranks_153 : decode cX5_ranks 153 = .ok (.goto (-124), 3) := by decide +kernel
theorem dX5_ranks_156 : decode cX5_ranks 156 = .ok (.iload_n 3, 1) := by decide +kernel
theorem dX5_ranks_157 : decode cX5_ranks 157 = .ok (.ireturn, 1) := by decide +kernel
set_option maxRecDepth 20000 in
theorem ggX5_rank_X5_ranks : GoodIn wsX5_rank wsX5_ranks := goodIn_r _ [6, 7, 8, 9, 10, 11, 5, 12, 13, 14, 15, 16, 17, 18, 19, 20, 21, 22, 23, 24, 25, 26, 27, 28, 29, 30, 31, 32, 33, 34, 35, 36, 37, 38, 39, 40, 41, 42, 43, 44, 45] (by decide +kernel) (by decide +kernel)
set_option maxRecDepth 20000 in
theorem gX5_rank_X5_ranks : GoodIn wsX5_rank (wsV RX5 145 RX5 yX5_ranks wsX5_ranks) := goodIn_app (goodIn_of _ (by decide +kernel)) ggX5_rank_X5_ranks
theorem dX5_rank_0 : decode cX5_rank 0 = .ok (.aload_n 0, 1) := by decide +kernel
theorem dX5_rank_1 : decode cX5_rank 1 = .ok (.iconst 0, 1) := by decide +kernel
theorem dX5_rank_2 : decode cX5_rank 2 = .ok (.putfield 58, 3) := by decide +kernel
theorem dX5_rank_5 : decode cX5_rank 5 = .ok (.aload_n 0, 1) := by decide +kernel
theorem dX5_rank_6 : decode cX5_rank 6 = .ok (.iconst (-1), 1) := by decide +kernel
theorem dX5_rank_7 : decode cX5_rank 7 = .ok (.iconst (-1), 1) := by decide +kernel
theorem dX5_rank_8 : decode cX5_rank 8 = .ok (.invokevirtual 145, 3) := by decide +kernel
theorem dX5_rank_11 : decode cX5_rank 11 = .ok (.ireturn, 1) := by decide +kernel
set_option maxRecDepth 20000 in
theorem ggX5_rankByCounting_X5_ranks : GoodIn wsX5_rankByCounting wsX5_ranks := goodIn_r _ [6, 7, 8, 9, 10, 11, 5, 12, 13, 14, 15, 16, 17, 18, 19, 20, 21, 22, 23, 24, 25, 26, 27, 28, 29, 30, 31, 32, 33, 34, 35, 36, 37, 38, 39, 40, 41, 42, 43, 44, 45] (by decide +kernel) (by decide +kernel)
set_option maxRecDepth 20000 in
theorem gX5_rankByCounting_X5_ranks : GoodIn wsX5_rankByCounting (wsV RX5 145 RX5 yX5_ranks wsX5_ranks) := goodIn_app (goodIn_of _ (by decide +kernel)) ggX5_rankByCounting_X5_ranks
theorem dX5_rankByCounting_0 : decode cX5_rankByCounting 0 = .ok (.aload_n 0, 1) := by decide +kernel
theorem dX5_rankByCounting_1 : decode cX5_rankByCounting 1 = .ok (.iconst 0, 1) := by decide +kernel
theorem dX5_rankByCounting_2 : decode cX5_rankByCounting 2 = .ok (.putfield 58, 3) := by decide +kernel
theorem dX5_rankByCounting_5 : decode cX5_rankByCounting 5 = .ok (.aload_n 0, 1) := by decide +kernel
theorem dX5_rankByCounting_6 : decode cX5_rankByCounting 6 = .ok (.iconst (-1), 1) := by decide +kernel
theorem dX5_rankByCounting_7 : decode cX5_rankByCounting 7 = .ok (.iconst (-1), 1) := by decide +kernel
theorem dX5_rankByCounting_8 : decode cX5_rankByCounting 8 = .ok (.invokevirtual 145, 3) := by decide +kernel
theorem dX5_rankByCounting_11 : decode cX5_rankByCounting 11 = .ok (.ireturn, 1) := by decide +kernel
set_option maxRecDepth 20000 in
theorem ggX5_isRigid_X5_countGroups : GoodIn wsX5_isRigid wsX5_countGroups := goodIn_r _ [6, 7, 8, 9, 10, 11, 5, 12, 13, 14, 15, 16, 17, 18, 19, 20, 21, 22, 23, 24, 41, 42, 43, 44, 45, 46, 47, 48, 49, 50, 51, 52, 53, 54, 55, 56, 57] (by decide +kernel) (by decide +kernel)
set_option maxRecDepth 20000 in
theorem gX5_isRigid_X5_countGroups : GoodIn wsX5_isRigid (wsV RX5 94 RX5 yX5_countGroups wsX5_countGroups) := goodIn_app (goodIn_of _ (by decide +kernel)) ggX5_isRigid_X5_countGroups
set_option maxRecDepth 20000 in
theorem ggX5_isRigid_X5_countUp : GoodIn wsX5_isRigid wsX5_countUp := goodIn_r _ [28, 7, 8, 41, 42, 43, 44, 45, 46, 47, 48, 49, 50, 51, 52, 53, 54, 55, 56, 57] (by decide +kernel) (by decide +kernel)
set_option maxRecDepth 20000 in
theorem gX5_isRigid_X5_countUp : GoodIn wsX5_isRigid (wsV RX5 148 RX5 yX5_countUp wsX5_countUp) := goodIn_app (goodIn_of _ (by decide +kernel)) ggX5_isRigid_X5_countUp
set_option maxRecDepth 20000 in
theorem ggX5_isRigid_X5_ranks : GoodIn wsX5_isRigid wsX5_ranks := goodIn_r _ [32, 33, 7, 13, 14, 15, 5, 16, 8, 17, 18, 19, 20, 21, 22, 23, 24, 34, 35, 36, 37, 38, 39, 40, 41, 42, 43, 44, 45, 46, 47, 48, 49, 50, 51, 52, 53, 54, 55, 56, 57] (by decide +kernel) (by decide +kernel)
set_option maxRecDepth 20000 in
theorem gX5_isRigid_X5_ranks : GoodIn wsX5_isRigid (wsV RX5 145 RX5 yX5_ranks wsX5_ranks) := goodIn_app (goodIn_of _ (by decide +kernel)) ggX5_isRigid_X5_ranks
theorem dX5_isRigid_0 : decode cX5_isRigid 0 = .ok (.aload_n 0, 1) := by decide +kernel
theorem dX5_isRigid_1 : decode cX5_isRigid 1 = .ok (.iconst 0, 1) := by decide +kernel
theorem dX5_isRigid_2 : decode cX5_isRigid 2 = .ok (.putfield 58, 3) := by decide +kernel
theorem dX5_isRigid_5 : decode cX5_isRigid 5 = .ok (.aload_n 0, 1) := by decide +kernel
theorem dX5_isRigid_6 : decode cX5_isRigid 6 = .ok (.invokevirtual 94, 3) := by decide +kernel
theorem dX5_isRigid_9 : decode cX5_isRigid 9 = .ok (.iconst 1, 1) := by decide +kernel
theorem dX5_isRigid_10 : decode cX5_isRigid 10 = .ok (.if_icmp .ne 32, 3) := by decide +kernel
theorem dX5_isRigid_13 : decode cX5_isRigid 13 = .ok (.aload_n 0, 1) := by decide +kernel
theorem dX5_isRigid_14 : decode cX5_isRigid 14 = .ok (.invokevirtual 148, 3) := by decide +kernel
theorem dX5_isRigid_17 : decode cX5_isRigid 17 = .ok (.iconst 2, 1) := by decide +kernel
theorem dX5_isRigid_18 : decode cX5_isRigid 18 = .ok (.if_icmp .lt 24, 3) := by decide +kernel
theorem dX5_isRigid_21 : decode cX5_isRigid 21 = .ok (.aload_n 0, 1) := by decide +kernel
theorem dX5_isRigid_22 : decode cX5_isRigid 22 = .ok (.iconst (-1), 1) := by decide +kernel
theorem dX5_isRigid_23 : decode cX5_isRigid 23 = .ok (.iconst (-1), 1) := by decide +kernel
theorem dX5_isRigid_24 : decode cX5_isRigid 24 = .ok (.invokevirtual 145, 3) := by decide +kernel
theorem dX5_isRigid_27 : decode cX5_isRigid 27 = .ok (.iconst 2, 1) := by decide +kernel
theorem dX5_isRigid_28 : decode cX5_isRigid 28 = .ok (.aload_n 0, 1) := by decide +kernel
theorem dX5_isRigid_29 : decode cX5_isRigid 29 = .ok (.invokevirtual 148, 3) := by decide +kernel
theorem dX5_isRigid_32 : decode cX5_isRigid 32 = .ok (.imul, 1) := by decide +kernel
theorem dX5_isRigid_33 : decode cX5_isRigid 33 = .ok (.iconst 3, 1) := by decide +kernel
theorem dX5_isRigid_34 : decode cX5_isRigid 34 = .ok (.isub, 1) := by decide +kernel
theorem dX5_isRigid_35 : decode cX5_isRigid 35 = .ok (.if_icmp .ne 7, 3) := by decide +kernel
theorem dX5_isRigid_38 : decode cX5_isRigid 38 = .ok (.iconst 1, 1) := by decide +kernel
theorem dX5_isRigid_39 : decode cX5_isRigid 39 = .ok (.goto 4, 3) := by decide +kernel
theorem dX5_isRigid_42 : decode cX5_isRigid 42 = .ok (.iconst 0, 1) := by decide +kernel
theorem dX5_isRigid_43 : decode cX5_isRigid 43 = .ok (.ireturn, 1) := by decide +kernel
set_option maxRecDepth 20000 in
theorem ggX5_isSpare_X5_is : GoodIn wsX5_isSpare wsX5_is := goodIn_r _ [5, 6, 7, 8, 4, 9, 40, 41, 42, 43, 44, 45, 46, 47, 48, 49, 50, 51, 52, 53, 54, 55, 56] (by decide +kernel) (by decide +kernel)
set_option maxRecDepth 20000 in
theorem gX5_isSpare_X5_is : GoodIn wsX5_isSpare (wsV RX5 76 RX5 yX5_is wsX5_is) := goodIn_app (goodIn_of _ (by decide +kernel)) ggX5_isSpare_X5_is
set_option maxRecDepth 20000 in
theorem ggX5_isSpare_X5_linked : GoodIn wsX5_isSpare wsX5_linked := goodIn_r _ [13, 14, 15, 16, 17, 18, 19, 4, 20, 21, 22, 40, 41, 42, 43, 44, 45, 46, 47, 48, 49, 50, 51, 52, 53, 54, 55, 56] (by decide +kernel) (by decide +kernel)
set_option maxRecDepth 20000 in
theorem gX5_isSpare_X5_linked : GoodIn wsX5_isSpare (wsV RX5 84 RX5 yX5_linked wsX5_linked) := goodIn_app (goodIn_of _ (by decide +kernel)) ggX5_isSpare_X5_linked
set_option maxRecDepth 20000 in
theorem ggX5_isSpare_X5_goes : GoodIn wsX5_isSpare wsX5_goes := goodIn_r _ [26, 27, 40, 41, 42, 43, 44, 45, 46, 47, 48, 49, 50, 51, 52, 53, 54, 55, 56] (by decide +kernel) (by decide +kernel)
set_option maxRecDepth 20000 in
theorem gX5_isSpare_X5_goes : GoodIn wsX5_isSpare (wsV RX5 72 RX5 yX5_goes wsX5_goes) := goodIn_app (goodIn_of _ (by decide +kernel)) ggX5_isSpare_X5_goes
set_option maxRecDepth 20000 in
theorem ggX5_isSpare_X5_ranks : GoodIn wsX5_isSpare wsX5_ranks := goodIn_r _ [31, 32, 6, 10, 11, 12, 4, 13, 14, 15, 16, 17, 18, 19, 20, 21, 22, 33, 34, 35, 36, 37, 38, 39, 40, 41, 42, 43, 44, 45, 46, 47, 48, 49, 50, 51, 52, 53, 54, 55, 56] (by decide +kernel) (by decide +kernel)
set_option maxRecDepth 20000 in
theorem gX5_isSpare_X5_ranks : GoodIn wsX5_isSpare (wsV RX5 145 RX5 yX5_ranks wsX5_ranks) := goodIn_app (goodIn_of _ (by decide +kernel)) ggX5_isSpare_X5_ranks
theorem dX5_isSpare_0 : decode cX5_isSpare 0 = .ok (.aload_n 0, 1) := by decide +kernel
theorem dX5_isSpare_1 : decode cX5_isSpare 1 = .ok (.iload_n 1, 1) := by decide +kernel
theorem dX5_isSpare_2 : decode cX5_isSpare 2 = .ok (.invokevirtual 76, 3) := by decide +kernel
theorem dX5_isSpare_5 : decode cX5_isSpare 5 = .ok (.ifCond .eq 15, 3) := by decide +kernel
theorem dX5_isSpare_8 : decode cX5_isSpare 8 = .ok (.aload_n 0, 1) := by decide +kernel
theorem dX5_isSpare_9 : decode cX5_isSpare 9 = .ok (.iload_n 2, 1) := by decide +kernel
theorem dX5_isSpare_10 : decode cX5_isSpare 10 = .ok (.invokevirtual 76, 3) := by decide +kernel
theorem dX5_isSpare_13 : decode cX5_isSpare 13 = .ok (.ifCond .eq 7, 3) := by decide +kernel
theorem dX5_isSpare_16 : decode cX5_isSpare 16 = .ok (.iconst 1, 1) := by decide +kernel
theorem dX5_isSpare_17 : decode cX5_isSpare 17 = .ok (.goto 4, 3) := by decide +kernel
theorem dX5_isSpare_20 : decode cX5_isSpare 20 = .ok (.iconst 0, 1) := by decide +kernel
theorem dX5_isSpare_21 : decode cX5_isSpare 21 = .ok (.istore_n 3, 1) := by decide +kernel
theorem dX5_isSpare_22 : decode cX5_isSpare 22 = .ok (.aload_n 0, 1) := by decide +kernel
theorem dX5_isSpare_23 : decode cX5_isSpare 23 = .ok (.iload_n 3, 1) := by decide +kernel
theorem dX5_isSpare_24 : decode cX5_isSpare 24 = .ok (.iload_n 3, 1) := by decide +kernel
theorem dX5_isSpare_25 : decode cX5_isSpare 25 = .ok (.ifCond .eq 16, 3) := by decide +kernel
theorem dX5_isSpare_28 : decode cX5_isSpare 28 = .ok (.aload_n 0, 1) := by decide +kernel
theorem dX5_isSpare_29 : decode cX5_isSpare 29 = .ok (.iload_n 1, 1) := by decide +kernel
theorem dX5_isSpare_30 : decode cX5_isSpare 30 = .ok (.iload_n 2, 1) := by decide +kernel
theorem dX5_isSpare_31 : decode cX5_isSpare 31 = .ok (.invokevirtual 84, 3) := by decide +kernel
theorem dX5_isSpare_34 : decode cX5_isSpare 34 = .ok (.ifCond .eq 7, 3) := by decide +kernel
theorem dX5_isSpare_37 : decode cX5_isSpare 37 = .ok (.iconst 1, 1) := by decide +kernel
theorem dX5_isSpare_38 : decode cX5_isSpare 38 = .ok (.goto 4, 3) := by decide +kernel
theorem dX5_isSpare_41 : decode cX5_isSpare 41 = .ok (.iconst 0, 1) := by decide +kernel
theorem dX5_isSpare_42 : decode cX5_isSpare 42 = .ok (.invokevirtual 72, 3) := by decide +kernel
theorem dX5_isSpare_45 : decode cX5_isSpare 45 = .ok (.ifCond .eq 22, 3) := by decide +kernel
theorem dX5_isSpare_48 : decode cX5_isSpare 48 = .ok (.aload_n 0, 1) := by decide +kernel
theorem dX5_isSpare_49 : decode cX5_isSpare 49 = .ok (.iload_n 1, 1) := by decide +kernel
theorem dX5_isSpare_50 : decode cX5_isSpare 50 = .ok (.iload_n 2, 1) := by decide +kernel
theorem dX5_isSpare_51 : decode cX5_isSpare 51 = .ok (.invokevirtual 145, 3) := by decide +kernel
theorem dX5_isSpare_54 : decode cX5_isSpare 54 = .ok (.aload_n 0, 1) := by decide +kernel
theorem dX5_isSpare_55 : decode cX5_isSpare 55 = .ok (.iconst (-1), 1) := by decide +kernel
theorem dX5_isSpare_56 : decode cX5_isSpare 56 = .ok (.iconst (-1), 1) := by decide +kernel
theorem dX5_isSpare_57 : decode cX5_isSpare 57 = .ok (.invokevirtual 145, 3) := by decide +kernel
theorem dX5_isSpare_60 : decode cX5_isSpare 60 = .ok (.if_icmp .ne 7, 3) := by decide +kernel
theorem dX5_isSpare_63 : decode cX5_isSpare 63 = .ok (.iconst 1, 1) := by decide +kernel
theorem dX5_isSpare_64 : decode cX5_isSpare 64 = .ok (.goto 4, 3) := by decide +kernel
theorem dX5_isSpare_67 : decode cX5_isSpare 67 = .ok (.iconst 0, 1) := by decide +kernel
theorem dX5_isSpare_68 : decode cX5_isSpare 68 = .ok (.ireturn, 1) := by decide +kernel
