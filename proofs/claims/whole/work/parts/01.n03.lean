theorem dX0_followClause_56 : decode cX0_followClause 56 = .ok (.goto 30, 3) := by decide +kernel
theorem dX0_followClause_59 : decode cX0_followClause 59 = .ok (.iload 5, 2) := by decide +kernel
theorem dX0_followClause_61 : decode cX0_followClause 61 = .ok (.iconst 1, 1) := by decide +kernel
theorem dX0_followClause_62 : decode cX0_followClause 62 = .ok (.if_icmp .ne 24, 3) := by decide +kernel
theorem dX0_followClause_65 : decode cX0_followClause 65 = .ok (.aload_n 0, 1) := by decide +kernel
theorem dX0_followClause_66 : decode cX0_followClause 66 = .ok (.dup, 1) := by decide +kernel
theorem dX0_followClause_67 : decode cX0_followClause 67 = .ok (.getfield 23, 3) := by decide +kernel
theorem dX0_followClause_70 : decode cX0_followClause 70 = .ok (.iload_n 3, 1) := by decide +kernel
theorem dX0_followClause_71 : decode cX0_followClause 71 = .ok (.ior, 1) := by decide +kernel
theorem dX0_followClause_72 : decode cX0_followClause 72 = .ok (.putfield 23, 3) := by decide +kernel
theorem dX0_followClause_75 : decode cX0_followClause 75 = .ok (.aload_n 0, 1) := by decide +kernel
theorem dX0_followClause_76 : decode cX0_followClause 76 = .ok (.dup, 1) := by decide +kernel
theorem dX0_followClause_77 : decode cX0_followClause 77 = .ok (.getfield 27, 3) := by decide +kernel
theorem dX0_followClause_80 : decode cX0_followClause 80 = .ok (.iload 4, 2) := by decide +kernel
theorem dX0_followClause_82 : decode cX0_followClause 82 = .ok (.ior, 1) := by decide +kernel
theorem dX0_followClause_83 : decode cX0_followClause 83 = .ok (.putfield 27, 3) := by decide +kernel
theorem dX0_followClause_86 : decode cX0_followClause 86 = .ok (.return_, 1) := by decide +kernel
set_option maxRecDepth 20000 in
theorem ggX0_followRow_X5_boundOf : GoodIn wsX0_followRow wsX5_boundOf := goodIn_r _ [9, 10, 36, 37, 38, 39, 40, 41, 42, 43, 44] (by decide +kernel) (by decide +kernel)
set_option maxRecDepth 20000 in
theorem gX0_followRow_X5_boundOf : GoodIn wsX0_followRow (wsV RX0 94 RX5 yX5_boundOf wsX5_boundOf) := goodIn_app (goodIn_of _ (by decide +kernel)) ggX0_followRow_X5_boundOf
set_option maxRecDepth 20000 in
theorem ggX0_followRow_X0_leastSum : GoodIn wsX0_followRow wsX0_leastSum := goodIn_r _ [15, 1, 4, 3, 16, 17, 18, 8, 19, 20, 21, 22, 23, 24, 25, 30, 31, 32, 33, 34, 35, 36, 37, 38, 39, 40, 41, 42, 43, 44] (by decide +kernel) (by decide +kernel)
set_option maxRecDepth 20000 in
theorem gX0_followRow_X0_leastSum : GoodIn wsX0_followRow (wsV RX0 97 RX0 yX0_leastSum wsX0_leastSum) := goodIn_app (goodIn_of _ (by decide +kernel)) ggX0_followRow_X0_leastSum
set_option maxRecDepth 20000 in
theorem ggX0_followRow_X5_names : GoodIn wsX0_followRow wsX5_names := goodIn_r _ [19, 20, 36, 37, 38, 39, 40, 41, 42, 43, 44] (by decide +kernel) (by decide +kernel)
set_option maxRecDepth 20000 in
theorem gX0_followRow_X5_names : GoodIn wsX0_followRow (wsV RX0 84 RX5 yX5_names wsX5_names) := goodIn_app (goodIn_of _ (by decide +kernel)) ggX0_followRow_X5_names
set_option maxRecDepth 20000 in
theorem ggX0_followRow_X5_weightOf : GoodIn wsX0_followRow wsX5_weightOf := goodIn_r _ [24, 25, 36, 37, 38, 39, 40, 41, 42, 43, 44] (by decide +kernel) (by decide +kernel)
set_option maxRecDepth 20000 in
theorem gX0_followRow_X5_weightOf : GoodIn wsX0_followRow (wsV RX0 100 RX5 yX5_weightOf wsX5_weightOf) := goodIn_app (goodIn_of _ (by decide +kernel)) ggX0_followRow_X5_weightOf
set_option maxRecDepth 20000 in
theorem ggX0_followRow_X0_isKnown : GoodIn wsX0_followRow wsX0_isKnown := goodIn_r _ [29, 4, 3, 30, 31, 32, 33, 34, 35] (by decide +kernel) (by decide +kernel)
set_option maxRecDepth 20000 in
theorem gX0_followRow_X0_isKnown : GoodIn wsX0_followRow (wsV RX0 87 RX0 yX0_isKnown wsX0_isKnown) := goodIn_app (goodIn_of _ (by decide +kernel)) ggX0_followRow_X0_isKnown
theorem dX0_followRow_0 : decode cX0_followRow 0 = .ok (.aload_n 0, 1) := by decide +kernel
theorem dX0_followRow_1 : decode cX0_followRow 1 = .ok (.getfield 9, 3) := by decide +kernel
theorem dX0_followRow_4 : decode cX0_followRow 4 = .ok (.iload_n 1, 1) := by decide +kernel
theorem dX0_followRow_5 : decode cX0_followRow 5 = .ok (.invokevirtual 94, 3) := by decide +kernel
theorem dX0_followRow_8 : decode cX0_followRow 8 = .ok (.aload_n 0, 1) := by decide +kernel
theorem dX0_followRow_9 : decode cX0_followRow 9 = .ok (.iload_n 1, 1) := by decide +kernel
theorem dX0_followRow_10 : decode cX0_followRow 10 = .ok (.invokevirtual 97, 3) := by decide +kernel
theorem dX0_followRow_13 : decode cX0_followRow 13 = .ok (.isub, 1) := by decide +kernel
theorem dX0_followRow_14 : decode cX0_followRow 14 = .ok (.istore_n 2, 1) := by decide +kernel
theorem dX0_followRow_15 : decode cX0_followRow 15 = .ok (.iload_n 2, 1) := by decide +kernel
theorem dX0_followRow_16 : decode cX0_followRow 16 = .ok (.ifCond .ge 9, 3) := by decide +kernel
theorem dX0_followRow_19 : decode cX0_followRow 19 = .ok (.aload_n 0, 1) := by decide +kernel
theorem dX0_followRow_20 : decode cX0_followRow 20 = .ok (.iconst 1, 1) := by decide +kernel
theorem dX0_followRow_21 : decode cX0_followRow 21 = .ok (.putfield 30, 3) := by decide +kernel
theorem dX0_followRow_24 : decode cX0_followRow 24 = .ok (.return_, 1) := by decide +kernel
theorem dX0_followRow_25 : decode cX0_followRow 25 = .ok (.aload_n 0, 1) := by decide +kernel
theorem dX0_followRow_26 : decode cX0_followRow 26 = .ok (.getfield 9, 3) := by decide +kernel
theorem dX0_followRow_29 : decode cX0_followRow 29 = .ok (.invokevirtual 84, 3) := by decide +kernel
theorem dX0_followRow_32 : decode cX0_followRow 32 = .ok (.istore_n 3, 1) := by decide +kernel
theorem dX0_followRow_33 : decode cX0_followRow 33 = .ok (.iconst 0, 1) := by decide +kernel
theorem dX0_followRow_34 : decode cX0_followRow 34 = .ok (.istore 4, 2) := by decide +kernel
theorem dX0_followRow_36 : decode cX0_followRow 36 = .ok (.iload 4, 2) := by decide +kernel
theorem dX0_followRow_38 : decode cX0_followRow 38 = .ok (.iload_n 3, 1) := by decide +kernel
theorem dX0_followRow_39 : decode cX0_followRow 39 = .ok (.if_icmp .ge 81, 3) := by decide +kernel
theorem dX0_followRow_42 : decode cX0_followRow 42 = .ok (.aload_n 0, 1) := by decide +kernel
theorem dX0_followRow_43 : decode cX0_followRow 43 = .ok (.getfield 9, 3) := by decide +kernel
theorem dX0_followRow_46 : decode cX0_followRow 46 = .ok (.iload_n 1, 1) := by decide +kernel
theorem dX0_followRow_47 : decode cX0_followRow 47 = .ok (.iload 4, 2) := by decide +kernel
theorem dX0_followRow_49 : decode cX0_followRow 49 = .ok (.invokevirtual 100, 3) := by decide +kernel
theorem dX0_followRow_52 : decode cX0_followRow 52 = .ok (.istore 5, 2) := by decide +kernel
theorem dX0_followRow_54 : decode cX0_followRow 54 = .ok (.iload 5, 2) := by decide +kernel
theorem dX0_followRow_56 : decode cX0_followRow 56 = .ok (.iload_n 2, 1) := by decide +kernel
theorem dX0_followRow_57 : decode cX0_followRow 57 = .ok (.if_icmp .le 28, 3) := by decide +kernel
theorem dX0_followRow_60 : decode cX0_followRow 60 = .ok (.aload_n 0, 1) := by decide +kernel
theorem dX0_followRow_61 : decode cX0_followRow 61 = .ok (.iload 4, 2) := by decide +kernel
theorem dX0_followRow_63 : decode cX0_followRow 63 = .ok (.invokevirtual 87, 3) := by decide +kernel
theorem dX0_followRow_66 : decode cX0_followRow 66 = .ok (.ifCond .ne 19, 3) := by decide +kernel
theorem dX0_followRow_69 : decode cX0_followRow 69 = .ok (.aload_n 0, 1) := by decide +kernel
theorem dX0_followRow_70 : decode cX0_followRow 70 = .ok (.dup, 1) := by decide +kernel
theorem dX0_followRow_71 : decode cX0_followRow 71 = .ok (.getfield 27, 3) := by decide +kernel
theorem dX0_followRow_74 : decode cX0_followRow 74 = .ok (.iconst 1, 1) := by decide +kernel
theorem dX0_followRow_75 : decode cX0_followRow 75 = .ok (.iload 4, 2) := by decide +kernel
theorem dX0_followRow_77 : decode cX0_followRow 77 = .ok (.ishl, 1) := by decide +kernel
theorem dX0_followRow_78 : decode cX0_followRow 78 = .ok (.ior, 1) := by decide +kernel
theorem dX0_followRow_79 : decode cX0_followRow 79 = .ok (.putfield 27, 3) := by decide +kernel
theorem dX0_followRow_82 : decode cX0_followRow 82 = .ok (.goto 32, 3) := by decide +kernel
theorem dX0_followRow_85 : decode cX0_followRow 85 = .ok (.iload 5, 2) := by decide +kernel
theorem dX0_followRow_87 : decode cX0_followRow 87 = .ok (.ineg, 1) := by decide +kernel
theorem dX0_followRow_88 : decode cX0_followRow 88 = .ok (.iload_n 2, 1) := by decide +kernel
theorem dX0_followRow_89 : decode cX0_followRow 89 = .ok (.if_icmp .le 25, 3) := by decide +kernel
theorem dX0_followRow_92 : decode cX0_followRow 92 = .ok (.aload_n 0, 1) := by decide +kernel
theorem dX0_followRow_93 : decode cX0_followRow 93 = .ok (.iload 4, 2) := by decide +kernel
theorem dX0_followRow_95 : decode cX0_followRow 95 = .ok (.invokevirtual 87, 3) := by decide +kernel
theorem dX0_followRow_98 : decode cX0_followRow 98 = .ok (.ifCond .ne 16, 3) := by decide +kernel
theorem dX0_followRow_101 : decode cX0_followRow 101 = .ok (.aload_n 0, 1) := by decide +kernel
theorem dX0_followRow_102 : decode cX0_followRow 102 = .ok (.dup, 1) := by decide +kernel
theorem dX0_followRow_103 : decode cX0_followRow 103 = .ok (.getfield 23, 3) := by decide +kernel
theorem dX0_followRow_106 : decode cX0_followRow 106 = .ok (.iconst 1, 1) := by decide +kernel
theorem dX0_followRow_107 : decode cX0_followRow 107 = .ok (.iload 4, 2) := by decide +kernel
theorem dX0_followRow_109 : decode cX0_followRow 109 = .ok (.ishl, 1) := by decide +kernel
theorem dX0_followRow_110 : decode cX0_followRow 110 = .ok (.ior, 1) := by decide +kernel
theorem dX0_followRow_111 : decode cX0_followRow 111 = .ok (.putfield 23, 3) := by decide +kernel
theorem dX0_followRow_114 : decode cX0_followRow 114 = .ok (.iinc 4 1, 3) := by decide +kernel
theorem dX0_followRow_117 : decode cX0_followRow 117 = .ok (.goto (-81), 3) := by decide +kernel
theorem dX0_followRow_120 : decode cX0_followRow 120 = .ok (.return_, 1) := by decide +kernel
set_option maxRecDepth 20000 in
theorem ggX0_leastSum_X5_names : GoodIn wsX0_leastSum wsX5_names := goodIn_r _ [8, 9, 21, 22, 23, 24, 25, 26, 27, 28, 29] (by decide +kernel) (by decide +kernel)
set_option maxRecDepth 20000 in
theorem gX0_leastSum_X5_names : GoodIn wsX0_leastSum (wsV RX0 84 RX5 yX5_names wsX5_names) := goodIn_app (goodIn_of _ (by decide +kernel)) ggX0_leastSum_X5_names
set_option maxRecDepth 20000 in
theorem ggX0_leastSum_X5_weightOf : GoodIn wsX0_leastSum wsX5_weightOf := goodIn_r _ [13, 14, 21, 22, 23, 24, 25, 26, 27, 28, 29] (by decide +kernel) (by decide +kernel)
set_option maxRecDepth 20000 in
theorem gX0_leastSum_X5_weightOf : GoodIn wsX0_leastSum (wsV RX0 100 RX5 yX5_weightOf wsX5_weightOf) := goodIn_app (goodIn_of _ (by decide +kernel)) ggX0_leastSum_X5_weightOf
theorem dX0_leastSum_0 : decode cX0_leastSum 0 = .ok (.iconst 0, 1) := by decide +kernel
theorem dX0_leastSum_1 : decode cX0_leastSum 1 = .ok (.istore_n 2, 1) := by decide +kernel
theorem dX0_leastSum_2 : decode cX0_leastSum 2 = .ok (.aload_n 0, 1) := by decide +kernel
theorem dX0_leastSum_3 : decode cX0_leastSum 3 = .ok (.getfield 9, 3) := by decide +kernel
theorem dX0_leastSum_6 : decode cX0_leastSum 6 = .ok (.invokevirtual 84, 3) := by decide +kernel
theorem dX0_leastSum_9 : decode cX0_leastSum 9 = .ok (.istore_n 3, 1) := by decide +kernel
theorem dX0_leastSum_10 : decode cX0_leastSum 10 = .ok (.iconst 0, 1) := by decide +kernel
theorem dX0_leastSum_11 : decode cX0_leastSum 11 = .ok (.istore 4, 2) := by decide +kernel
theorem dX0_leastSum_13 : decode cX0_leastSum 13 = .ok (.iload 4, 2) := by decide +kernel
theorem dX0_leastSum_15 : decode cX0_leastSum 15 = .ok (.iload_n 3, 1) := by decide +kernel
theorem dX0_leastSum_16 : decode cX0_leastSum 16 = .ok (.if_icmp .ge 56, 3) := by decide +kernel
theorem dX0_leastSum_19 : decode cX0_leastSum 19 = .ok (.aload_n 0, 1) := by decide +kernel
theorem dX0_leastSum_20 : decode cX0_leastSum 20 = .ok (.getfield 9, 3) := by decide +kernel
theorem dX0_leastSum_23 : decode cX0_leastSum 23 = .ok (.iload_n 1, 1) := by decide +kernel
theorem dX0_leastSum_24 : decode cX0_leastSum 24 = .ok (.iload 4, 2) := by decide +kernel
theorem dX0_leastSum_26 : decode cX0_leastSum 26 = .ok (.invokevirtual 100, 3) := by decide +kernel
theorem dX0_leastSum_29 : decode cX0_leastSum 29 = .ok (.istore 5, 2) := by decide +kernel
theorem dX0_leastSum_31 : decode cX0_leastSum 31 = .ok (.aload_n 0, 1) := by decide +kernel
theorem dX0_leastSum_32 : decode cX0_leastSum 32 = .ok (.getfield 23, 3) := by decide +kernel
theorem dX0_leastSum_35 : decode cX0_leastSum 35 = .ok (.iload 4, 2) := by decide +kernel
theorem dX0_leastSum_37 : decode cX0_leastSum 37 = .ok (.ishr, 1) := by decide +kernel
theorem dX0_leastSum_38 : decode cX0_leastSum 38 = .ok (.iconst 1, 1) := by decide +kernel
theorem dX0_leastSum_39 : decode cX0_leastSum 39 = .ok (.iand, 1) := by decide +kernel
theorem dX0_leastSum_40 : decode cX0_leastSum 40 = .ok (.iconst 1, 1) := by decide +kernel
theorem dX0_leastSum_41 : decode cX0_leastSum 41 = .ok (.if_icmp .eq 20, 3) := by decide +kernel
theorem dX0_leastSum_44 : decode cX0_leastSum 44 = .ok (.iload 5, 2) := by decide +kernel
theorem dX0_leastSum_46 : decode cX0_leastSum 46 = .ok (.ifCond .ge 20, 3) := by decide +kernel
theorem dX0_leastSum_49 : decode cX0_leastSum 49 = .ok (.aload_n 0, 1) := by decide +kernel
theorem dX0_leastSum_50 : decode cX0_leastSum 50 = .ok (.getfield 27, 3) := by decide +kernel
theorem dX0_leastSum_53 : decode cX0_leastSum 53 = .ok (.iload 4, 2) := by decide +kernel
theorem dX0_leastSum_55 : decode cX0_leastSum 55 = .ok (.ishr, 1) := by decide +kernel
theorem dX0_leastSum_56 : decode cX0_leastSum 56 = .ok (.iconst 1, 1) := by decide +kernel
theorem dX0_leastSum_57 : decode cX0_leastSum 57 = .ok (.iand, 1) := by decide +kernel
theorem dX0_leastSum_58 : decode cX0_leastSum 58 = .ok (.ifCond .ne 8, 3) := by decide +kernel
theorem dX0_leastSum_61 : decode cX0_leastSum 61 = .ok (.iload_n 2, 1) := by decide +kernel
theorem dX0_leastSum_62 : decode cX0_leastSum 62 = .ok (.iload 5, 2) := by decide +kernel
theorem dX0_leastSum_64 : decode cX0_leastSum 64 = .ok (.iadd, 1) := by decide +kernel
theorem dX0_leastSum_65 : decode cX0_leastSum 65 = .ok (.istore_n 2, 1) := by decide +kernel
theorem dX0_leastSum_66 : decode cX0_leastSum 66 = .ok (.iinc 4 1, 3) := by decide +kernel
theorem dX0_leastSum_69 : decode cX0_leastSum 69 = .ok (.goto (-56), 3) := by decide +kernel
theorem dX0_leastSum_72 : decode cX0_leastSum 72 = .ok (.iload_n 2, 1) := by decide +kernel
theorem dX0_leastSum_73 : decode cX0_leastSum 73 = .ok (.ireturn, 1) := by decide +kernel
theorem dX0_isKnown_0 : decode cX0_isKnown 0 = .ok (.aload_n 0, 1) := by decide +kernel
theorem dX0_isKnown_1 : decode cX0_isKnown 1 = .ok (.getfield 23, 3) := by decide +kernel
theorem dX0_isKnown_4 : decode cX0_isKnown 4 = .ok (.aload_n 0, 1) := by decide +kernel
theorem dX0_isKnown_5 : decode cX0_isKnown 5 = .ok (.getfield 27, 3) := by decide +kernel
theorem dX0_isKnown_8 : decode cX0_isKnown 8 = .ok (.ior, 1) := by decide +kernel
theorem dX0_isKnown_9 : decode cX0_isKnown 9 = .ok (.iload_n 1, 1) := by decide +kernel
theorem dX0_isKnown_10 : decode cX0_isKnown 10 = .ok (.ishr, 1) := by decide +kernel
theorem dX0_isKnown_11 : decode cX0_isKnown 11 = .ok (.iconst 1, 1) := by decide +kernel
theorem dX0_isKnown_12 : decode cX0_isKnown 12 = .ok (.iand, 1) := by decide +kernel
theorem dX0_isKnown_13 : decode cX0_isKnown 13 = .ok (.iconst 1, 1) := by decide +kernel
theorem dX0_isKnown_14 : decode cX0_isKnown 14 = .ok (.if_icmp .ne 7, 3) := by decide +kernel
theorem dX0_isKnown_17 : decode cX0_isKnown 17 = .ok (.iconst 1, 1) := by decide +kernel
theorem dX0_isKnown_18 : decode cX0_isKnown 18 = .ok (.goto 4, 3) := by decide +kernel
theorem dX0_isKnown_21 : decode cX0_isKnown 21 = .ok (.iconst 0, 1) := by decide +kernel
theorem dX0_isKnown_22 : decode cX0_isKnown 22 = .ok (.ireturn, 1) := by decide +kernel
theorem dX1_init_0 : decode cX1_init 0 = .ok (.aload_n 0, 1) := by decide +kernel
theorem dX1_init_1 : decode cX1_init 1 = .ok (.invokespecial 5, 3) := by decide +kernel
theorem dX1_init_4 : decode cX1_init 4 = .ok (.aload_n 0, 1) := by decide +kernel
theorem dX1_init_5 : decode cX1_init 5 = .ok (.sipush 8192, 3) := by decide +kernel
theorem dX1_init_8 : decode cX1_init 8 = .ok (.newarray .int, 2) := by decide +kernel
theorem dX1_init_10 : decode cX1_init 10 = .ok (.putfield 11, 3) := by decide +kernel
theorem dX1_init_13 : decode cX1_init 13 = .ok (.aload_n 0, 1) := by decide +kernel
theorem dX1_init_14 : decode cX1_init 14 = .ok (.sipush 512, 3) := by decide +kernel
theorem dX1_init_17 : decode cX1_init 17 = .ok (.newarray .int, 2) := by decide +kernel
theorem dX1_init_19 : decode cX1_init 19 = .ok (.putfield 15, 3) := by decide +kernel
theorem dX1_init_22 : decode cX1_init 22 = .ok (.return_, 1) := by decide +kernel
theorem dX1_howMany_0 : decode cX1_howMany 0 = .ok (.aload_n 0, 1) := by decide +kernel
theorem dX1_howMany_1 : decode cX1_howMany 1 = .ok (.getfield 18, 3) := by decide +kernel
theorem dX1_howMany_4 : decode cX1_howMany 4 = .ok (.ireturn, 1) := by decide +kernel
theorem dX1_at_0 : decode cX1_at 0 = .ok (.iload_n 1, 1) := by decide +kernel
theorem dX1_at_1 : decode cX1_at 1 = .ok (.ifCond .lt 20, 3) := by decide +kernel
theorem dX1_at_4 : decode cX1_at 4 = .ok (.iload_n 1, 1) := by decide +kernel
theorem dX1_at_5 : decode cX1_at 5 = .ok (.aload_n 0, 1) := by decide +kernel
theorem dX1_at_6 : decode cX1_at 6 = .ok (.getfield 18, 3) := by decide +kernel
theorem dX1_at_9 : decode cX1_at 9 = .ok (.if_icmp .ge 12, 3) := by decide +kernel
theorem dX1_at_12 : decode cX1_at 12 = .ok (.aload_n 0, 1) := by decide +kernel
theorem dX1_at_13 : decode cX1_at 13 = .ok (.getfield 11, 3) := by decide +kernel
theorem dX1_at_16 : decode cX1_at 16 = .ok (.iload_n 1, 1) := by decide +kernel
theorem dX1_at_17 : decode cX1_at 17 = .ok (.iaload, 1) := by decide +kernel
theorem dX1_at_18 : decode cX1_at 18 = .ok (.goto 4, 3) := by decide +kernel
theorem dX1_at_21 : decode cX1_at 21 = .ok (.iconst 0, 1) := by decide +kernel
theorem dX1_at_22 : decode cX1_at 22 = .ok (.ireturn, 1) := by decide +kernel
set_option maxRecDepth 20000 in
theorem ggX1_removeAll_J7_fill_53178 : GoodIn wsX1_removeAll wsJ7_fill_53178 := goodIn_r _ [6] (by decide +kernel) (by decide +kernel)
set_option maxRecDepth 20000 in
theorem gX1_removeAll_J7_fill_53178 : GoodIn wsX1_removeAll (va_wsS RX1 22 yJ7_fill_53178 wsJ7_fill_53178) := goodIn_app (goodIn_of _ (by decide +kernel)) ggX1_removeAll_J7_fill_53178
theorem dX1_removeAll_0 : decode cX1_removeAll 0 = .ok (.aload_n 0, 1) := by decide +kernel
theorem dX1_removeAll_1 : decode cX1_removeAll 1 = .ok (.iconst 0, 1) := by decide +kernel
theorem dX1_removeAll_2 : decode cX1_removeAll 2 = .ok (.putfield 18, 3) := by decide +kernel
theorem dX1_removeAll_5 : decode cX1_removeAll 5 = .ok (.aload_n 0, 1) := by decide +kernel
theorem dX1_removeAll_6 : decode cX1_removeAll 6 = .ok (.getfield 15, 3) := by decide +kernel
theorem dX1_removeAll_9 : decode cX1_removeAll 9 = .ok (.iconst 0, 1) := by decide +kernel
theorem dX1_removeAll_10 : decode cX1_removeAll 10 = .ok (.invokestatic 22, 3) := by decide +kernel
theorem dX1_removeAll_13 : decode cX1_removeAll 13 = .ok (.return_, 1) := by decide +kernel
set_option maxRecDepth 20000 in
theorem ggX1_add_X1_bar : GoodIn wsX1_add wsX1_bar := goodIn_r _ [7, 8, 9, 10, 11] (by decide +kernel) (by decide +kernel)
set_option maxRecDepth 20000 in
theorem gX1_add_X1_bar : GoodIn wsX1_add (wsV RX1 28 RX1 yX1_bar wsX1_bar) := goodIn_app (goodIn_of _ (by decide +kernel)) ggX1_add_X1_bar
theorem dX1_add_0 : decode cX1_add 0 = .ok (.aload_n 0, 1) := by decide +kernel
theorem dX1_add_1 : decode cX1_add 1 = .ok (.getfield 18, 3) := by decide +kernel
theorem dX1_add_4 : decode cX1_add 4 = .ok (.sipush 8192, 3) := by decide +kernel
theorem dX1_add_7 : decode cX1_add 7 = .ok (.if_icmp .lt 4, 3) := by decide +kernel
theorem dX1_add_10 : decode cX1_add 10 = .ok (.return_, 1) := by decide +kernel
theorem dX1_add_11 : decode cX1_add 11 = .ok (.aload_n 0, 1) := by decide +kernel
theorem dX1_add_12 : decode cX1_add 12 = .ok (.getfield 11, 3) := by decide +kernel
theorem dX1_add_15 : decode cX1_add 15 = .ok (.aload_n 0, 1) := by decide +kernel
theorem dX1_add_16 : decode cX1_add 16 = .ok (.getfield 18, 3) := by decide +kernel
theorem dX1_add_19 : decode cX1_add 19 = .ok (.iload_n 1, 1) := by decide +kernel
theorem dX1_add_20 : decode cX1_add 20 = .ok (.iastore, 1) := by decide +kernel
theorem dX1_add_21 : decode cX1_add 21 = .ok (.aload_n 0, 1) := by decide +kernel
theorem dX1_add_22 : decode cX1_add 22 = .ok (.dup, 1) := by decide +kernel
theorem dX1_add_23 : decode cX1_add 23 = .ok (.getfield 18, 3) := by decide +kernel
theorem dX1_add_26 : decode cX1_add 26 = .ok (.iconst 1, 1) := by decide +kernel
theorem dX1_add_27 : decode cX1_add 27 = .ok (.iadd, 1) := by decide +kernel
theorem dX1_add_28 : decode cX1_add 28 = .ok (.putfield 18, 3) := by decide +kernel
theorem dX1_add_31 : decode cX1_add 31 = .ok (.iload_n 2, 1) := by decide +kernel
theorem dX1_add_32 : decode cX1_add 32 = .ok (.iload_n 1, 1) := by decide +kernel
theorem dX1_add_33 : decode cX1_add 33 = .ok (.iconst (-1), 1) := by decide +kernel
theorem dX1_add_34 : decode cX1_add 34 = .ok (.ixor, 1) := by decide +kernel
theorem dX1_add_35 : decode cX1_add 35 = .ok (.iand, 1) := by decide +kernel
theorem dX1_add_36 : decode cX1_add 36 = .ok (.istore_n 3, 1) := by decide +kernel
theorem dX1_add_37 : decode cX1_add 37 = .ok (.iload_n 3, 1) := by decide +kernel
theorem dX1_add_38 : decode cX1_add 38 = .ok (.istore 4, 2) := by decide +kernel
theorem dX1_add_40 : decode cX1_add 40 = .ok (.iload 4, 2) := by decide +kernel
theorem dX1_add_42 : decode cX1_add 42 = .ok (.ifCond .le 22, 3) := by decide +kernel
theorem dX1_add_45 : decode cX1_add 45 = .ok (.aload_n 0, 1) := by decide +kernel
theorem dX1_add_46 : decode cX1_add 46 = .ok (.iload_n 1, 1) := by decide +kernel
theorem dX1_add_47 : decode cX1_add 47 = .ok (.iload 4, 2) := by decide +kernel
theorem dX1_add_49 : decode cX1_add 49 = .ok (.ior, 1) := by decide +kernel
theorem dX1_add_50 : decode cX1_add 50 = .ok (.invokevirtual 28, 3) := by decide +kernel
theorem dX1_add_53 : decode cX1_add 53 = .ok (.iload 4, 2) := by decide +kernel
theorem dX1_add_55 : decode cX1_add 55 = .ok (.iconst 1, 1) := by decide +kernel
theorem dX1_add_56 : decode cX1_add 56 = .ok (.isub, 1) := by decide +kernel
theorem dX1_add_57 : decode cX1_add 57 = .ok (.iload_n 3, 1) := by decide +kernel
theorem dX1_add_58 : decode cX1_add 58 = .ok (.iand, 1) := by decide +kernel
theorem dX1_add_59 : decode cX1_add 59 = .ok (.istore 4, 2) := by decide +kernel
theorem dX1_add_61 : decode cX1_add 61 = .ok (.goto (-21), 3) := by decide +kernel
theorem dX1_add_64 : decode cX1_add 64 = .ok (.aload_n 0, 1) := by decide +kernel
theorem dX1_add_65 : decode cX1_add 65 = .ok (.iload_n 1, 1) := by decide +kernel
theorem dX1_add_66 : decode cX1_add 66 = .ok (.invokevirtual 28, 3) := by decide +kernel
theorem dX1_add_69 : decode cX1_add 69 = .ok (.return_, 1) := by decide +kernel
theorem dX1_bar_0 : decode cX1_bar 0 = .ok (.aload_n 0, 1) := by decide +kernel
theorem dX1_bar_1 : decode cX1_bar 1 = .ok (.getfield 15, 3) := by decide +kernel
theorem dX1_bar_4 : decode cX1_bar 4 = .ok (.iload_n 1, 1) := by decide +kernel
theorem dX1_bar_5 : decode cX1_bar 5 = .ok (.iconst 5, 1) := by decide +kernel
theorem dX1_bar_6 : decode cX1_bar 6 = .ok (.ishr, 1) := by decide +kernel
theorem dX1_bar_7 : decode cX1_bar 7 = .ok (.sipush 511, 3) := by decide +kernel
theorem dX1_bar_10 : decode cX1_bar 10 = .ok (.iand, 1) := by decide +kernel
theorem dX1_bar_11 : decode cX1_bar 11 = .ok (.dup2, 1) := by decide +kernel
theorem dX1_bar_12 : decode cX1_bar 12 = .ok (.iaload, 1) := by decide +kernel
theorem dX1_bar_13 : decode cX1_bar 13 = .ok (.iconst 1, 1) := by decide +kernel
theorem dX1_bar_14 : decode cX1_bar 14 = .ok (.iload_n 1, 1) := by decide +kernel
theorem dX1_bar_15 : decode cX1_bar 15 = .ok (.bipush 31, 2) := by decide +kernel
theorem dX1_bar_17 : decode cX1_bar 17 = .ok (.iand, 1) := by decide +kernel
theorem dX1_bar_18 : decode cX1_bar 18 = .ok (.ishl, 1) := by decide +kernel
theorem dX1_bar_19 : decode cX1_bar 19 = .ok (.ior, 1) := by decide +kernel
theorem dX1_bar_20 : decode cX1_bar 20 = .ok (.iastore, 1) := by decide +kernel
theorem dX1_bar_21 : decode cX1_bar 21 = .ok (.return_, 1) := by decide +kernel
theorem dX1_bars_0 : decode cX1_bars 0 = .ok (.aload_n 0, 1) := by decide +kernel
theorem dX1_bars_1 : decode cX1_bars 1 = .ok (.getfield 15, 3) := by decide +kernel
theorem dX1_bars_4 : decode cX1_bars 4 = .ok (.iload_n 1, 1) := by decide +kernel
theorem dX1_bars_5 : decode cX1_bars 5 = .ok (.iconst 5, 1) := by decide +kernel
theorem dX1_bars_6 : decode cX1_bars 6 = .ok (.ishr, 1) := by decide +kernel
theorem dX1_bars_7 : decode cX1_bars 7 = .ok (.sipush 511, 3) := by decide +kernel
theorem dX1_bars_10 : decode cX1_bars 10 = .ok (.iand, 1) := by decide +kernel
theorem dX1_bars_11 : decode cX1_bars 11 = .ok (.iaload, 1) := by decide +kernel
theorem dX1_bars_12 : decode cX1_bars 12 = .ok (.istore_n 2, 1) := by decide +kernel
theorem dX1_bars_13 : decode cX1_bars 13 = .ok (.iload_n 2, 1) := by decide +kernel
theorem dX1_bars_14 : decode cX1_bars 14 = .ok (.iload_n 1, 1) := by decide +kernel
theorem dX1_bars_15 : decode cX1_bars 15 = .ok (.bipush 31, 2) := by decide +kernel
theorem dX1_bars_17 : decode cX1_bars 17 = .ok (.iand, 1) := by decide +kernel
theorem dX1_bars_18 : decode cX1_bars 18 = .ok (.ishr, 1) := by decide +kernel
theorem dX1_bars_19 : decode cX1_bars 19 = .ok (.iconst 1, 1) := by decide +kernel
theorem dX1_bars_20 : decode cX1_bars 20 = .ok (.iand, 1) := by decide +kernel
theorem dX1_bars_21 : decode cX1_bars 21 = .ok (.iconst 1, 1) := by decide +kernel
theorem dX1_bars_22 : decode cX1_bars 22 = .ok (.if_icmp .ne 7, 3) := by decide +kernel
theorem dX1_bars_25 : decode cX1_bars 25 = .ok (.iconst 1, 1) := by decide +kernel
theorem dX1_bars_26 : decode cX1_bars 26 = .ok (.goto 4, 3) := by decide +kernel
theorem dX1_bars_29 : decode cX1_bars 29 = .ok (.iconst 0, 1) := by decide +kernel
theorem dX1_bars_30 : decode cX1_bars 30 = .ok (.ireturn, 1) := by decide +kernel
theorem dX2_init_0 : decode cX2_init 0 = .ok (.aload_n 0, 1) := by decide +kernel
theorem dX2_init_1 : decode cX2_init 1 = .ok (.invokespecial 3, 3) := by decide +kernel
theorem dX2_init_4 : decode cX2_init 4 = .ok (.aload_n 0, 1) := by decide +kernel
theorem dX2_init_5 : decode cX2_init 5 = .ok (.bipush 40, 2) := by decide +kernel
theorem dX2_init_7 : decode cX2_init 7 = .ok (.newarray .int, 2) := by decide +kernel
theorem dX2_init_9 : decode cX2_init 9 = .ok (.putfield 9, 3) := by decide +kernel
theorem dX2_init_12 : decode cX2_init 12 = .ok (.aload_n 0, 1) := by decide +kernel
theorem dX2_init_13 : decode cX2_init 13 = .ok (.bipush 40, 2) := by decide +kernel
theorem dX2_init_15 : decode cX2_init 15 = .ok (.newarray .int, 2) := by decide +kernel
theorem dX2_init_17 : decode cX2_init 17 = .ok (.putfield 15, 3) := by decide +kernel
theorem dX2_init_20 : decode cX2_init 20 = .ok (.return_, 1) := by decide +kernel
theorem dX2_howMany_0 : decode cX2_howMany 0 = .ok (.aload_n 0, 1) := by decide +kernel
theorem dX2_howMany_1 : decode cX2_howMany 1 = .ok (.getfield 18, 3) := by decide +kernel
theorem dX2_howMany_4 : decode cX2_howMany 4 = .ok (.ireturn, 1) := by decide +kernel
theorem dX2_add_0 : decode cX2_add 0 = .ok (.aload_n 0, 1) := by decide +kernel
theorem dX2_add_1 : decode cX2_add 1 = .ok (.getfield 18, 3) := by decide +kernel
theorem dX2_add_4 : decode cX2_add 4 = .ok (.bipush 40, 2) := by decide +kernel
theorem dX2_add_6 : decode cX2_add 6 = .ok (.if_icmp .ge 33, 3) := by decide +kernel
theorem dX2_add_9 : decode cX2_add 9 = .ok (.aload_n 0, 1) := by decide +kernel
theorem dX2_add_10 : decode cX2_add 10 = .ok (.getfield 9, 3) := by decide +kernel
theorem dX2_add_13 : decode cX2_add 13 = .ok (.aload_n 0, 1) := by decide +kernel
theorem dX2_add_14 : decode cX2_add 14 = .ok (.getfield 18, 3) := by decide +kernel
theorem dX2_add_17 : decode cX2_add 17 = .ok (.iload_n 1, 1) := by decide +kernel
theorem dX2_add_18 : decode cX2_add 18 = .ok (.iastore, 1) := by decide +kernel
theorem dX2_add_19 : decode cX2_add 19 = .ok (.aload_n 0, 1) := by decide +kernel
theorem dX2_add_20 : decode cX2_add 20 = .ok (.getfield 15, 3) := by decide +kernel
theorem dX2_add_23 : decode cX2_add 23 = .ok (.aload_n 0, 1) := by decide +kernel
theorem dX2_add_24 : decode cX2_add 24 = .ok (.getfield 18, 3) := by decide +kernel
theorem dX2_add_27 : decode cX2_add 27 = .ok (.iload_n 2, 1) := by decide +kernel
theorem dX2_add_28 : decode cX2_add 28 = .ok (.iastore, 1) := by decide +kernel
theorem dX2_add_29 : decode cX2_add 29 = .ok (.aload_n 0, 1) := by decide +kernel
theorem dX2_add_30 : decode cX2_add 30 = .ok (.dup, 1) := by decide +kernel
theorem dX2_add_31 : decode cX2_add 31 = .ok (.getfield 18, 3) := by decide +kernel
theorem dX2_add_34 : decode cX2_add 34 = .ok (.iconst 1, 1) := by decide +kernel
theorem dX2_add_35 : decode cX2_add 35 = .ok (.iadd, 1) := by decide +kernel
theorem dX2_add_36 : decode cX2_add 36 = .ok (.putfield 18, 3) := by decide +kernel
theorem dX2_add_39 : decode cX2_add 39 = .ok (.return_, 1) := by decide +kernel
theorem dX2_removeAll_0 : decode cX2_removeAll 0 = .ok (.aload_n 0, 1) := by decide +kernel
theorem dX2_removeAll_1 : decode cX2_removeAll 1 = .ok (.iconst 0, 1) := by decide +kernel
theorem dX2_removeAll_2 : decode cX2_removeAll 2 = .ok (.putfield 18, 3) := by decide +kernel
theorem dX2_removeAll_5 : decode cX2_removeAll 5 = .ok (.return_, 1) := by decide +kernel
theorem dX2_wantedTrue_0 : decode cX2_wantedTrue 0 = .ok (.aload_n 0, 1) := by decide +kernel
theorem dX2_wantedTrue_1 : decode cX2_wantedTrue 1 = .ok (.getfield 9, 3) := by decide +kernel
theorem dX2_wantedTrue_4 : decode cX2_wantedTrue 4 = .ok (.iload_n 1, 1) := by decide +kernel
theorem dX2_wantedTrue_5 : decode cX2_wantedTrue 5 = .ok (.iaload, 1) := by decide +kernel
theorem dX2_wantedTrue_6 : decode cX2_wantedTrue 6 = .ok (.ireturn, 1) := by decide +kernel
theorem dX2_wantedFalse_0 : decode cX2_wantedFalse 0 = .ok (.aload_n 0, 1) := by decide +kernel
theorem dX2_wantedFalse_1 : decode cX2_wantedFalse 1 = .ok (.getfield 15, 3) := by decide +kernel
theorem dX2_wantedFalse_4 : decode cX2_wantedFalse 4 = .ok (.iload_n 1, 1) := by decide +kernel
theorem dX2_wantedFalse_5 : decode cX2_wantedFalse 5 = .ok (.iaload, 1) := by decide +kernel
theorem dX2_wantedFalse_6 : decode cX2_wantedFalse 6 = .ok (.ireturn, 1) := by decide +kernel
theorem dX3_init_0 : decode cX3_init 0 = .ok (.aload_n 0, 1) := by decide +kernel
theorem dX3_init_1 : decode cX3_init 1 = .ok (.invokespecial 5, 3) := by decide +kernel
theorem dX3_init_4 : decode cX3_init 4 = .ok (.aload_n 0, 1) := by decide +kernel
theorem dX3_init_5 : decode cX3_init 5 = .ok (.sipush 16384, 3) := by decide +kernel
theorem dX3_init_8 : decode cX3_init 8 = .ok (.newarray .long, 2) := by decide +kernel
theorem dX3_init_10 : decode cX3_init 10 = .ok (.putfield 11, 3) := by decide +kernel
theorem dX3_init_13 : decode cX3_init 13 = .ok (.aload_n 0, 1) := by decide +kernel
theorem dX3_init_14 : decode cX3_init 14 = .ok (.bipush 14, 2) := by decide +kernel
theorem dX3_init_16 : decode cX3_init 16 = .ok (.newarray .int, 2) := by decide +kernel
theorem dX3_init_18 : decode cX3_init 18 = .ok (.putfield 15, 3) := by decide +kernel
theorem dX3_init_21 : decode cX3_init 21 = .ok (.aload_n 0, 1) := by decide +kernel
theorem dX3_init_22 : decode cX3_init 22 = .ok (.sipush 128, 3) := by decide +kernel
theorem dX3_init_25 : decode cX3_init 25 = .ok (.newarray .int, 2) := by decide +kernel
theorem dX3_init_27 : decode cX3_init 27 = .ok (.putfield 19, 3) := by decide +kernel
theorem dX3_init_30 : decode cX3_init 30 = .ok (.aload_n 0, 1) := by decide +kernel
theorem dX3_init_31 : decode cX3_init 31 = .ok (.sipush 128, 3) := by decide +kernel
theorem dX3_init_34 : decode cX3_init 34 = .ok (.newarray .int, 2) := by decide +kernel
theorem dX3_init_36 : decode cX3_init 36 = .ok (.putfield 22, 3) := by decide +kernel
theorem dX3_init_39 : decode cX3_init 39 = .ok (.aload_n 0, 1) := by decide +kernel
theorem dX3_init_40 : decode cX3_init 40 = .ok (.aload_n 1, 1) := by decide +kernel
theorem dX3_init_41 : decode cX3_init 41 = .ok (.putfield 25, 3) := by decide +kernel
theorem dX3_init_44 : decode cX3_init 44 = .ok (.return_, 1) := by decide +kernel
theorem dX3_outdate_0 : decode cX3_outdate 0 = .ok (.aload_n 0, 1) := by decide +kernel
theorem dX3_outdate_1 : decode cX3_outdate 1 = .ok (.iconst 0, 1) := by decide +kernel
theorem dX3_outdate_2 : decode cX3_outdate 2 = .ok (.putfield 29, 3) := by decide +kernel
theorem dX3_outdate_5 : decode cX3_outdate 5 = .ok (.aload_n 0, 1) := by decide +kernel
theorem dX3_outdate_6 : decode cX3_outdate 6 = .ok (.iconst 0, 1) := by decide +kernel
theorem dX3_outdate_7 : decode cX3_outdate 7 = .ok (.putfield 33, 3) := by decide +kernel
theorem dX3_outdate_10 : decode cX3_outdate 10 = .ok (.return_, 1) := by decide +kernel
theorem dX3_setCost_0 : decode cX3_setCost 0 = .ok (.aload_n 0, 1) := by decide +kernel
theorem dX3_setCost_1 : decode cX3_setCost 1 = .ok (.getfield 15, 3) := by decide +kernel
theorem dX3_setCost_4 : decode cX3_setCost 4 = .ok (.iload_n 1, 1) := by decide +kernel
theorem dX3_setCost_5 : decode cX3_setCost 5 = .ok (.iload_n 2, 1) := by decide +kernel
theorem dX3_setCost_6 : decode cX3_setCost 6 = .ok (.iastore, 1) := by decide +kernel
theorem dX3_setCost_7 : decode cX3_setCost 7 = .ok (.aload_n 0, 1) := by decide +kernel
theorem dX3_setCost_8 : decode cX3_setCost 8 = .ok (.iconst 0, 1) := by decide +kernel
theorem dX3_setCost_9 : decode cX3_setCost 9 = .ok (.putfield 29, 3) := by decide +kernel
theorem dX3_setCost_12 : decode cX3_setCost 12 = .ok (.return_, 1) := by decide +kernel
set_option maxRecDepth 20000 in
theorem ggX3_removeCosts_J7_fill_53178 : GoodIn wsX3_removeCosts wsJ7_fill_53178 := goodIn_r _ [5] (by decide +kernel) (by decide +kernel)
set_option maxRecDepth 20000 in
theorem gX3_removeCosts_J7_fill_53178 : GoodIn wsX3_removeCosts (va_wsS RX3 36 yJ7_fill_53178 wsJ7_fill_53178) := goodIn_app (goodIn_of _ (by decide +kernel)) ggX3_removeCosts_J7_fill_53178
theorem dX3_removeCosts_0 : decode cX3_removeCosts 0 = .ok (.aload_n 0, 1) := by decide +kernel
theorem dX3_removeCosts_1 : decode cX3_removeCosts 1 = .ok (.getfield 15, 3) := by decide +kernel
theorem dX3_removeCosts_4 : decode cX3_removeCosts 4 = .ok (.iconst 0, 1) := by decide +kernel
theorem dX3_removeCosts_5 : decode cX3_removeCosts 5 = .ok (.invokestatic 36, 3) := by decide +kernel
theorem dX3_removeCosts_8 : decode cX3_removeCosts 8 = .ok (.return_, 1) := by decide +kernel
set_option maxRecDepth 20000 in
theorem ggX3_modelCount_X3_countAll : GoodIn wsX3_modelCount wsX3_countAll := goodIn_r _ [6, 7, 1, 8, 9, 10, 11, 12, 13, 14, 15, 16, 5, 17, 18, 19, 20, 21, 22, 23, 24, 25, 26, 27, 28, 29, 30, 31, 32, 33, 34, 35, 36, 37, 38, 39, 40, 41, 42, 43, 44, 45, 46, 47, 48, 49, 50, 51, 52, 53, 54, 55, 56, 57, 58, 59, 60, 61, 62, 63, 64, 65, 66, 67, 68, 69, 70, 71, 72, 73, 74, 75, 76, 77, 78, 79, 80, 81, 82, 83, 84, 85, 86, 87, 88, 89, 90, 91, 92, 93, 94, 95, 96, 97, 98, 99, 100, 101, 102, 103, 104, 105, 106, 107, 108, 109, 110, 111, 112, 113, 114, 115, 116, 117, 118, 119, 120, 121, 122, 123, 124, 125, 126, 127, 128, 129, 130, 131] (by decide +kernel) (by decide +kernel)
set_option maxRecDepth 20000 in
theorem gX3_modelCount_X3_countAll : GoodIn wsX3_modelCount (wsV RX3 42 RX3 yX3_countAll wsX3_countAll) := goodIn_app (goodIn_of _ (by decide +kernel)) ggX3_modelCount_X3_countAll
theorem dX3_modelCount_0 : decode cX3_modelCount 0 = .ok (.aload_n 0, 1) := by decide +kernel
theorem dX3_modelCount_1 : decode cX3_modelCount 1 = .ok (.invokevirtual 42, 3) := by decide +kernel
theorem dX3_modelCount_4 : decode cX3_modelCount 4 = .ok (.aload_n 0, 1) := by decide +kernel
theorem dX3_modelCount_5 : decode cX3_modelCount 5 = .ok (.getfield 45, 3) := by decide +kernel
theorem dX3_modelCount_8 : decode cX3_modelCount 8 = .ok (.ireturn, 1) := by decide +kernel
set_option maxRecDepth 20000 in
theorem ggX3_trueInAll_X3_countAll : GoodIn wsX3_trueInAll wsX3_countAll := goodIn_r _ [6, 7, 8, 9, 1, 10, 11, 12, 13, 14, 15, 16, 5, 17, 18, 19, 20, 21, 22, 23, 24, 25, 26, 27, 28, 29, 30, 31, 32, 33, 34, 35, 36, 37, 38, 39, 40, 41, 42, 43, 44, 45, 46, 47, 48, 49, 50, 51, 52, 53, 54, 55, 56, 57, 58, 59, 60, 61, 62, 63, 64, 65, 66, 67, 68, 69, 70, 71, 72, 73, 74, 75, 76, 77, 78, 79, 80, 81, 82, 83, 84, 85, 86, 87, 88, 89, 90, 91, 92, 93, 94, 95, 96, 97, 98, 99, 100, 101, 102, 103, 104, 105, 106, 107, 108, 109, 110, 111, 112, 113, 114, 115, 116, 117, 118, 119, 120, 121, 122, 123, 124, 125, 126, 127, 128, 129, 130, 131] (by decide +kernel) (by decide +kernel)
set_option maxRecDepth 20000 in
theorem gX3_trueInAll_X3_countAll : GoodIn wsX3_trueInAll (wsV RX3 42 RX3 yX3_countAll wsX3_countAll) := goodIn_app (goodIn_of _ (by decide +kernel)) ggX3_trueInAll_X3_countAll
theorem dX3_trueInAll_0 : decode cX3_trueInAll 0 = .ok (.aload_n 0, 1) := by decide +kernel
theorem dX3_trueInAll_1 : decode cX3_trueInAll 1 = .ok (.invokevirtual 42, 3) := by decide +kernel
theorem dX3_trueInAll_4 : decode cX3_trueInAll 4 = .ok (.aload_n 0, 1) := by decide +kernel
theorem dX3_trueInAll_5 : decode cX3_trueInAll 5 = .ok (.getfield 49, 3) := by decide +kernel
theorem dX3_trueInAll_8 : decode cX3_trueInAll 8 = .ok (.ireturn, 1) := by decide +kernel
set_option maxRecDepth 20000 in
theorem ggX3_falseInAll_X3_countAll : GoodIn wsX3_falseInAll wsX3_countAll := goodIn_r _ [7, 8, 9, 1, 10, 2, 11, 12, 13, 14, 15, 16, 6, 17, 18, 19, 20, 21, 22, 23, 24, 25, 26, 27, 28, 29, 30, 31, 32, 33, 34, 35, 36, 37, 38, 39, 40, 41, 42, 43, 44, 45, 46, 47, 48, 49, 50, 51, 52, 53, 54, 55, 56, 57, 58, 59, 60, 61, 62, 63, 64, 65, 66, 67, 68, 69, 70, 71, 72, 73, 74, 75, 76, 77, 78, 79, 80, 81, 82, 83, 84, 85, 86, 87, 88, 89, 90, 91, 92, 93, 94, 95, 96, 97, 98, 99, 100, 101, 102, 103, 104, 105, 106, 107, 108, 109, 110, 111, 112, 113, 114, 115, 116, 117, 118, 119, 120, 121, 122, 123, 124, 125, 126, 127, 128, 129, 130, 131] (by decide +kernel) (by decide +kernel)
set_option maxRecDepth 20000 in
theorem gX3_falseInAll_X3_countAll : GoodIn wsX3_falseInAll (wsV RX3 42 RX3 yX3_countAll wsX3_countAll) := goodIn_app (goodIn_of _ (by decide +kernel)) ggX3_falseInAll_X3_countAll
set_option maxRecDepth 20000 in
theorem ggX3_falseInAll_X5_allNames : GoodIn wsX3_falseInAll wsX5_allNames := goodIn_r _ [98, 62, 123, 124, 125, 126, 127, 128, 129, 130, 131] (by decide +kernel) (by decide +kernel)
set_option maxRecDepth 20000 in
theorem gX3_falseInAll_X5_allNames : GoodIn wsX3_falseInAll (wsV RX3 52 RX5 yX5_allNames wsX5_allNames) := goodIn_app (goodIn_of _ (by decide +kernel)) ggX3_falseInAll_X5_allNames
theorem dX3_falseInAll_0 : decode cX3_falseInAll 0 = .ok (.aload_n 0, 1) := by decide +kernel
theorem dX3_falseInAll_1 : decode cX3_falseInAll 1 = .ok (.invokevirtual 42, 3) := by decide +kernel
theorem dX3_falseInAll_4 : decode cX3_falseInAll 4 = .ok (.aload_n 0, 1) := by decide +kernel
theorem dX3_falseInAll_5 : decode cX3_falseInAll 5 = .ok (.getfield 25, 3) := by decide +kernel
theorem dX3_falseInAll_8 : decode cX3_falseInAll 8 = .ok (.invokevirtual 52, 3) := by decide +kernel
theorem dX3_falseInAll_11 : decode cX3_falseInAll 11 = .ok (.aload_n 0, 1) := by decide +kernel
theorem dX3_falseInAll_12 : decode cX3_falseInAll 12 = .ok (.getfield 58, 3) := by decide +kernel
theorem dX3_falseInAll_15 : decode cX3_falseInAll 15 = .ok (.iconst (-1), 1) := by decide +kernel
theorem dX3_falseInAll_16 : decode cX3_falseInAll 16 = .ok (.ixor, 1) := by decide +kernel
theorem dX3_falseInAll_17 : decode cX3_falseInAll 17 = .ok (.iand, 1) := by decide +kernel
theorem dX3_falseInAll_18 : decode cX3_falseInAll 18 = .ok (.ireturn, 1) := by decide +kernel
set_option maxRecDepth 20000 in
theorem ggX3_leastCost_X3_countAll : GoodIn wsX3_leastCost wsX3_countAll := goodIn_r _ [6, 7, 8, 9, 10, 11, 1, 12, 13, 14, 15, 16, 5, 17, 18, 19, 20, 21, 22, 23, 24, 25, 26, 27, 28, 29, 30, 31, 32, 33, 34, 35, 36, 37, 38, 39, 40, 41, 42, 43, 44, 45, 46, 47, 48, 49, 50, 51, 52, 53, 54, 55, 56, 57, 58, 59, 60, 61, 62, 63, 64, 65, 66, 67, 68, 69, 70, 71, 72, 73, 74, 75, 76, 77, 78, 79, 80, 81, 82, 83, 84, 85, 86, 87, 88, 89, 90, 91, 92, 93, 94, 95, 96, 97, 98, 99, 100, 101, 102, 103, 104, 105, 106, 107, 108, 109, 110, 111, 112, 113, 114, 115, 116, 117, 118, 119, 120, 121, 122, 123, 124, 125, 126, 127, 128, 129, 130, 131] (by decide +kernel) (by decide +kernel)
set_option maxRecDepth 20000 in
theorem gX3_leastCost_X3_countAll : GoodIn wsX3_leastCost (wsV RX3 42 RX3 yX3_countAll wsX3_countAll) := goodIn_app (goodIn_of _ (by decide +kernel)) ggX3_leastCost_X3_countAll
theorem dX3_leastCost_0 : decode cX3_leastCost 0 = .ok (.aload_n 0, 1) := by decide +kernel
theorem dX3_leastCost_1 : decode cX3_leastCost 1 = .ok (.invokevirtual 42, 3) := by decide +kernel
theorem dX3_leastCost_4 : decode cX3_leastCost 4 = .ok (.aload_n 0, 1) := by decide +kernel
theorem dX3_leastCost_5 : decode cX3_leastCost 5 = .ok (.getfield 61, 3) := by decide +kernel
theorem dX3_leastCost_8 : decode cX3_leastCost 8 = .ok (.ireturn, 1) := by decide +kernel
set_option maxRecDepth 20000 in
theorem ggX3_firstBest_X3_countAll : GoodIn wsX3_firstBest wsX3_countAll := goodIn_r _ [6, 7, 8, 9, 10, 11, 12, 1, 13, 14, 15, 16, 5, 17, 18, 19, 20, 21, 22, 23, 24, 25, 26, 27, 28, 29, 30, 31, 32, 33, 34, 35, 36, 37, 38, 39, 40, 41, 42, 43, 44, 45, 46, 47, 48, 49, 50, 51, 52, 53, 54, 55, 56, 57, 58, 59, 60, 61, 62, 63, 64, 65, 66, 67, 68, 69, 70, 71, 72, 73, 74, 75, 76, 77, 78, 79, 80, 81, 82, 83, 84, 85, 86, 87, 88, 89, 90, 91, 92, 93, 94, 95, 96, 97, 98, 99, 100, 101, 102, 103, 104, 105, 106, 107, 108, 109, 110, 111, 112, 113, 114, 115, 116, 117, 118, 119, 120, 121, 122, 123, 124, 125, 126, 127, 128, 129, 130, 131] (by decide +kernel) (by decide +kernel)
set_option maxRecDepth 20000 in
theorem gX3_firstBest_X3_countAll : GoodIn wsX3_firstBest (wsV RX3 42 RX3 yX3_countAll wsX3_countAll) := goodIn_app (goodIn_of _ (by decide +kernel)) ggX3_firstBest_X3_countAll
theorem dX3_firstBest_0 : decode cX3_firstBest 0 = .ok (.aload_n 0, 1) := by decide +kernel
theorem dX3_firstBest_1 : decode cX3_firstBest 1 = .ok (.invokevirtual 42, 3) := by decide +kernel
theorem dX3_firstBest_4 : decode cX3_firstBest 4 = .ok (.aload_n 0, 1) := by decide +kernel
theorem dX3_firstBest_5 : decode cX3_firstBest 5 = .ok (.getfield 64, 3) := by decide +kernel
theorem dX3_firstBest_8 : decode cX3_firstBest 8 = .ok (.ireturn, 1) := by decide +kernel
set_option maxRecDepth 20000 in
theorem ggX3_coreThings_X3_readThings : GoodIn wsX3_coreThings wsX3_readThings := goodIn_r _ [9, 2, 10, 11, 12, 13, 14, 15, 16, 17, 18, 19, 20, 21, 22, 23, 24, 25, 26, 27, 28, 29, 30, 31, 32, 33, 8, 34, 35, 36, 37, 38, 39, 40, 41, 42, 43, 44, 45, 46, 47, 48, 49, 50, 51, 52, 53, 54, 55, 56, 57, 58, 59, 60, 61, 62, 63, 4, 64, 65, 66, 67, 68, 69, 70, 71, 72, 73, 74, 75, 76, 77, 78, 79, 80, 81, 90, 91, 92, 93, 94, 95, 96, 97, 98, 99, 100, 101, 102, 103, 104, 105, 106, 107, 108, 109, 110, 111] (by decide +kernel) (by decide +kernel)
set_option maxRecDepth 20000 in
theorem gX3_coreThings_X3_readThings : GoodIn wsX3_coreThings (wsV RX3 67 RX3 yX3_readThings wsX3_readThings) := goodIn_app (goodIn_of _ (by decide +kernel)) ggX3_coreThings_X3_readThings
set_option maxRecDepth 20000 in
theorem ggX3_coreThings_X5_standing : GoodIn wsX3_coreThings wsX5_standing := goodIn_r _ [85, 25, 103, 104, 105, 106, 107, 108, 109, 110, 111] (by decide +kernel) (by decide +kernel)
set_option maxRecDepth 20000 in
theorem gX3_coreThings_X5_standing : GoodIn wsX3_coreThings (wsV RX3 70 RX5 yX5_standing wsX5_standing) := goodIn_app (goodIn_of _ (by decide +kernel)) ggX3_coreThings_X5_standing
set_option maxRecDepth 20000 in
theorem ggX3_coreThings_X3_areKeptTogether : GoodIn wsX3_coreThings wsX3_areKeptTogether := goodIn_r _ [89, 2, 63, 50, 51, 52, 13, 53, 54, 90, 91, 92, 93, 94, 95, 96, 97, 98, 99, 100, 101, 102, 103, 104, 105, 106, 107, 108, 109, 110, 111] (by decide +kernel) (by decide +kernel)
set_option maxRecDepth 20000 in
theorem gX3_coreThings_X3_areKeptTogether : GoodIn wsX3_coreThings (wsV RX3 80 RX3 yX3_areKeptTogether wsX3_areKeptTogether) := goodIn_app (goodIn_of _ (by decide +kernel)) ggX3_coreThings_X3_areKeptTogether
theorem dX3_coreThings_0 : decode cX3_coreThings 0 = .ok (.aload_n 0, 1) := by decide +kernel
theorem dX3_coreThings_1 : decode cX3_coreThings 1 = .ok (.getfield 33, 3) := by decide +kernel
theorem dX3_coreThings_4 : decode cX3_coreThings 4 = .ok (.ifCond .ne 71, 3) := by decide +kernel
theorem dX3_coreThings_7 : decode cX3_coreThings 7 = .ok (.aload_n 0, 1) := by decide +kernel
theorem dX3_coreThings_8 : decode cX3_coreThings 8 = .ok (.invokevirtual 67, 3) := by decide +kernel
theorem dX3_coreThings_11 : decode cX3_coreThings 11 = .ok (.aload_n 0, 1) := by decide +kernel
theorem dX3_coreThings_12 : decode cX3_coreThings 12 = .ok (.aload_n 0, 1) := by decide +kernel
theorem dX3_coreThings_13 : decode cX3_coreThings 13 = .ok (.getfield 25, 3) := by decide +kernel
theorem dX3_coreThings_16 : decode cX3_coreThings 16 = .ok (.invokevirtual 70, 3) := by decide +kernel
theorem dX3_coreThings_19 : decode cX3_coreThings 19 = .ok (.putfield 74, 3) := by decide +kernel
theorem dX3_coreThings_22 : decode cX3_coreThings 22 = .ok (.bipush 59, 2) := by decide +kernel
theorem dX3_coreThings_24 : decode cX3_coreThings 24 = .ok (.istore_n 1, 1) := by decide +kernel
theorem dX3_coreThings_25 : decode cX3_coreThings 25 = .ok (.iload_n 1, 1) := by decide +kernel
theorem dX3_coreThings_26 : decode cX3_coreThings 26 = .ok (.ifCond .lt 44, 3) := by decide +kernel
theorem dX3_coreThings_29 : decode cX3_coreThings 29 = .ok (.aload_n 0, 1) := by decide +kernel
theorem dX3_coreThings_30 : decode cX3_coreThings 30 = .ok (.getfield 74, 3) := by decide +kernel
theorem dX3_coreThings_33 : decode cX3_coreThings 33 = .ok (.lconst 1, 1) := by decide +kernel
theorem dX3_coreThings_34 : decode cX3_coreThings 34 = .ok (.iload_n 1, 1) := by decide +kernel
theorem dX3_coreThings_35 : decode cX3_coreThings 35 = .ok (.lshl, 1) := by decide +kernel
theorem dX3_coreThings_36 : decode cX3_coreThings 36 = .ok (.ldc2_w 78, 3) := by decide +kernel
theorem dX3_coreThings_39 : decode cX3_coreThings 39 = .ok (.lxor, 1) := by decide +kernel
theorem dX3_coreThings_40 : decode cX3_coreThings 40 = .ok (.land, 1) := by decide +kernel
theorem dX3_coreThings_41 : decode cX3_coreThings 41 = .ok (.lstore_n 2, 1) := by decide +kernel
theorem dX3_coreThings_42 : decode cX3_coreThings 42 = .ok (.lload_n 2, 1) := by decide +kernel
theorem dX3_coreThings_43 : decode cX3_coreThings 43 = .ok (.aload_n 0, 1) := by decide +kernel
theorem dX3_coreThings_44 : decode cX3_coreThings 44 = .ok (.getfield 74, 3) := by decide +kernel
theorem dX3_coreThings_47 : decode cX3_coreThings 47 = .ok (.lcmp, 1) := by decide +kernel
theorem dX3_coreThings_48 : decode cX3_coreThings 48 = .ok (.ifCond .eq 16, 3) := by decide +kernel
theorem dX3_coreThings_51 : decode cX3_coreThings 51 = .ok (.aload_n 0, 1) := by decide +kernel
theorem dX3_coreThings_52 : decode cX3_coreThings 52 = .ok (.lload_n 2, 1) := by decide +kernel
theorem dX3_coreThings_53 : decode cX3_coreThings 53 = .ok (.invokevirtual 80, 3) := by decide +kernel
theorem dX3_coreThings_56 : decode cX3_coreThings 56 = .ok (.ifCond .ne 8, 3) := by decide +kernel
theorem dX3_coreThings_59 : decode cX3_coreThings 59 = .ok (.aload_n 0, 1) := by decide +kernel
theorem dX3_coreThings_60 : decode cX3_coreThings 60 = .ok (.lload_n 2, 1) := by decide +kernel
theorem dX3_coreThings_61 : decode cX3_coreThings 61 = .ok (.putfield 74, 3) := by decide +kernel
theorem dX3_coreThings_64 : decode cX3_coreThings 64 = .ok (.iinc 1 (-1), 3) := by decide +kernel
theorem dX3_coreThings_67 : decode cX3_coreThings 67 = .ok (.goto (-42), 3) := by decide +kernel
theorem dX3_coreThings_70 : decode cX3_coreThings 70 = .ok (.aload_n 0, 1) := by decide +kernel
theorem dX3_coreThings_71 : decode cX3_coreThings 71 = .ok (.iconst 1, 1) := by decide +kernel
theorem dX3_coreThings_72 : decode cX3_coreThings 72 = .ok (.putfield 33, 3) := by decide +kernel
theorem dX3_coreThings_75 : decode cX3_coreThings 75 = .ok (.aload_n 0, 1) := by decide +kernel
theorem dX3_coreThings_76 : decode cX3_coreThings 76 = .ok (.getfield 74, 3) := by decide +kernel
theorem dX3_coreThings_79 : decode cX3_coreThings 79 = .ok (.lreturn, 1) := by decide +kernel
set_option maxRecDepth 20000 in
theorem ggX3_areKeptTogether_X5_names : GoodIn wsX3_areKeptTogether wsX5_names := goodIn_r _ [7, 8, 22, 23, 24, 25, 26, 27, 28, 29, 30] (by decide +kernel) (by decide +kernel)
set_option maxRecDepth 20000 in
theorem gX3_areKeptTogether_X5_names : GoodIn wsX3_areKeptTogether (wsV RX3 84 RX5 yX5_names wsX5_names) := goodIn_app (goodIn_of _ (by decide +kernel)) ggX3_areKeptTogether_X5_names
theorem dX3_areKeptTogether_0 : decode cX3_areKeptTogether 0 = .ok (.iconst 1, 1) := by decide +kernel
theorem dX3_areKeptTogether_1 : decode cX3_areKeptTogether 1 = .ok (.aload_n 0, 1) := by decide +kernel
theorem dX3_areKeptTogether_2 : decode cX3_areKeptTogether 2 = .ok (.getfield 25, 3) := by decide +kernel
theorem dX3_areKeptTogether_5 : decode cX3_areKeptTogether 5 = .ok (.invokevirtual 84, 3) := by decide +kernel
theorem dX3_areKeptTogether_8 : decode cX3_areKeptTogether 8 = .ok (.ishl, 1) := by decide +kernel
theorem dX3_areKeptTogether_9 : decode cX3_areKeptTogether 9 = .ok (.istore_n 3, 1) := by decide +kernel
theorem dX3_areKeptTogether_10 : decode cX3_areKeptTogether 10 = .ok (.iconst 0, 1) := by decide +kernel
theorem dX3_areKeptTogether_11 : decode cX3_areKeptTogether 11 = .ok (.istore 4, 2) := by decide +kernel
theorem dX3_areKeptTogether_13 : decode cX3_areKeptTogether 13 = .ok (.iload 4, 2) := by decide +kernel
theorem dX3_areKeptTogether_15 : decode cX3_areKeptTogether 15 = .ok (.iload_n 3, 1) := by decide +kernel
theorem dX3_areKeptTogether_16 : decode cX3_areKeptTogether 16 = .ok (.if_icmp .ge 25, 3) := by decide +kernel
theorem dX3_areKeptTogether_19 : decode cX3_areKeptTogether 19 = .ok (.aload_n 0, 1) := by decide +kernel
theorem dX3_areKeptTogether_20 : decode cX3_areKeptTogether 20 = .ok (.getfield 11, 3) := by decide +kernel
theorem dX3_areKeptTogether_23 : decode cX3_areKeptTogether 23 = .ok (.iload 4, 2) := by decide +kernel
theorem dX3_areKeptTogether_25 : decode cX3_areKeptTogether 25 = .ok (.laload, 1) := by decide +kernel
theorem dX3_areKeptTogether_26 : decode cX3_areKeptTogether 26 = .ok (.lload_n 1, 1) := by decide +kernel
theorem dX3_areKeptTogether_27 : decode cX3_areKeptTogether 27 = .ok (.land, 1) := by decide +kernel
theorem dX3_areKeptTogether_28 : decode cX3_areKeptTogether 28 = .ok (.lconst 0, 1) := by decide +kernel
theorem dX3_areKeptTogether_29 : decode cX3_areKeptTogether 29 = .ok (.lcmp, 1) := by decide +kernel
theorem dX3_areKeptTogether_30 : decode cX3_areKeptTogether 30 = .ok (.ifCond .ne 5, 3) := by decide +kernel
theorem dX3_areKeptTogether_33 : decode cX3_areKeptTogether 33 = .ok (.iconst 1, 1) := by decide +kernel
theorem dX3_areKeptTogether_34 : decode cX3_areKeptTogether 34 = .ok (.ireturn, 1) := by decide +kernel
theorem dX3_areKeptTogether_35 : decode cX3_areKeptTogether 35 = .ok (.iinc 4 1, 3) := by decide +kernel
theorem dX3_areKeptTogether_38 : decode cX3_areKeptTogether 38 = .ok (.goto (-25), 3) := by decide +kernel
theorem dX3_areKeptTogether_41 : decode cX3_areKeptTogether 41 = .ok (.iconst 0, 1) := by decide +kernel
theorem dX3_areKeptTogether_42 : decode cX3_areKeptTogether 42 = .ok (.ireturn, 1) := by decide +kernel
set_option maxRecDepth 20000 in
theorem ggX3_countAll_X3_readThings : GoodIn wsX3_countAll wsX3_readThings := goodIn_r _ [13, 3, 14, 15, 16, 17, 18, 19, 20, 21, 22, 23, 24, 25, 26, 27, 28, 29, 30, 31, 32, 33, 34, 35, 36, 37, 12, 38, 39, 40, 41, 42, 43, 44, 45, 46, 47, 48, 49, 50, 51, 52, 53, 54, 55, 56, 57, 58, 59, 60, 61, 62, 63, 64, 65, 66, 8, 67, 68, 69, 70, 71, 72, 73, 74, 75, 76, 77, 78, 79, 80, 81, 82, 83, 84, 85, 106, 107, 108, 109, 110, 111, 112, 113, 114, 115, 116, 117, 118, 119, 120, 121, 122, 123, 124, 125, 126, 127] (by decide +kernel) (by decide +kernel)
set_option maxRecDepth 20000 in
theorem gX3_countAll_X3_readThings : GoodIn wsX3_countAll (wsV RX3 67 RX3 yX3_readThings wsX3_readThings) := goodIn_app (goodIn_of _ (by decide +kernel)) ggX3_countAll_X3_readThings
set_option maxRecDepth 20000 in
theorem ggX3_countAll_X3_layOutCosts : GoodIn wsX3_countAll wsX3_layOutCosts := goodIn_r _ [89, 39, 40, 90, 46, 47, 12, 48, 106, 107, 108, 109, 110, 111, 112, 113, 114, 115, 116, 117, 118] (by decide +kernel) (by decide +kernel)
set_option maxRecDepth 20000 in
theorem gX3_countAll_X3_layOutCosts : GoodIn wsX3_countAll (wsV RX3 87 RX3 yX3_layOutCosts wsX3_layOutCosts) := goodIn_app (goodIn_of _ (by decide +kernel)) ggX3_countAll_X3_layOutCosts
set_option maxRecDepth 20000 in
theorem ggX3_countAll_X5_allNames : GoodIn wsX3_countAll wsX5_allNames := goodIn_r _ [94, 58, 119, 120, 121, 122, 123, 124, 125, 126, 127] (by decide +kernel) (by decide +kernel)
set_option maxRecDepth 20000 in
theorem gX3_countAll_X5_allNames : GoodIn wsX3_countAll (wsV RX3 52 RX5 yX5_allNames wsX5_allNames) := goodIn_app (goodIn_of _ (by decide +kernel)) ggX3_countAll_X5_allNames
set_option maxRecDepth 20000 in
theorem ggX3_countAll_X5_standing : GoodIn wsX3_countAll wsX5_standing := goodIn_r _ [98, 29, 119, 120, 121, 122, 123, 124, 125, 126, 127] (by decide +kernel) (by decide +kernel)
set_option maxRecDepth 20000 in
theorem gX3_countAll_X5_standing : GoodIn wsX3_countAll (wsV RX3 70 RX5 yX5_standing wsX5_standing) := goodIn_app (goodIn_of _ (by decide +kernel)) ggX3_countAll_X5_standing
set_option maxRecDepth 20000 in
theorem ggX3_countAll_X5_names : GoodIn wsX3_countAll wsX5_names := goodIn_r _ [57, 58, 119, 120, 121, 122, 123, 124, 125, 126, 127] (by decide +kernel) (by decide +kernel)
set_option maxRecDepth 20000 in
theorem gX3_countAll_X5_names : GoodIn wsX3_countAll (wsV RX3 84 RX5 yX5_names wsX5_names) := goodIn_app (goodIn_of _ (by decide +kernel)) ggX3_countAll_X5_names
set_option maxRecDepth 20000 in
theorem ggX3_countAll_X3_countOne : GoodIn wsX3_countAll wsX3_countOne := goodIn_r _ [102, 2, 6, 7, 4, 5, 59, 60, 61, 12, 62, 39, 40, 103, 104, 105, 106, 107, 108, 109, 110, 111, 112, 113, 114, 115, 116, 117, 118] (by decide +kernel) (by decide +kernel)
set_option maxRecDepth 20000 in
theorem gX3_countAll_X3_countOne : GoodIn wsX3_countAll (wsV RX3 90 RX3 yX3_countOne wsX3_countOne) := goodIn_app (goodIn_of _ (by decide +kernel)) ggX3_countAll_X3_countOne
theorem dX3_countAll_0 : decode cX3_countAll 0 = .ok (.aload_n 0, 1) := by decide +kernel
theorem dX3_countAll_1 : decode cX3_countAll 1 = .ok (.getfield 29, 3) := by decide +kernel
theorem dX3_countAll_4 : decode cX3_countAll 4 = .ok (.ifCond .eq 4, 3) := by decide +kernel
theorem dX3_countAll_7 : decode cX3_countAll 7 = .ok (.return_, 1) := by decide +kernel
theorem dX3_countAll_8 : decode cX3_countAll 8 = .ok (.aload_n 0, 1) := by decide +kernel
theorem dX3_countAll_9 : decode cX3_countAll 9 = .ok (.invokevirtual 67, 3) := by decide +kernel
theorem dX3_countAll_12 : decode cX3_countAll 12 = .ok (.aload_n 0, 1) := by decide +kernel
theorem dX3_countAll_13 : decode cX3_countAll 13 = .ok (.invokevirtual 87, 3) := by decide +kernel
theorem dX3_countAll_16 : decode cX3_countAll 16 = .ok (.aload_n 0, 1) := by decide +kernel
theorem dX3_countAll_17 : decode cX3_countAll 17 = .ok (.iconst 0, 1) := by decide +kernel
theorem dX3_countAll_18 : decode cX3_countAll 18 = .ok (.putfield 45, 3) := by decide +kernel
theorem dX3_countAll_21 : decode cX3_countAll 21 = .ok (.aload_n 0, 1) := by decide +kernel
theorem dX3_countAll_22 : decode cX3_countAll 22 = .ok (.aload_n 0, 1) := by decide +kernel
theorem dX3_countAll_23 : decode cX3_countAll 23 = .ok (.getfield 25, 3) := by decide +kernel
theorem dX3_countAll_26 : decode cX3_countAll 26 = .ok (.invokevirtual 52, 3) := by decide +kernel
theorem dX3_countAll_29 : decode cX3_countAll 29 = .ok (.putfield 49, 3) := by decide +kernel
theorem dX3_countAll_32 : decode cX3_countAll 32 = .ok (.aload_n 0, 1) := by decide +kernel
theorem dX3_countAll_33 : decode cX3_countAll 33 = .ok (.iconst 0, 1) := by decide +kernel
theorem dX3_countAll_34 : decode cX3_countAll 34 = .ok (.putfield 58, 3) := by decide +kernel
theorem dX3_countAll_37 : decode cX3_countAll 37 = .ok (.aload_n 0, 1) := by decide +kernel
theorem dX3_countAll_38 : decode cX3_countAll 38 = .ok (.iconst 0, 1) := by decide +kernel
theorem dX3_countAll_39 : decode cX3_countAll 39 = .ok (.putfield 61, 3) := by decide +kernel
theorem dX3_countAll_42 : decode cX3_countAll 42 = .ok (.aload_n 0, 1) := by decide +kernel
theorem dX3_countAll_43 : decode cX3_countAll 43 = .ok (.iconst 0, 1) := by decide +kernel
theorem dX3_countAll_44 : decode cX3_countAll 44 = .ok (.putfield 64, 3) := by decide +kernel
theorem dX3_countAll_47 : decode cX3_countAll 47 = .ok (.aload_n 0, 1) := by decide +kernel
theorem dX3_countAll_48 : decode cX3_countAll 48 = .ok (.getfield 25, 3) := by decide +kernel
theorem dX3_countAll_51 : decode cX3_countAll 51 = .ok (.invokevirtual 70, 3) := by decide +kernel
theorem dX3_countAll_54 : decode cX3_countAll 54 = .ok (.lstore_n 1, 1) := by decide +kernel
theorem dX3_countAll_55 : decode cX3_countAll 55 = .ok (.iconst 1, 1) := by decide +kernel
theorem dX3_countAll_56 : decode cX3_countAll 56 = .ok (.aload_n 0, 1) := by decide +kernel
theorem dX3_countAll_57 : decode cX3_countAll 57 = .ok (.getfield 25, 3) := by decide +kernel
theorem dX3_countAll_60 : decode cX3_countAll 60 = .ok (.invokevirtual 84, 3) := by decide +kernel
theorem dX3_countAll_63 : decode cX3_countAll 63 = .ok (.ishl, 1) := by decide +kernel
theorem dX3_countAll_64 : decode cX3_countAll 64 = .ok (.istore_n 3, 1) := by decide +kernel
theorem dX3_countAll_65 : decode cX3_countAll 65 = .ok (.iconst 0, 1) := by decide +kernel
theorem dX3_countAll_66 : decode cX3_countAll 66 = .ok (.istore 4, 2) := by decide +kernel
theorem dX3_countAll_68 : decode cX3_countAll 68 = .ok (.iload 4, 2) := by decide +kernel
theorem dX3_countAll_70 : decode cX3_countAll 70 = .ok (.iload_n 3, 1) := by decide +kernel
theorem dX3_countAll_71 : decode cX3_countAll 71 = .ok (.if_icmp .ge 29, 3) := by decide +kernel
theorem dX3_countAll_74 : decode cX3_countAll 74 = .ok (.aload_n 0, 1) := by decide +kernel
theorem dX3_countAll_75 : decode cX3_countAll 75 = .ok (.getfield 11, 3) := by decide +kernel
theorem dX3_countAll_78 : decode cX3_countAll 78 = .ok (.iload 4, 2) := by decide +kernel
theorem dX3_countAll_80 : decode cX3_countAll 80 = .ok (.laload, 1) := by decide +kernel
theorem dX3_countAll_81 : decode cX3_countAll 81 = .ok (.lload_n 1, 1) := by decide +kernel
theorem dX3_countAll_82 : decode cX3_countAll 82 = .ok (.land, 1) := by decide +kernel
theorem dX3_countAll_83 : decode cX3_countAll 83 = .ok (.lconst 0, 1) := by decide +kernel
theorem dX3_countAll_84 : decode cX3_countAll 84 = .ok (.lcmp, 1) := by decide +kernel
theorem dX3_countAll_85 : decode cX3_countAll 85 = .ok (.ifCond .ne 9, 3) := by decide +kernel
theorem dX3_countAll_88 : decode cX3_countAll 88 = .ok (.aload_n 0, 1) := by decide +kernel
theorem dX3_countAll_89 : decode cX3_countAll 89 = .ok (.iload 4, 2) := by decide +kernel
theorem dX3_countAll_91 : decode cX3_countAll 91 = .ok (.invokevirtual 90, 3) := by decide +kernel
theorem dX3_countAll_94 : decode cX3_countAll 94 = .ok (.iinc 4 1, 3) := by decide +kernel
theorem dX3_countAll_97 : decode cX3_countAll 97 = .ok (.goto (-29), 3) := by decide +kernel
theorem dX3_countAll_100 : decode cX3_countAll 100 = .ok (.aload_n 0, 1) := by decide +kernel
theorem dX3_countAll_101 : decode cX3_countAll 101 = .ok (.iconst 1, 1) := by decide +kernel
theorem dX3_countAll_102 : decode cX3_countAll 102 = .ok (.putfield 29, 3) := by decide +kernel
theorem dX3_countAll_105 : decode cX3_countAll 105 = .ok (.return_, 1) := by decide +kernel
set_option maxRecDepth 20000 in
theorem ggX3_countOne_X3_sumOf : GoodIn wsX3_countOne wsX3_sumOf := goodIn_r _ [10, 11, 12, 16, 17, 18, 19, 20, 21, 22, 23, 24, 25, 26, 27, 28] (by decide +kernel) (by decide +kernel)
set_option maxRecDepth 20000 in
theorem gX3_countOne_X3_sumOf : GoodIn wsX3_countOne (wsV RX3 94 RX3 yX3_sumOf wsX3_sumOf) := goodIn_app (goodIn_of _ (by decide +kernel)) ggX3_countOne_X3_sumOf
set_option maxRecDepth 20000 in
theorem ggX3_countOne_X3_isBefore : GoodIn wsX3_countOne wsX3_isBefore := goodIn_r _ [15] (by decide +kernel) (by decide +kernel)
set_option maxRecDepth 20000 in
theorem gX3_countOne_X3_isBefore : GoodIn wsX3_countOne (va_wsS RX3 98 yX3_isBefore wsX3_isBefore) := goodIn_app (goodIn_of _ (by decide +kernel)) ggX3_countOne_X3_isBefore
theorem dX3_countOne_0 : decode cX3_countOne 0 = .ok (.aload_n 0, 1) := by decide +kernel
theorem dX3_countOne_1 : decode cX3_countOne 1 = .ok (.iload_n 1, 1) := by decide +kernel
theorem dX3_countOne_2 : decode cX3_countOne 2 = .ok (.invokevirtual 94, 3) := by decide +kernel
theorem dX3_countOne_5 : decode cX3_countOne 5 = .ok (.istore_n 2, 1) := by decide +kernel
theorem dX3_countOne_6 : decode cX3_countOne 6 = .ok (.aload_n 0, 1) := by decide +kernel
theorem dX3_countOne_7 : decode cX3_countOne 7 = .ok (.getfield 45, 3) := by decide +kernel
theorem dX3_countOne_10 : decode cX3_countOne 10 = .ok (.ifCond .eq 30, 3) := by decide +kernel
theorem dX3_countOne_13 : decode cX3_countOne 13 = .ok (.iload_n 2, 1) := by decide +kernel
theorem dX3_countOne_14 : decode cX3_countOne 14 = .ok (.aload_n 0, 1) := by decide +kernel
theorem dX3_countOne_15 : decode cX3_countOne 15 = .ok (.getfield 61, 3) := by decide +kernel
theorem dX3_countOne_18 : decode cX3_countOne 18 = .ok (.if_icmp .lt 22, 3) := by decide +kernel
theorem dX3_countOne_21 : decode cX3_countOne 21 = .ok (.iload_n 2, 1) := by decide +kernel
theorem dX3_countOne_22 : decode cX3_countOne 22 = .ok (.aload_n 0, 1) := by decide +kernel
theorem dX3_countOne_23 : decode cX3_countOne 23 = .ok (.getfield 61, 3) := by decide +kernel
theorem dX3_countOne_26 : decode cX3_countOne 26 = .ok (.if_icmp .ne 24, 3) := by decide +kernel
theorem dX3_countOne_29 : decode cX3_countOne 29 = .ok (.iload_n 1, 1) := by decide +kernel
theorem dX3_countOne_30 : decode cX3_countOne 30 = .ok (.aload_n 0, 1) := by decide +kernel
theorem dX3_countOne_31 : decode cX3_countOne 31 = .ok (.getfield 64, 3) := by decide +kernel
theorem dX3_countOne_34 : decode cX3_countOne 34 = .ok (.invokestatic 98, 3) := by decide +kernel
theorem dX3_countOne_37 : decode cX3_countOne 37 = .ok (.ifCond .eq 13, 3) := by decide +kernel
theorem dX3_countOne_40 : decode cX3_countOne 40 = .ok (.aload_n 0, 1) := by decide +kernel
theorem dX3_countOne_41 : decode cX3_countOne 41 = .ok (.iload_n 2, 1) := by decide +kernel
theorem dX3_countOne_42 : decode cX3_countOne 42 = .ok (.putfield 61, 3) := by decide +kernel
theorem dX3_countOne_45 : decode cX3_countOne 45 = .ok (.aload_n 0, 1) := by decide +kernel
theorem dX3_countOne_46 : decode cX3_countOne 46 = .ok (.iload_n 1, 1) := by decide +kernel
theorem dX3_countOne_47 : decode cX3_countOne 47 = .ok (.putfield 64, 3) := by decide +kernel
theorem dX3_countOne_50 : decode cX3_countOne 50 = .ok (.aload_n 0, 1) := by decide +kernel
theorem dX3_countOne_51 : decode cX3_countOne 51 = .ok (.dup, 1) := by decide +kernel
theorem dX3_countOne_52 : decode cX3_countOne 52 = .ok (.getfield 45, 3) := by decide +kernel
theorem dX3_countOne_55 : decode cX3_countOne 55 = .ok (.iconst 1, 1) := by decide +kernel
theorem dX3_countOne_56 : decode cX3_countOne 56 = .ok (.iadd, 1) := by decide +kernel
theorem dX3_countOne_57 : decode cX3_countOne 57 = .ok (.putfield 45, 3) := by decide +kernel
theorem dX3_countOne_60 : decode cX3_countOne 60 = .ok (.aload_n 0, 1) := by decide +kernel
theorem dX3_countOne_61 : decode cX3_countOne 61 = .ok (.dup, 1) := by decide +kernel
theorem dX3_countOne_62 : decode cX3_countOne 62 = .ok (.getfield 49, 3) := by decide +kernel
theorem dX3_countOne_65 : decode cX3_countOne 65 = .ok (.iload_n 1, 1) := by decide +kernel
theorem dX3_countOne_66 : decode cX3_countOne 66 = .ok (.iand, 1) := by decide +kernel
theorem dX3_countOne_67 : decode cX3_countOne 67 = .ok (.putfield 49, 3) := by decide +kernel
theorem dX3_countOne_70 : decode cX3_countOne 70 = .ok (.aload_n 0, 1) := by decide +kernel
theorem dX3_countOne_71 : decode cX3_countOne 71 = .ok (.dup, 1) := by decide +kernel
theorem dX3_countOne_72 : decode cX3_countOne 72 = .ok (.getfield 58, 3) := by decide +kernel
theorem dX3_countOne_75 : decode cX3_countOne 75 = .ok (.iload_n 1, 1) := by decide +kernel
theorem dX3_countOne_76 : decode cX3_countOne 76 = .ok (.ior, 1) := by decide +kernel
theorem dX3_countOne_77 : decode cX3_countOne 77 = .ok (.putfield 58, 3) := by decide +kernel
theorem dX3_countOne_80 : decode cX3_countOne 80 = .ok (.return_, 1) := by decide +kernel
theorem dX3_isBefore_0 : decode cX3_isBefore 0 = .ok (.iload_n 0, 1) := by decide +kernel
theorem dX3_isBefore_1 : decode cX3_isBefore 1 = .ok (.iload_n 1, 1) := by decide +kernel
theorem dX3_isBefore_2 : decode cX3_isBefore 2 = .ok (.ixor, 1) := by decide +kernel
theorem dX3_isBefore_3 : decode cX3_isBefore 3 = .ok (.istore_n 2, 1) := by decide +kernel
theorem dX3_isBefore_4 : decode cX3_isBefore 4 = .ok (.iload_n 1, 1) := by decide +kernel
theorem dX3_isBefore_5 : decode cX3_isBefore 5 = .ok (.iload_n 2, 1) := by decide +kernel
theorem dX3_isBefore_6 : decode cX3_isBefore 6 = .ok (.iand, 1) := by decide +kernel
theorem dX3_isBefore_7 : decode cX3_isBefore 7 = .ok (.iload_n 2, 1) := by decide +kernel
theorem dX3_isBefore_8 : decode cX3_isBefore 8 = .ok (.ineg, 1) := by decide +kernel
theorem dX3_isBefore_9 : decode cX3_isBefore 9 = .ok (.iand, 1) := by decide +kernel
theorem dX3_isBefore_10 : decode cX3_isBefore 10 = .ok (.ifCond .eq 7, 3) := by decide +kernel
theorem dX3_isBefore_13 : decode cX3_isBefore 13 = .ok (.iconst 1, 1) := by decide +kernel
theorem dX3_isBefore_14 : decode cX3_isBefore 14 = .ok (.goto 4, 3) := by decide +kernel
theorem dX3_isBefore_17 : decode cX3_isBefore 17 = .ok (.iconst 0, 1) := by decide +kernel
theorem dX3_isBefore_18 : decode cX3_isBefore 18 = .ok (.ireturn, 1) := by decide +kernel
set_option maxRecDepth 20000 in
theorem ggX3_readThings_X5_numbersGiven : GoodIn wsX3_readThings wsX5_numbersGiven := goodIn_r _ [6, 7, 89, 90, 91, 92, 93, 94, 95, 96, 97] (by decide +kernel) (by decide +kernel)
set_option maxRecDepth 20000 in
theorem gX3_readThings_X5_numbersGiven : GoodIn wsX3_readThings (wsV RX3 102 RX5 yX5_numbersGiven wsX5_numbersGiven) := goodIn_app (goodIn_of _ (by decide +kernel)) ggX3_readThings_X5_numbersGiven
set_option maxRecDepth 20000 in
theorem ggX3_readThings_X5_isUnread : GoodIn wsX3_readThings wsX5_isUnread := goodIn_r _ [11, 12, 13, 14, 15, 5, 16, 7, 17, 89, 90, 91, 92, 93, 94, 95, 96, 97] (by decide +kernel) (by decide +kernel)
set_option maxRecDepth 20000 in
theorem gX3_readThings_X5_isUnread : GoodIn wsX3_readThings (wsV RX3 105 RX5 yX5_isUnread wsX5_isUnread) := goodIn_app (goodIn_of _ (by decide +kernel)) ggX3_readThings_X5_isUnread
set_option maxRecDepth 20000 in
theorem ggX3_readThings_X5_isRow : GoodIn wsX3_readThings wsX5_isRow := goodIn_r _ [21, 22, 13, 14, 15, 5, 16, 7, 17, 89, 90, 91, 92, 93, 94, 95, 96, 97] (by decide +kernel) (by decide +kernel)
set_option maxRecDepth 20000 in
theorem gX3_readThings_X5_isRow : GoodIn wsX3_readThings (wsV RX3 109 RX5 yX5_isRow wsX5_isRow) := goodIn_app (goodIn_of _ (by decide +kernel)) ggX3_readThings_X5_isRow
set_option maxRecDepth 20000 in
theorem ggX3_readThings_X3_readRow : GoodIn wsX3_readThings wsX3_readRow := goodIn_r _ [27, 28, 29, 1, 30, 31, 32, 5, 33, 34, 35, 36, 26, 37, 38, 39, 40, 41, 42, 43, 44, 45, 46, 47, 48, 49, 50, 51, 52, 53, 54, 55, 56, 57, 76, 77, 78, 79, 80, 81, 82, 83, 84, 85, 86, 87, 88, 89, 90, 91, 92, 93, 94, 95, 96, 97] (by decide +kernel) (by decide +kernel)
set_option maxRecDepth 20000 in
theorem gX3_readThings_X3_readRow : GoodIn wsX3_readThings (wsV RX3 112 RX3 yX3_readRow wsX3_readRow) := goodIn_app (goodIn_of _ (by decide +kernel)) ggX3_readThings_X3_readRow
set_option maxRecDepth 20000 in
theorem ggX3_readThings_X3_readClause : GoodIn wsX3_readThings wsX3_readClause := goodIn_r _ [61, 1, 62, 63, 64, 5, 65, 66, 67, 68, 69, 70, 71, 43, 44, 45, 46, 47, 52, 53, 54, 26, 55, 56, 57, 76, 77, 78, 79, 80, 81, 82, 83, 84, 85, 86, 87, 88, 89, 90, 91, 92, 93, 94, 95, 96, 97] (by decide +kernel) (by decide +kernel)
set_option maxRecDepth 20000 in
theorem gX3_readThings_X3_readClause : GoodIn wsX3_readThings (wsV RX3 115 RX3 yX3_readClause wsX3_readClause) := goodIn_app (goodIn_of _ (by decide +kernel)) ggX3_readThings_X3_readClause
set_option maxRecDepth 20000 in
theorem ggX3_readThings_X5_allRead : GoodIn wsX3_readThings wsX5_allRead := goodIn_r _ [75, 12, 89, 90, 91, 92, 93, 94, 95, 96, 97] (by decide +kernel) (by decide +kernel)
set_option maxRecDepth 20000 in
theorem gX3_readThings_X5_allRead : GoodIn wsX3_readThings (wsV RX3 118 RX5 yX5_allRead wsX5_allRead) := goodIn_app (goodIn_of _ (by decide +kernel)) ggX3_readThings_X5_allRead
theorem dX3_readThings_0 : decode cX3_readThings 0 = .ok (.aload_n 0, 1) := by decide +kernel
theorem dX3_readThings_1 : decode cX3_readThings 1 = .ok (.getfield 25, 3) := by decide +kernel
theorem dX3_readThings_4 : decode cX3_readThings 4 = .ok (.invokevirtual 102, 3) := by decide +kernel
theorem dX3_readThings_7 : decode cX3_readThings 7 = .ok (.istore_n 1, 1) := by decide +kernel
theorem dX3_readThings_8 : decode cX3_readThings 8 = .ok (.iconst 0, 1) := by decide +kernel
theorem dX3_readThings_9 : decode cX3_readThings 9 = .ok (.istore_n 2, 1) := by decide +kernel
theorem dX3_readThings_10 : decode cX3_readThings 10 = .ok (.iload_n 2, 1) := by decide +kernel
theorem dX3_readThings_11 : decode cX3_readThings 11 = .ok (.iload_n 1, 1) := by decide +kernel
theorem dX3_readThings_12 : decode cX3_readThings 12 = .ok (.if_icmp .ge 44, 3) := by decide +kernel
theorem dX3_readThings_15 : decode cX3_readThings 15 = .ok (.aload_n 0, 1) := by decide +kernel
theorem dX3_readThings_16 : decode cX3_readThings 16 = .ok (.getfield 25, 3) := by decide +kernel
theorem dX3_readThings_19 : decode cX3_readThings 19 = .ok (.iload_n 2, 1) := by decide +kernel
theorem dX3_readThings_20 : decode cX3_readThings 20 = .ok (.invokevirtual 105, 3) := by decide +kernel
theorem dX3_readThings_23 : decode cX3_readThings 23 = .ok (.ifCond .eq 27, 3) := by decide +kernel
theorem dX3_readThings_26 : decode cX3_readThings 26 = .ok (.aload_n 0, 1) := by decide +kernel
theorem dX3_readThings_27 : decode cX3_readThings 27 = .ok (.getfield 25, 3) := by decide +kernel
theorem dX3_readThings_30 : decode cX3_readThings 30 = .ok (.iload_n 2, 1) := by decide +kernel
theorem dX3_readThings_31 : decode cX3_readThings 31 = .ok (.invokevirtual 109, 3) := by decide +kernel
theorem dX3_readThings_34 : decode cX3_readThings 34 = .ok (.ifCond .eq 11, 3) := by decide +kernel
theorem dX3_readThings_37 : decode cX3_readThings 37 = .ok (.aload_n 0, 1) := by decide +kernel
theorem dX3_readThings_38 : decode cX3_readThings 38 = .ok (.iload_n 2, 1) := by decide +kernel
theorem dX3_readThings_39 : decode cX3_readThings 39 = .ok (.invokevirtual 112, 3) := by decide +kernel
theorem dX3_readThings_42 : decode cX3_readThings 42 = .ok (.goto 8, 3) := by decide +kernel
theorem dX3_readThings_45 : decode cX3_readThings 45 = .ok (.aload_n 0, 1) := by decide +kernel
theorem dX3_readThings_46 : decode cX3_readThings 46 = .ok (.iload_n 2, 1) := by decide +kernel
theorem dX3_readThings_47 : decode cX3_readThings 47 = .ok (.invokevirtual 115, 3) := by decide +kernel
theorem dX3_readThings_50 : decode cX3_readThings 50 = .ok (.iinc 2 1, 3) := by decide +kernel
theorem dX3_readThings_53 : decode cX3_readThings 53 = .ok (.goto (-43), 3) := by decide +kernel
theorem dX3_readThings_56 : decode cX3_readThings 56 = .ok (.aload_n 0, 1) := by decide +kernel
theorem dX3_readThings_57 : decode cX3_readThings 57 = .ok (.getfield 25, 3) := by decide +kernel
theorem dX3_readThings_60 : decode cX3_readThings 60 = .ok (.invokevirtual 118, 3) := by decide +kernel
theorem dX3_readThings_63 : decode cX3_readThings 63 = .ok (.return_, 1) := by decide +kernel
set_option maxRecDepth 20000 in
theorem ggX3_readClause_X5_wantedTrue : GoodIn wsX3_readClause wsX5_wantedTrue := goodIn_r _ [6, 7, 38, 39, 40, 41, 42, 43, 44, 45, 46] (by decide +kernel) (by decide +kernel)
set_option maxRecDepth 20000 in
theorem gX3_readClause_X5_wantedTrue : GoodIn wsX3_readClause (wsV RX3 121 RX5 yX5_wantedTrue wsX5_wantedTrue) := goodIn_app (goodIn_of _ (by decide +kernel)) ggX3_readClause_X5_wantedTrue
set_option maxRecDepth 20000 in
theorem ggX3_readClause_X5_wantedFalse : GoodIn wsX3_readClause wsX5_wantedFalse := goodIn_r _ [11, 12, 38, 39, 40, 41, 42, 43, 44, 45, 46] (by decide +kernel) (by decide +kernel)
set_option maxRecDepth 20000 in
theorem gX3_readClause_X5_wantedFalse : GoodIn wsX3_readClause (wsV RX3 124 RX5 yX5_wantedFalse wsX5_wantedFalse) := goodIn_app (goodIn_of _ (by decide +kernel)) ggX3_readClause_X5_wantedFalse
set_option maxRecDepth 20000 in
theorem ggX3_readClause_X5_names : GoodIn wsX3_readClause wsX5_names := goodIn_r _ [16, 17, 38, 39, 40, 41, 42, 43, 44, 45, 46] (by decide +kernel) (by decide +kernel)
set_option maxRecDepth 20000 in
theorem gX3_readClause_X5_names : GoodIn wsX3_readClause (wsV RX3 84 RX5 yX5_names wsX5_names) := goodIn_app (goodIn_of _ (by decide +kernel)) ggX3_readClause_X5_names
set_option maxRecDepth 20000 in
theorem ggX3_readClause_X3_mark : GoodIn wsX3_readClause wsX3_mark := goodIn_r _ [22, 23, 24, 25, 26, 27, 28, 29, 30, 31, 32, 33, 34, 35, 36, 37] (by decide +kernel) (by decide +kernel)
set_option maxRecDepth 20000 in
theorem gX3_readClause_X3_mark : GoodIn wsX3_readClause (wsV RX3 127 RX3 yX3_mark wsX3_mark) := goodIn_app (goodIn_of _ (by decide +kernel)) ggX3_readClause_X3_mark
theorem dX3_readClause_0 : decode cX3_readClause 0 = .ok (.aload_n 0, 1) := by decide +kernel
theorem dX3_readClause_1 : decode cX3_readClause 1 = .ok (.getfield 25, 3) := by decide +kernel
theorem dX3_readClause_4 : decode cX3_readClause 4 = .ok (.iload_n 1, 1) := by decide +kernel
theorem dX3_readClause_5 : decode cX3_readClause 5 = .ok (.invokevirtual 121, 3) := by decide +kernel
theorem dX3_readClause_8 : decode cX3_readClause 8 = .ok (.istore_n 2, 1) := by decide +kernel
theorem dX3_readClause_9 : decode cX3_readClause 9 = .ok (.aload_n 0, 1) := by decide +kernel
theorem dX3_readClause_10 : decode cX3_readClause 10 = .ok (.getfield 25, 3) := by decide +kernel
theorem dX3_readClause_13 : decode cX3_readClause 13 = .ok (.iload_n 1, 1) := by decide +kernel
theorem dX3_readClause_14 : decode cX3_readClause 14 = .ok (.invokevirtual 124, 3) := by decide +kernel
theorem dX3_readClause_17 : decode cX3_readClause 17 = .ok (.istore_n 3, 1) := by decide +kernel
theorem dX3_readClause_18 : decode cX3_readClause 18 = .ok (.iconst 1, 1) := by decide +kernel
theorem dX3_readClause_19 : decode cX3_readClause 19 = .ok (.aload_n 0, 1) := by decide +kernel
theorem dX3_readClause_20 : decode cX3_readClause 20 = .ok (.getfield 25, 3) := by decide +kernel
theorem dX3_readClause_23 : decode cX3_readClause 23 = .ok (.invokevirtual 84, 3) := by decide +kernel
theorem dX3_readClause_26 : decode cX3_readClause 26 = .ok (.ishl, 1) := by decide +kernel
theorem dX3_readClause_27 : decode cX3_readClause 27 = .ok (.istore 4, 2) := by decide +kernel
theorem dX3_readClause_29 : decode cX3_readClause 29 = .ok (.iconst 0, 1) := by decide +kernel
theorem dX3_readClause_30 : decode cX3_readClause 30 = .ok (.istore 5, 2) := by decide +kernel
theorem dX3_readClause_32 : decode cX3_readClause 32 = .ok (.iload 5, 2) := by decide +kernel
theorem dX3_readClause_34 : decode cX3_readClause 34 = .ok (.iload 4, 2) := by decide +kernel
theorem dX3_readClause_36 : decode cX3_readClause 36 = .ok (.if_icmp .ge 37, 3) := by decide +kernel
theorem dX3_readClause_39 : decode cX3_readClause 39 = .ok (.aload_n 0, 1) := by decide +kernel
theorem dX3_readClause_40 : decode cX3_readClause 40 = .ok (.iload 5, 2) := by decide +kernel
theorem dX3_readClause_42 : decode cX3_readClause 42 = .ok (.iload_n 1, 1) := by decide +kernel
theorem dX3_readClause_43 : decode cX3_readClause 43 = .ok (.iload 5, 2) := by decide +kernel
theorem dX3_readClause_45 : decode cX3_readClause 45 = .ok (.iload_n 2, 1) := by decide +kernel
theorem dX3_readClause_46 : decode cX3_readClause 46 = .ok (.iand, 1) := by decide +kernel
theorem dX3_readClause_47 : decode cX3_readClause 47 = .ok (.ifCond .ne 16, 3) := by decide +kernel
theorem dX3_readClause_50 : decode cX3_readClause 50 = .ok (.iload 5, 2) := by decide +kernel
theorem dX3_readClause_52 : decode cX3_readClause 52 = .ok (.iconst (-1), 1) := by decide +kernel
theorem dX3_readClause_53 : decode cX3_readClause 53 = .ok (.ixor, 1) := by decide +kernel
theorem dX3_readClause_54 : decode cX3_readClause 54 = .ok (.iload_n 3, 1) := by decide +kernel
theorem dX3_readClause_55 : decode cX3_readClause 55 = .ok (.iand, 1) := by decide +kernel
theorem dX3_readClause_56 : decode cX3_readClause 56 = .ok (.ifCond .ne 7, 3) := by decide +kernel
theorem dX3_readClause_59 : decode cX3_readClause 59 = .ok (.iconst 1, 1) := by decide +kernel
theorem dX3_readClause_60 : decode cX3_readClause 60 = .ok (.goto 4, 3) := by decide +kernel
theorem dX3_readClause_63 : decode cX3_readClause 63 = .ok (.iconst 0, 1) := by decide +kernel
theorem dX3_readClause_64 : decode cX3_readClause 64 = .ok (.invokevirtual 127, 3) := by decide +kernel
theorem dX3_readClause_67 : decode cX3_readClause 67 = .ok (.iinc 5 1, 3) := by decide +kernel
theorem dX3_readClause_70 : decode cX3_readClause 70 = .ok (.goto (-38), 3) := by decide +kernel
theorem dX3_readClause_73 : decode cX3_readClause 73 = .ok (.return_, 1) := by decide +kernel
set_option maxRecDepth 20000 in
theorem ggX3_readRow_X5_weightOf : GoodIn wsX3_readRow wsX5_weightOf := goodIn_r _ [8, 9, 47, 48, 49, 50, 51, 52, 53, 54, 55] (by decide +kernel) (by decide +kernel)
set_option maxRecDepth 20000 in
theorem gX3_readRow_X5_weightOf : GoodIn wsX3_readRow (wsV RX3 131 RX5 yX5_weightOf wsX5_weightOf) := goodIn_app (goodIn_of _ (by decide +kernel)) ggX3_readRow_X5_weightOf
set_option maxRecDepth 20000 in
theorem ggX3_readRow_X3_widen : GoodIn wsX3_readRow wsX3_widen := goodIn_r _ [13] (by decide +kernel) (by decide +kernel)
set_option maxRecDepth 20000 in
theorem gX3_readRow_X3_widen : GoodIn wsX3_readRow (va_wsS RX3 135 yX3_widen wsX3_widen) := goodIn_app (goodIn_of _ (by decide +kernel)) ggX3_readRow_X3_widen
set_option maxRecDepth 20000 in
theorem ggX3_readRow_X5_boundOf : GoodIn wsX3_readRow wsX5_boundOf := goodIn_r _ [17, 18, 47, 48, 49, 50, 51, 52, 53, 54, 55] (by decide +kernel) (by decide +kernel)
set_option maxRecDepth 20000 in
theorem gX3_readRow_X5_boundOf : GoodIn wsX3_readRow (wsV RX3 139 RX5 yX5_boundOf wsX5_boundOf) := goodIn_app (goodIn_of _ (by decide +kernel)) ggX3_readRow_X5_boundOf
set_option maxRecDepth 20000 in
theorem ggX3_readRow_X5_names : GoodIn wsX3_readRow wsX5_names := goodIn_r _ [22, 23, 47, 48, 49, 50, 51, 52, 53, 54, 55] (by decide +kernel) (by decide +kernel)
set_option maxRecDepth 20000 in
theorem gX3_readRow_X5_names : GoodIn wsX3_readRow (wsV RX3 84 RX5 yX5_names wsX5_names) := goodIn_app (goodIn_of _ (by decide +kernel)) ggX3_readRow_X5_names
set_option maxRecDepth 20000 in
theorem ggX3_readRow_X3_sumOf : GoodIn wsX3_readRow wsX3_sumOf := goodIn_r _ [27, 1, 2, 34, 35, 36, 37, 38, 39, 40, 41, 42, 43, 44, 45, 46] (by decide +kernel) (by decide +kernel)
set_option maxRecDepth 20000 in
theorem gX3_readRow_X3_sumOf : GoodIn wsX3_readRow (wsV RX3 94 RX3 yX3_sumOf wsX3_sumOf) := goodIn_app (goodIn_of _ (by decide +kernel)) ggX3_readRow_X3_sumOf
set_option maxRecDepth 20000 in
theorem ggX3_readRow_X3_mark : GoodIn wsX3_readRow wsX3_mark := goodIn_r _ [31, 32, 33, 34, 35, 36, 37, 38, 39, 40, 41, 42, 43, 44, 45, 46] (by decide +kernel) (by decide +kernel)
set_option maxRecDepth 20000 in
theorem gX3_readRow_X3_mark : GoodIn wsX3_readRow (wsV RX3 127 RX3 yX3_mark wsX3_mark) := goodIn_app (goodIn_of _ (by decide +kernel)) ggX3_readRow_X3_mark
theorem dX3_readRow_0 : decode cX3_readRow 0 = .ok (.aload_n 0, 1) := by decide +kernel
theorem dX3_readRow_1 : decode cX3_readRow 1 = .ok (.getfield 19, 3) := by decide +kernel
theorem dX3_readRow_4 : decode cX3_readRow 4 = .ok (.iconst 0, 1) := by decide +kernel
theorem dX3_readRow_5 : decode cX3_readRow 5 = .ok (.iconst 0, 1) := by decide +kernel
theorem dX3_readRow_6 : decode cX3_readRow 6 = .ok (.iastore, 1) := by decide +kernel
theorem dX3_readRow_7 : decode cX3_readRow 7 = .ok (.aload_n 0, 1) := by decide +kernel
theorem dX3_readRow_8 : decode cX3_readRow 8 = .ok (.getfield 22, 3) := by decide +kernel
theorem dX3_readRow_11 : decode cX3_readRow 11 = .ok (.iconst 0, 1) := by decide +kernel
theorem dX3_readRow_12 : decode cX3_readRow 12 = .ok (.iconst 0, 1) := by decide +kernel
theorem dX3_readRow_13 : decode cX3_readRow 13 = .ok (.iastore, 1) := by decide +kernel
theorem dX3_readRow_14 : decode cX3_readRow 14 = .ok (.iconst 0, 1) := by decide +kernel
theorem dX3_readRow_15 : decode cX3_readRow 15 = .ok (.istore_n 2, 1) := by decide +kernel
theorem dX3_readRow_16 : decode cX3_readRow 16 = .ok (.iload_n 2, 1) := by decide +kernel
theorem dX3_readRow_17 : decode cX3_readRow 17 = .ok (.bipush 7, 2) := by decide +kernel
theorem dX3_readRow_19 : decode cX3_readRow 19 = .ok (.if_icmp .ge 46, 3) := by decide +kernel
theorem dX3_readRow_22 : decode cX3_readRow 22 = .ok (.aload_n 0, 1) := by decide +kernel
theorem dX3_readRow_23 : decode cX3_readRow 23 = .ok (.getfield 19, 3) := by decide +kernel
theorem dX3_readRow_26 : decode cX3_readRow 26 = .ok (.iload_n 2, 1) := by decide +kernel
theorem dX3_readRow_27 : decode cX3_readRow 27 = .ok (.aload_n 0, 1) := by decide +kernel
theorem dX3_readRow_28 : decode cX3_readRow 28 = .ok (.getfield 25, 3) := by decide +kernel
theorem dX3_readRow_31 : decode cX3_readRow 31 = .ok (.iload_n 1, 1) := by decide +kernel
theorem dX3_readRow_32 : decode cX3_readRow 32 = .ok (.iload_n 2, 1) := by decide +kernel
theorem dX3_readRow_33 : decode cX3_readRow 33 = .ok (.invokevirtual 131, 3) := by decide +kernel
theorem dX3_readRow_36 : decode cX3_readRow 36 = .ok (.invokestatic 135, 3) := by decide +kernel
theorem dX3_readRow_39 : decode cX3_readRow 39 = .ok (.aload_n 0, 1) := by decide +kernel
theorem dX3_readRow_40 : decode cX3_readRow 40 = .ok (.getfield 22, 3) := by decide +kernel
theorem dX3_readRow_43 : decode cX3_readRow 43 = .ok (.iload_n 2, 1) := by decide +kernel
theorem dX3_readRow_44 : decode cX3_readRow 44 = .ok (.aload_n 0, 1) := by decide +kernel
theorem dX3_readRow_45 : decode cX3_readRow 45 = .ok (.getfield 25, 3) := by decide +kernel
theorem dX3_readRow_48 : decode cX3_readRow 48 = .ok (.iload_n 1, 1) := by decide +kernel
theorem dX3_readRow_49 : decode cX3_readRow 49 = .ok (.iload_n 2, 1) := by decide +kernel
theorem dX3_readRow_50 : decode cX3_readRow 50 = .ok (.bipush 7, 2) := by decide +kernel
theorem dX3_readRow_52 : decode cX3_readRow 52 = .ok (.iadd, 1) := by decide +kernel
theorem dX3_readRow_53 : decode cX3_readRow 53 = .ok (.invokevirtual 131, 3) := by decide +kernel
theorem dX3_readRow_56 : decode cX3_readRow 56 = .ok (.invokestatic 135, 3) := by decide +kernel
theorem dX3_readRow_59 : decode cX3_readRow 59 = .ok (.iinc 2 1, 3) := by decide +kernel
theorem dX3_readRow_62 : decode cX3_readRow 62 = .ok (.goto (-46), 3) := by decide +kernel
theorem dX3_readRow_65 : decode cX3_readRow 65 = .ok (.aload_n 0, 1) := by decide +kernel
theorem dX3_readRow_66 : decode cX3_readRow 66 = .ok (.getfield 25, 3) := by decide +kernel
theorem dX3_readRow_69 : decode cX3_readRow 69 = .ok (.iload_n 1, 1) := by decide +kernel
theorem dX3_readRow_70 : decode cX3_readRow 70 = .ok (.invokevirtual 139, 3) := by decide +kernel
theorem dX3_readRow_73 : decode cX3_readRow 73 = .ok (.istore_n 2, 1) := by decide +kernel
theorem dX3_readRow_74 : decode cX3_readRow 74 = .ok (.iconst 1, 1) := by decide +kernel
theorem dX3_readRow_75 : decode cX3_readRow 75 = .ok (.aload_n 0, 1) := by decide +kernel
theorem dX3_readRow_76 : decode cX3_readRow 76 = .ok (.getfield 25, 3) := by decide +kernel
theorem dX3_readRow_79 : decode cX3_readRow 79 = .ok (.invokevirtual 84, 3) := by decide +kernel
theorem dX3_readRow_82 : decode cX3_readRow 82 = .ok (.ishl, 1) := by decide +kernel
theorem dX3_readRow_83 : decode cX3_readRow 83 = .ok (.istore_n 3, 1) := by decide +kernel
theorem dX3_readRow_84 : decode cX3_readRow 84 = .ok (.iconst 0, 1) := by decide +kernel
theorem dX3_readRow_85 : decode cX3_readRow 85 = .ok (.istore 4, 2) := by decide +kernel
theorem dX3_readRow_87 : decode cX3_readRow 87 = .ok (.iload 4, 2) := by decide +kernel
theorem dX3_readRow_89 : decode cX3_readRow 89 = .ok (.iload_n 3, 1) := by decide +kernel
theorem dX3_readRow_90 : decode cX3_readRow 90 = .ok (.if_icmp .ge 31, 3) := by decide +kernel
theorem dX3_readRow_93 : decode cX3_readRow 93 = .ok (.aload_n 0, 1) := by decide +kernel
theorem dX3_readRow_94 : decode cX3_readRow 94 = .ok (.iload 4, 2) := by decide +kernel
theorem dX3_readRow_96 : decode cX3_readRow 96 = .ok (.iload_n 1, 1) := by decide +kernel
theorem dX3_readRow_97 : decode cX3_readRow 97 = .ok (.aload_n 0, 1) := by decide +kernel
theorem dX3_readRow_98 : decode cX3_readRow 98 = .ok (.iload 4, 2) := by decide +kernel
theorem dX3_readRow_100 : decode cX3_readRow 100 = .ok (.invokevirtual 94, 3) := by decide +kernel
theorem dX3_readRow_103 : decode cX3_readRow 103 = .ok (.iload_n 2, 1) := by decide +kernel
theorem dX3_readRow_104 : decode cX3_readRow 104 = .ok (.if_icmp .le 7, 3) := by decide +kernel
theorem dX3_readRow_107 : decode cX3_readRow 107 = .ok (.iconst 1, 1) := by decide +kernel
theorem dX3_readRow_108 : decode cX3_readRow 108 = .ok (.goto 4, 3) := by decide +kernel
theorem dX3_readRow_111 : decode cX3_readRow 111 = .ok (.iconst 0, 1) := by decide +kernel
theorem dX3_readRow_112 : decode cX3_readRow 112 = .ok (.invokevirtual 127, 3) := by decide +kernel
theorem dX3_readRow_115 : decode cX3_readRow 115 = .ok (.iinc 4 1, 3) := by decide +kernel
theorem dX3_readRow_118 : decode cX3_readRow 118 = .ok (.goto (-31), 3) := by decide +kernel
theorem dX3_readRow_121 : decode cX3_readRow 121 = .ok (.return_, 1) := by decide +kernel
set_option maxRecDepth 20000 in
theorem ggX3_layOutCosts_X3_widen : GoodIn wsX3_layOutCosts wsX3_widen := goodIn_r _ [7] (by decide +kernel) (by decide +kernel)
set_option maxRecDepth 20000 in
theorem gX3_layOutCosts_X3_widen : GoodIn wsX3_layOutCosts (va_wsS RX3 135 yX3_widen wsX3_widen) := goodIn_app (goodIn_of _ (by decide +kernel)) ggX3_layOutCosts_X3_widen
theorem dX3_layOutCosts_0 : decode cX3_layOutCosts 0 = .ok (.aload_n 0, 1) := by decide +kernel
theorem dX3_layOutCosts_1 : decode cX3_layOutCosts 1 = .ok (.getfield 19, 3) := by decide +kernel
theorem dX3_layOutCosts_4 : decode cX3_layOutCosts 4 = .ok (.iconst 0, 1) := by decide +kernel
theorem dX3_layOutCosts_5 : decode cX3_layOutCosts 5 = .ok (.iconst 0, 1) := by decide +kernel
theorem dX3_layOutCosts_6 : decode cX3_layOutCosts 6 = .ok (.iastore, 1) := by decide +kernel
theorem dX3_layOutCosts_7 : decode cX3_layOutCosts 7 = .ok (.aload_n 0, 1) := by decide +kernel
theorem dX3_layOutCosts_8 : decode cX3_layOutCosts 8 = .ok (.getfield 22, 3) := by decide +kernel
theorem dX3_layOutCosts_11 : decode cX3_layOutCosts 11 = .ok (.iconst 0, 1) := by decide +kernel
theorem dX3_layOutCosts_12 : decode cX3_layOutCosts 12 = .ok (.iconst 0, 1) := by decide +kernel
theorem dX3_layOutCosts_13 : decode cX3_layOutCosts 13 = .ok (.iastore, 1) := by decide +kernel
theorem dX3_layOutCosts_14 : decode cX3_layOutCosts 14 = .ok (.iconst 0, 1) := by decide +kernel
theorem dX3_layOutCosts_15 : decode cX3_layOutCosts 15 = .ok (.istore_n 1, 1) := by decide +kernel
theorem dX3_layOutCosts_16 : decode cX3_layOutCosts 16 = .ok (.iload_n 1, 1) := by decide +kernel
theorem dX3_layOutCosts_17 : decode cX3_layOutCosts 17 = .ok (.bipush 7, 2) := by decide +kernel
theorem dX3_layOutCosts_19 : decode cX3_layOutCosts 19 = .ok (.if_icmp .ge 40, 3) := by decide +kernel
theorem dX3_layOutCosts_22 : decode cX3_layOutCosts 22 = .ok (.aload_n 0, 1) := by decide +kernel
theorem dX3_layOutCosts_23 : decode cX3_layOutCosts 23 = .ok (.getfield 19, 3) := by decide +kernel
theorem dX3_layOutCosts_26 : decode cX3_layOutCosts 26 = .ok (.iload_n 1, 1) := by decide +kernel
theorem dX3_layOutCosts_27 : decode cX3_layOutCosts 27 = .ok (.aload_n 0, 1) := by decide +kernel
theorem dX3_layOutCosts_28 : decode cX3_layOutCosts 28 = .ok (.getfield 15, 3) := by decide +kernel
theorem dX3_layOutCosts_31 : decode cX3_layOutCosts 31 = .ok (.iload_n 1, 1) := by decide +kernel
theorem dX3_layOutCosts_32 : decode cX3_layOutCosts 32 = .ok (.iaload, 1) := by decide +kernel
theorem dX3_layOutCosts_33 : decode cX3_layOutCosts 33 = .ok (.invokestatic 135, 3) := by decide +kernel
theorem dX3_layOutCosts_36 : decode cX3_layOutCosts 36 = .ok (.aload_n 0, 1) := by decide +kernel
theorem dX3_layOutCosts_37 : decode cX3_layOutCosts 37 = .ok (.getfield 22, 3) := by decide +kernel
theorem dX3_layOutCosts_40 : decode cX3_layOutCosts 40 = .ok (.iload_n 1, 1) := by decide +kernel
theorem dX3_layOutCosts_41 : decode cX3_layOutCosts 41 = .ok (.aload_n 0, 1) := by decide +kernel
theorem dX3_layOutCosts_42 : decode cX3_layOutCosts 42 = .ok (.getfield 15, 3) := by decide +kernel
theorem dX3_layOutCosts_45 : decode cX3_layOutCosts 45 = .ok (.iload_n 1, 1) := by decide +kernel
theorem dX3_layOutCosts_46 : decode cX3_layOutCosts 46 = .ok (.bipush 7, 2) := by decide +kernel
theorem dX3_layOutCosts_48 : decode cX3_layOutCosts 48 = .ok (.iadd, 1) := by decide +kernel
theorem dX3_layOutCosts_49 : decode cX3_layOutCosts 49 = .ok (.iaload, 1) := by decide +kernel
theorem dX3_layOutCosts_50 : decode cX3_layOutCosts 50 = .ok (.invokestatic 135, 3) := by decide +kernel
theorem dX3_layOutCosts_53 : decode cX3_layOutCosts 53 = .ok (.iinc 1 1, 3) := by decide +kernel
theorem dX3_layOutCosts_56 : decode cX3_layOutCosts 56 = .ok (.goto (-40), 3) := by decide +kernel
theorem dX3_layOutCosts_59 : decode cX3_layOutCosts 59 = .ok (.return_, 1) := by decide +kernel
theorem dX3_widen_0 : decode cX3_widen 0 = .ok (.iconst 1, 1) := by decide +kernel
theorem dX3_widen_1 : decode cX3_widen 1 = .ok (.iload_n 1, 1) := by decide +kernel
theorem dX3_widen_2 : decode cX3_widen 2 = .ok (.ishl, 1) := by decide +kernel
theorem dX3_widen_3 : decode cX3_widen 3 = .ok (.istore_n 3, 1) := by decide +kernel
theorem dX3_widen_4 : decode cX3_widen 4 = .ok (.iconst 0, 1) := by decide +kernel
theorem dX3_widen_5 : decode cX3_widen 5 = .ok (.istore 4, 2) := by decide +kernel
theorem dX3_widen_7 : decode cX3_widen 7 = .ok (.iload 4, 2) := by decide +kernel
theorem dX3_widen_9 : decode cX3_widen 9 = .ok (.iload_n 3, 1) := by decide +kernel
theorem dX3_widen_10 : decode cX3_widen 10 = .ok (.if_icmp .ge 21, 3) := by decide +kernel
theorem dX3_widen_13 : decode cX3_widen 13 = .ok (.aload_n 0, 1) := by decide +kernel
theorem dX3_widen_14 : decode cX3_widen 14 = .ok (.iload 4, 2) := by decide +kernel
theorem dX3_widen_16 : decode cX3_widen 16 = .ok (.iload_n 3, 1) := by decide +kernel
theorem dX3_widen_17 : decode cX3_widen 17 = .ok (.ior, 1) := by decide +kernel
theorem dX3_widen_18 : decode cX3_widen 18 = .ok (.aload_n 0, 1) := by decide +kernel
theorem dX3_widen_19 : decode cX3_widen 19 = .ok (.iload 4, 2) := by decide +kernel
theorem dX3_widen_21 : decode cX3_widen 21 = .ok (.iaload, 1) := by decide +kernel
theorem dX3_widen_22 : decode cX3_widen 22 = .ok (.iload_n 2, 1) := by decide +kernel
theorem dX3_widen_23 : decode cX3_widen 23 = .ok (.iadd, 1) := by decide +kernel
theorem dX3_widen_24 : decode cX3_widen 24 = .ok (.iastore, 1) := by decide +kernel
theorem dX3_widen_25 : decode cX3_widen 25 = .ok (.iinc 4 1, 3) := by decide +kernel
theorem dX3_widen_28 : decode cX3_widen 28 = .ok (.goto (-21), 3) := by decide +kernel
theorem dX3_widen_31 : decode cX3_widen 31 = .ok (.return_, 1) := by decide +kernel
theorem dX3_sumOf_0 : decode cX3_sumOf 0 = .ok (.aload_n 0, 1) := by decide +kernel
theorem dX3_sumOf_1 : decode cX3_sumOf 1 = .ok (.getfield 19, 3) := by decide +kernel
theorem dX3_sumOf_4 : decode cX3_sumOf 4 = .ok (.iload_n 1, 1) := by decide +kernel
theorem dX3_sumOf_5 : decode cX3_sumOf 5 = .ok (.bipush 127, 2) := by decide +kernel
theorem dX3_sumOf_7 : decode cX3_sumOf 7 = .ok (.iand, 1) := by decide +kernel
theorem dX3_sumOf_8 : decode cX3_sumOf 8 = .ok (.iaload, 1) := by decide +kernel
theorem dX3_sumOf_9 : decode cX3_sumOf 9 = .ok (.aload_n 0, 1) := by decide +kernel
theorem dX3_sumOf_10 : decode cX3_sumOf 10 = .ok (.getfield 22, 3) := by decide +kernel
theorem dX3_sumOf_13 : decode cX3_sumOf 13 = .ok (.iload_n 1, 1) := by decide +kernel
theorem dX3_sumOf_14 : decode cX3_sumOf 14 = .ok (.bipush 7, 2) := by decide +kernel
theorem dX3_sumOf_16 : decode cX3_sumOf 16 = .ok (.ishr, 1) := by decide +kernel
theorem dX3_sumOf_17 : decode cX3_sumOf 17 = .ok (.bipush 127, 2) := by decide +kernel
theorem dX3_sumOf_19 : decode cX3_sumOf 19 = .ok (.iand, 1) := by decide +kernel
theorem dX3_sumOf_20 : decode cX3_sumOf 20 = .ok (.iaload, 1) := by decide +kernel
theorem dX3_sumOf_21 : decode cX3_sumOf 21 = .ok (.iadd, 1) := by decide +kernel
theorem dX3_sumOf_22 : decode cX3_sumOf 22 = .ok (.ireturn, 1) := by decide +kernel
theorem dX3_mark_0 : decode cX3_mark 0 = .ok (.lconst 1, 1) := by decide +kernel
theorem dX3_mark_1 : decode cX3_mark 1 = .ok (.iload_n 2, 1) := by decide +kernel
theorem dX3_mark_2 : decode cX3_mark 2 = .ok (.lshl, 1) := by decide +kernel
theorem dX3_mark_3 : decode cX3_mark 3 = .ok (.lstore 4, 2) := by decide +kernel
theorem dX3_mark_5 : decode cX3_mark 5 = .ok (.aload_n 0, 1) := by decide +kernel
theorem dX3_mark_6 : decode cX3_mark 6 = .ok (.getfield 11, 3) := by decide +kernel
theorem dX3_mark_9 : decode cX3_mark 9 = .ok (.iload_n 1, 1) := by decide +kernel
theorem dX3_mark_10 : decode cX3_mark 10 = .ok (.iload_n 3, 1) := by decide +kernel
theorem dX3_mark_11 : decode cX3_mark 11 = .ok (.ifCond .eq 15, 3) := by decide +kernel
theorem dX3_mark_14 : decode cX3_mark 14 = .ok (.aload_n 0, 1) := by decide +kernel
theorem dX3_mark_15 : decode cX3_mark 15 = .ok (.getfield 11, 3) := by decide +kernel
theorem dX3_mark_18 : decode cX3_mark 18 = .ok (.iload_n 1, 1) := by decide +kernel
theorem dX3_mark_19 : decode cX3_mark 19 = .ok (.laload, 1) := by decide +kernel
theorem dX3_mark_20 : decode cX3_mark 20 = .ok (.lload 4, 2) := by decide +kernel
theorem dX3_mark_22 : decode cX3_mark 22 = .ok (.lor, 1) := by decide +kernel
theorem dX3_mark_23 : decode cX3_mark 23 = .ok (.goto 16, 3) := by decide +kernel
theorem dX3_mark_26 : decode cX3_mark 26 = .ok (.aload_n 0, 1) := by decide +kernel
theorem dX3_mark_27 : decode cX3_mark 27 = .ok (.getfield 11, 3) := by decide +kernel
theorem dX3_mark_30 : decode cX3_mark 30 = .ok (.iload_n 1, 1) := by decide +kernel
theorem dX3_mark_31 : decode cX3_mark 31 = .ok (.laload, 1) := by decide +kernel
theorem dX3_mark_32 : decode cX3_mark 32 = .ok (.lload 4, 2) := by decide +kernel
theorem dX3_mark_34 : decode cX3_mark 34 = .ok (.ldc2_w 78, 3) := by decide +kernel
theorem dX3_mark_37 : decode cX3_mark 37 = .ok (.lxor, 1) := by decide +kernel
theorem dX3_mark_38 : decode cX3_mark 38 = .ok (.land, 1) := by decide +kernel
theorem dX3_mark_39 : decode cX3_mark 39 = .ok (.lastore, 1) := by decide +kernel
theorem dX3_mark_40 : decode cX3_mark 40 = .ok (.return_, 1) := by decide +kernel
theorem dX4_init_0 : decode cX4_init 0 = .ok (.aload_n 0, 1) := by decide +kernel
theorem dX4_init_1 : decode cX4_init 1 = .ok (.invokespecial 3, 3) := by decide +kernel
theorem dX4_init_4 : decode cX4_init 4 = .ok (.aload_n 0, 1) := by decide +kernel
theorem dX4_init_5 : decode cX4_init 5 = .ok (.aload_n 1, 1) := by decide +kernel
theorem dX4_init_6 : decode cX4_init 6 = .ok (.putfield 9, 3) := by decide +kernel
theorem dX4_init_9 : decode cX4_init 9 = .ok (.aload_n 0, 1) := by decide +kernel
theorem dX4_init_10 : decode cX4_init 10 = .ok (.aload_n 2, 1) := by decide +kernel
theorem dX4_init_11 : decode cX4_init 11 = .ok (.putfield 15, 3) := by decide +kernel
theorem dX4_init_14 : decode cX4_init 14 = .ok (.aload_n 0, 1) := by decide +kernel
theorem dX4_init_15 : decode cX4_init 15 = .ok (.aload_n 3, 1) := by decide +kernel
theorem dX4_init_16 : decode cX4_init 16 = .ok (.putfield 19, 3) := by decide +kernel
theorem dX4_init_19 : decode cX4_init 19 = .ok (.return_, 1) := by decide +kernel
theorem dX4_outdate_0 : decode cX4_outdate 0 = .ok (.aload_n 0, 1) := by decide +kernel
theorem dX4_outdate_1 : decode cX4_outdate 1 = .ok (.iconst 0, 1) := by decide +kernel
theorem dX4_outdate_2 : decode cX4_outdate 2 = .ok (.putfield 23, 3) := by decide +kernel
theorem dX4_outdate_5 : decode cX4_outdate 5 = .ok (.return_, 1) := by decide +kernel
set_option maxRecDepth 20000 in
theorem ggX4_run_X4_start : GoodIn wsX4_run wsX4_start := goodIn_r _ [10, 11, 12, 13, 5, 14, 4, 15, 16, 17, 18, 19, 20, 21, 22, 23, 24, 25, 178, 179, 180, 181, 182, 183, 184, 185, 186, 187, 188, 189] (by decide +kernel) (by decide +kernel)
set_option maxRecDepth 20000 in
theorem gX4_run_X4_start : GoodIn wsX4_run (wsV RX4 27 RX4 yX4_start wsX4_start) := goodIn_app (goodIn_of _ (by decide +kernel)) ggX4_run_X4_start
set_option maxRecDepth 20000 in
theorem ggX4_run_X0_clashes : GoodIn wsX4_run wsX0_clashes := goodIn_r _ [30, 31, 32, 33, 34, 35, 36, 29, 37, 38, 39, 40, 41, 42, 43, 44, 45, 46, 47, 48, 49, 50, 51, 52, 53, 54, 55, 56, 57, 58, 59, 60, 61, 62, 63, 64, 65, 66, 67, 68, 69, 70, 71, 72, 73, 74, 75, 76, 77, 78, 79, 80, 81, 82, 83, 84, 85, 86, 87, 88, 89, 90, 91, 92, 93, 94, 95, 96, 97, 98, 99, 100, 101, 102, 103, 104, 105, 106, 107, 108, 109, 110, 111, 112, 113, 114, 115, 116, 117, 118, 119, 120, 121, 122, 123, 124, 125, 126, 127, 128, 129, 130, 131, 132, 133, 134, 135, 18, 136, 20, 137, 138, 139, 140, 21, 190, 191, 192, 193, 194, 195, 196, 197, 198, 199, 200, 201, 202, 203, 204, 205, 206, 207, 187, 188, 189] (by decide +kernel) (by decide +kernel)
set_option maxRecDepth 20000 in
theorem gX4_run_X0_clashes : GoodIn wsX4_run (wsV RX4 37 RX0 yX0_clashes wsX0_clashes) := goodIn_app (goodIn_of _ (by decide +kernel)) ggX4_run_X0_clashes
set_option maxRecDepth 20000 in
theorem ggX4_run_X4_choose : GoodIn wsX4_run wsX4_choose := goodIn_r _ [144, 145, 3, 12, 13, 1, 4, 14, 146, 147, 148, 42, 149, 72, 150, 151, 152, 29, 153, 31, 154, 155, 156, 157, 32, 178, 179, 180, 181, 182, 183, 184, 185, 186, 196, 197, 198, 199, 200, 201, 202, 203, 204, 190, 191, 192, 193, 194, 195] (by decide +kernel) (by decide +kernel)
set_option maxRecDepth 20000 in
theorem gX4_run_X4_choose : GoodIn wsX4_run (wsV RX4 41 RX4 yX4_choose wsX4_choose) := goodIn_app (goodIn_of _ (by decide +kernel)) ggX4_run_X4_choose
set_option maxRecDepth 20000 in
theorem ggX4_run_X4_reason : GoodIn wsX4_run wsX4_reason := goodIn_r _ [161, 4, 3, 26, 27, 28, 29, 30, 31, 32, 33, 34, 35, 36, 37, 38, 39, 40, 41, 42, 43, 44, 45, 46, 47, 48, 49, 50, 51, 52, 53, 54, 55, 56, 57, 58, 59, 60, 61, 62, 63, 64, 65, 66, 67, 68, 69, 70, 71, 72, 73, 74, 75, 76, 77, 78, 79, 80, 81, 82, 83, 84, 85, 86, 87, 88, 89, 90, 91, 92, 93, 94, 95, 96, 97, 98, 99, 100, 101, 102, 103, 104, 105, 106, 107, 108, 109, 110, 111, 112, 113, 114, 115, 116, 117, 118, 119, 120, 121, 122, 123, 124, 125, 126, 127, 128, 129, 130, 131, 132, 133, 134, 135, 18, 136, 20, 137, 138, 139, 140, 21, 178, 179, 180, 181, 182, 183, 184, 185, 186, 190, 191, 192, 193, 194, 195, 196, 197, 198, 199, 200, 201, 202, 203, 204, 205, 206, 207, 187, 188, 189] (by decide +kernel) (by decide +kernel)
set_option maxRecDepth 20000 in
theorem gX4_run_X4_reason : GoodIn wsX4_run (wsV RX4 47 RX4 yX4_reason wsX4_reason) := goodIn_app (goodIn_of _ (by decide +kernel)) ggX4_run_X4_reason
set_option maxRecDepth 20000 in
theorem ggX4_run_X4_learn : GoodIn wsX4_run wsX4_learn := goodIn_r _ [165, 11, 145, 4, 146, 147, 148, 42, 149, 72, 166, 167, 168, 18, 169, 20, 170, 171, 172, 173, 174, 21, 175, 176, 9, 177, 178, 179, 180, 181, 182, 183, 184, 185, 186, 196, 197, 198, 199, 200, 201, 202, 203, 204, 187, 188, 189] (by decide +kernel) (by decide +kernel)
set_option maxRecDepth 20000 in
theorem gX4_run_X4_learn : GoodIn wsX4_run (wsV RX4 51 RX4 yX4_learn wsX4_learn) := goodIn_app (goodIn_of _ (by decide +kernel)) ggX4_run_X4_learn
theorem dX4_run_0 : decode cX4_run 0 = .ok (.aload_n 0, 1) := by decide +kernel
theorem dX4_run_1 : decode cX4_run 1 = .ok (.getfield 23, 3) := by decide +kernel
theorem dX4_run_4 : decode cX4_run 4 = .ok (.ifCond .eq 4, 3) := by decide +kernel
theorem dX4_run_7 : decode cX4_run 7 = .ok (.return_, 1) := by decide +kernel
theorem dX4_run_8 : decode cX4_run 8 = .ok (.aload_n 0, 1) := by decide +kernel
theorem dX4_run_9 : decode cX4_run 9 = .ok (.invokevirtual 27, 3) := by decide +kernel
theorem dX4_run_12 : decode cX4_run 12 = .ok (.iconst 0, 1) := by decide +kernel
theorem dX4_run_13 : decode cX4_run 13 = .ok (.istore_n 1, 1) := by decide +kernel
theorem dX4_run_14 : decode cX4_run 14 = .ok (.iload_n 1, 1) := by decide +kernel
theorem dX4_run_15 : decode cX4_run 15 = .ok (.ldc 30, 2) := by decide +kernel
theorem dX4_run_17 : decode cX4_run 17 = .ok (.if_icmp .ge 80, 3) := by decide +kernel
theorem dX4_run_20 : decode cX4_run 20 = .ok (.aload_n 0, 1) := by decide +kernel
theorem dX4_run_21 : decode cX4_run 21 = .ok (.getfield 23, 3) := by decide +kernel
theorem dX4_run_24 : decode cX4_run 24 = .ok (.ifCond .ne 73, 3) := by decide +kernel
theorem dX4_run_27 : decode cX4_run 27 = .ok (.aload_n 0, 1) := by decide +kernel
theorem dX4_run_28 : decode cX4_run 28 = .ok (.getfield 15, 3) := by decide +kernel
theorem dX4_run_31 : decode cX4_run 31 = .ok (.iconst 0, 1) := by decide +kernel
theorem dX4_run_32 : decode cX4_run 32 = .ok (.aload_n 0, 1) := by decide +kernel
theorem dX4_run_33 : decode cX4_run 33 = .ok (.getfield 31, 3) := by decide +kernel
theorem dX4_run_36 : decode cX4_run 36 = .ok (.iconst 2, 1) := by decide +kernel
theorem dX4_run_37 : decode cX4_run 37 = .ok (.invokevirtual 37, 3) := by decide +kernel
theorem dX4_run_40 : decode cX4_run 40 = .ok (.ifCond .ne 10, 3) := by decide +kernel
theorem dX4_run_43 : decode cX4_run 43 = .ok (.aload_n 0, 1) := by decide +kernel
theorem dX4_run_44 : decode cX4_run 44 = .ok (.invokevirtual 41, 3) := by decide +kernel
theorem dX4_run_47 : decode cX4_run 47 = .ok (.goto 44, 3) := by decide +kernel
theorem dX4_run_50 : decode cX4_run 50 = .ok (.aload_n 0, 1) := by decide +kernel
theorem dX4_run_51 : decode cX4_run 51 = .ok (.dup, 1) := by decide +kernel
theorem dX4_run_52 : decode cX4_run 52 = .ok (.getfield 44, 3) := by decide +kernel
theorem dX4_run_55 : decode cX4_run 55 = .ok (.iconst 1, 1) := by decide +kernel
theorem dX4_run_56 : decode cX4_run 56 = .ok (.iadd, 1) := by decide +kernel
theorem dX4_run_57 : decode cX4_run 57 = .ok (.putfield 44, 3) := by decide +kernel
theorem dX4_run_60 : decode cX4_run 60 = .ok (.aload_n 0, 1) := by decide +kernel
theorem dX4_run_61 : decode cX4_run 61 = .ok (.aload_n 0, 1) := by decide +kernel
theorem dX4_run_62 : decode cX4_run 62 = .ok (.getfield 31, 3) := by decide +kernel
theorem dX4_run_65 : decode cX4_run 65 = .ok (.ifCond .ne 7, 3) := by decide +kernel
theorem dX4_run_68 : decode cX4_run 68 = .ok (.iconst 1, 1) := by decide +kernel
theorem dX4_run_69 : decode cX4_run 69 = .ok (.goto 4, 3) := by decide +kernel
theorem dX4_run_72 : decode cX4_run 72 = .ok (.iconst 0, 1) := by decide +kernel
theorem dX4_run_73 : decode cX4_run 73 = .ok (.putfield 23, 3) := by decide +kernel
theorem dX4_run_76 : decode cX4_run 76 = .ok (.aload_n 0, 1) := by decide +kernel
theorem dX4_run_77 : decode cX4_run 77 = .ok (.getfield 23, 3) := by decide +kernel
theorem dX4_run_80 : decode cX4_run 80 = .ok (.ifCond .ne 11, 3) := by decide +kernel
theorem dX4_run_83 : decode cX4_run 83 = .ok (.aload_n 0, 1) := by decide +kernel
theorem dX4_run_84 : decode cX4_run 84 = .ok (.aload_n 0, 1) := by decide +kernel
theorem dX4_run_85 : decode cX4_run 85 = .ok (.invokevirtual 47, 3) := by decide +kernel
theorem dX4_run_88 : decode cX4_run 88 = .ok (.invokevirtual 51, 3) := by decide +kernel
theorem dX4_run_91 : decode cX4_run 91 = .ok (.iinc 1 1, 3) := by decide +kernel
theorem dX4_run_94 : decode cX4_run 94 = .ok (.goto (-80), 3) := by decide +kernel
theorem dX4_run_97 : decode cX4_run 97 = .ok (.return_, 1) := by decide +kernel
theorem dX4_hasModel_0 : decode cX4_hasModel 0 = .ok (.aload_n 0, 1) := by decide +kernel
theorem dX4_hasModel_1 : decode cX4_hasModel 1 = .ok (.getfield 55, 3) := by decide +kernel
theorem dX4_hasModel_4 : decode cX4_hasModel 4 = .ok (.ireturn, 1) := by decide +kernel
theorem dX4_firstModel_0 : decode cX4_firstModel 0 = .ok (.aload_n 0, 1) := by decide +kernel
theorem dX4_firstModel_1 : decode cX4_firstModel 1 = .ok (.getfield 58, 3) := by decide +kernel
theorem dX4_firstModel_4 : decode cX4_firstModel 4 = .ok (.ireturn, 1) := by decide +kernel
theorem dX4_conflicts_0 : decode cX4_conflicts 0 = .ok (.aload_n 0, 1) := by decide +kernel
theorem dX4_conflicts_1 : decode cX4_conflicts 1 = .ok (.getfield 44, 3) := by decide +kernel
theorem dX4_conflicts_4 : decode cX4_conflicts 4 = .ok (.ireturn, 1) := by decide +kernel
theorem dX4_choicesMade_0 : decode cX4_choicesMade 0 = .ok (.aload_n 0, 1) := by decide +kernel
theorem dX4_choicesMade_1 : decode cX4_choicesMade 1 = .ok (.getfield 61, 3) := by decide +kernel
theorem dX4_choicesMade_4 : decode cX4_choicesMade 4 = .ok (.ireturn, 1) := by decide +kernel
set_option maxRecDepth 20000 in
theorem ggX4_learnedClauses_X1_howMany : GoodIn wsX4_learnedClauses wsX1_howMany := goodIn_r _ [6, 7, 17, 18, 19] (by decide +kernel) (by decide +kernel)
set_option maxRecDepth 20000 in
theorem gX4_learnedClauses_X1_howMany : GoodIn wsX4_learnedClauses (wsV RX4 64 RX1 yX1_howMany wsX1_howMany) := goodIn_app (goodIn_of _ (by decide +kernel)) ggX4_learnedClauses_X1_howMany
theorem dX4_learnedClauses_0 : decode cX4_learnedClauses 0 = .ok (.aload_n 0, 1) := by decide +kernel
theorem dX4_learnedClauses_1 : decode cX4_learnedClauses 1 = .ok (.getfield 19, 3) := by decide +kernel
theorem dX4_learnedClauses_4 : decode cX4_learnedClauses 4 = .ok (.invokevirtual 64, 3) := by decide +kernel
theorem dX4_learnedClauses_7 : decode cX4_learnedClauses 7 = .ok (.ireturn, 1) := by decide +kernel
set_option maxRecDepth 20000 in
theorem ggX4_learnedClause_X1_at : GoodIn wsX4_learnedClause wsX1_at := goodIn_r _ [6, 7, 8, 18, 19, 20] (by decide +kernel) (by decide +kernel)
set_option maxRecDepth 20000 in
theorem gX4_learnedClause_X1_at : GoodIn wsX4_learnedClause (wsV RX4 69 RX1 yX1_at wsX1_at) := goodIn_app (goodIn_of _ (by decide +kernel)) ggX4_learnedClause_X1_at
theorem dX4_learnedClause_0 : decode cX4_learnedClause 0 = .ok (.aload_n 0, 1) := by decide +kernel
theorem dX4_learnedClause_1 : decode cX4_learnedClause 1 = .ok (.getfield 19, 3) := by decide +kernel
theorem dX4_learnedClause_4 : decode cX4_learnedClause 4 = .ok (.iload_n 1, 1) := by decide +kernel
theorem dX4_learnedClause_5 : decode cX4_learnedClause 5 = .ok (.invokevirtual 69, 3) := by decide +kernel
theorem dX4_learnedClause_8 : decode cX4_learnedClause 8 = .ok (.ireturn, 1) := by decide +kernel
set_option maxRecDepth 20000 in
theorem ggX4_start_X1_removeAll : GoodIn wsX4_start wsX1_removeAll := goodIn_r _ [11, 12, 13, 14, 15, 16, 17, 27, 28, 29] (by decide +kernel) (by decide +kernel)
set_option maxRecDepth 20000 in
theorem gX4_start_X1_removeAll : GoodIn wsX4_start (wsV RX4 73 RX1 yX1_removeAll wsX1_removeAll) := goodIn_app (goodIn_of _ (by decide +kernel)) ggX4_start_X1_removeAll
theorem dX4_start_0 : decode cX4_start 0 = .ok (.aload_n 0, 1) := by decide +kernel
theorem dX4_start_1 : decode cX4_start 1 = .ok (.getfield 19, 3) := by decide +kernel
theorem dX4_start_4 : decode cX4_start 4 = .ok (.invokevirtual 73, 3) := by decide +kernel
theorem dX4_start_7 : decode cX4_start 7 = .ok (.aload_n 0, 1) := by decide +kernel
theorem dX4_start_8 : decode cX4_start 8 = .ok (.iconst 0, 1) := by decide +kernel
theorem dX4_start_9 : decode cX4_start 9 = .ok (.putfield 55, 3) := by decide +kernel
theorem dX4_start_12 : decode cX4_start 12 = .ok (.aload_n 0, 1) := by decide +kernel
theorem dX4_start_13 : decode cX4_start 13 = .ok (.iconst 0, 1) := by decide +kernel
theorem dX4_start_14 : decode cX4_start 14 = .ok (.putfield 58, 3) := by decide +kernel
theorem dX4_start_17 : decode cX4_start 17 = .ok (.aload_n 0, 1) := by decide +kernel
theorem dX4_start_18 : decode cX4_start 18 = .ok (.iconst 0, 1) := by decide +kernel
theorem dX4_start_19 : decode cX4_start 19 = .ok (.putfield 44, 3) := by decide +kernel
theorem dX4_start_22 : decode cX4_start 22 = .ok (.aload_n 0, 1) := by decide +kernel
theorem dX4_start_23 : decode cX4_start 23 = .ok (.iconst 0, 1) := by decide +kernel
theorem dX4_start_24 : decode cX4_start 24 = .ok (.putfield 61, 3) := by decide +kernel
theorem dX4_start_27 : decode cX4_start 27 = .ok (.aload_n 0, 1) := by decide +kernel
theorem dX4_start_28 : decode cX4_start 28 = .ok (.iconst 0, 1) := by decide +kernel
theorem dX4_start_29 : decode cX4_start 29 = .ok (.putfield 31, 3) := by decide +kernel
theorem dX4_start_32 : decode cX4_start 32 = .ok (.return_, 1) := by decide +kernel
set_option maxRecDepth 20000 in
theorem ggX4_choose_X5_allNames : GoodIn wsX4_choose wsX5_allNames := goodIn_r _ [12, 13, 34, 35, 36, 37, 38, 39, 40, 41, 42] (by decide +kernel) (by decide +kernel)
set_option maxRecDepth 20000 in
theorem gX4_choose_X5_allNames : GoodIn wsX4_choose (wsV RX4 76 RX5 yX5_allNames wsX5_allNames) := goodIn_app (goodIn_of _ (by decide +kernel)) ggX4_choose_X5_allNames
set_option maxRecDepth 20000 in
theorem ggX4_choose_X0_trueNames : GoodIn wsX4_choose wsX0_trueNames := goodIn_r _ [18, 19, 43, 44, 45, 46, 47, 48] (by decide +kernel) (by decide +kernel)
set_option maxRecDepth 20000 in
theorem gX4_choose_X0_trueNames : GoodIn wsX4_choose (wsV RX4 81 RX0 yX0_trueNames wsX0_trueNames) := goodIn_app (goodIn_of _ (by decide +kernel)) ggX4_choose_X0_trueNames
set_option maxRecDepth 20000 in
theorem ggX4_choose_X0_falseNames : GoodIn wsX4_choose wsX0_falseNames := goodIn_r _ [23, 24, 43, 44, 45, 46, 47, 48] (by decide +kernel) (by decide +kernel)
set_option maxRecDepth 20000 in
theorem gX4_choose_X0_falseNames : GoodIn wsX4_choose (wsV RX4 84 RX0 yX0_falseNames wsX0_falseNames) := goodIn_app (goodIn_of _ (by decide +kernel)) ggX4_choose_X0_falseNames
theorem dX4_choose_0 : decode cX4_choose 0 = .ok (.aload_n 0, 1) := by decide +kernel
theorem dX4_choose_1 : decode cX4_choose 1 = .ok (.getfield 9, 3) := by decide +kernel
theorem dX4_choose_4 : decode cX4_choose 4 = .ok (.invokevirtual 76, 3) := by decide +kernel
theorem dX4_choose_7 : decode cX4_choose 7 = .ok (.aload_n 0, 1) := by decide +kernel
theorem dX4_choose_8 : decode cX4_choose 8 = .ok (.getfield 15, 3) := by decide +kernel
theorem dX4_choose_11 : decode cX4_choose 11 = .ok (.invokevirtual 81, 3) := by decide +kernel
theorem dX4_choose_14 : decode cX4_choose 14 = .ok (.aload_n 0, 1) := by decide +kernel
theorem dX4_choose_15 : decode cX4_choose 15 = .ok (.getfield 15, 3) := by decide +kernel
theorem dX4_choose_18 : decode cX4_choose 18 = .ok (.invokevirtual 84, 3) := by decide +kernel
theorem dX4_choose_21 : decode cX4_choose 21 = .ok (.ior, 1) := by decide +kernel
theorem dX4_choose_22 : decode cX4_choose 22 = .ok (.iconst (-1), 1) := by decide +kernel
theorem dX4_choose_23 : decode cX4_choose 23 = .ok (.ixor, 1) := by decide +kernel
theorem dX4_choose_24 : decode cX4_choose 24 = .ok (.iand, 1) := by decide +kernel
theorem dX4_choose_25 : decode cX4_choose 25 = .ok (.istore_n 1, 1) := by decide +kernel
theorem dX4_choose_26 : decode cX4_choose 26 = .ok (.iload_n 1, 1) := by decide +kernel
theorem dX4_choose_27 : decode cX4_choose 27 = .ok (.ifCond .ne 27, 3) := by decide +kernel
theorem dX4_choose_30 : decode cX4_choose 30 = .ok (.aload_n 0, 1) := by decide +kernel
theorem dX4_choose_31 : decode cX4_choose 31 = .ok (.iconst 1, 1) := by decide +kernel
theorem dX4_choose_32 : decode cX4_choose 32 = .ok (.putfield 55, 3) := by decide +kernel
theorem dX4_choose_35 : decode cX4_choose 35 = .ok (.aload_n 0, 1) := by decide +kernel
theorem dX4_choose_36 : decode cX4_choose 36 = .ok (.aload_n 0, 1) := by decide +kernel
theorem dX4_choose_37 : decode cX4_choose 37 = .ok (.getfield 15, 3) := by decide +kernel
theorem dX4_choose_40 : decode cX4_choose 40 = .ok (.invokevirtual 81, 3) := by decide +kernel
theorem dX4_choose_43 : decode cX4_choose 43 = .ok (.putfield 58, 3) := by decide +kernel
theorem dX4_choose_46 : decode cX4_choose 46 = .ok (.aload_n 0, 1) := by decide +kernel
theorem dX4_choose_47 : decode cX4_choose 47 = .ok (.iconst 1, 1) := by decide +kernel
theorem dX4_choose_48 : decode cX4_choose 48 = .ok (.putfield 23, 3) := by decide +kernel
theorem dX4_choose_51 : decode cX4_choose 51 = .ok (.goto 26, 3) := by decide +kernel
theorem dX4_choose_54 : decode cX4_choose 54 = .ok (.aload_n 0, 1) := by decide +kernel
theorem dX4_choose_55 : decode cX4_choose 55 = .ok (.dup, 1) := by decide +kernel
theorem dX4_choose_56 : decode cX4_choose 56 = .ok (.getfield 31, 3) := by decide +kernel
theorem dX4_choose_59 : decode cX4_choose 59 = .ok (.iload_n 1, 1) := by decide +kernel
theorem dX4_choose_60 : decode cX4_choose 60 = .ok (.iload_n 1, 1) := by decide +kernel
theorem dX4_choose_61 : decode cX4_choose 61 = .ok (.ineg, 1) := by decide +kernel
theorem dX4_choose_62 : decode cX4_choose 62 = .ok (.iand, 1) := by decide +kernel
theorem dX4_choose_63 : decode cX4_choose 63 = .ok (.ior, 1) := by decide +kernel
theorem dX4_choose_64 : decode cX4_choose 64 = .ok (.putfield 31, 3) := by decide +kernel
theorem dX4_choose_67 : decode cX4_choose 67 = .ok (.aload_n 0, 1) := by decide +kernel
theorem dX4_choose_68 : decode cX4_choose 68 = .ok (.dup, 1) := by decide +kernel
theorem dX4_choose_69 : decode cX4_choose 69 = .ok (.getfield 61, 3) := by decide +kernel
theorem dX4_choose_72 : decode cX4_choose 72 = .ok (.iconst 1, 1) := by decide +kernel
theorem dX4_choose_73 : decode cX4_choose 73 = .ok (.iadd, 1) := by decide +kernel
theorem dX4_choose_74 : decode cX4_choose 74 = .ok (.putfield 61, 3) := by decide +kernel
theorem dX4_choose_77 : decode cX4_choose 77 = .ok (.return_, 1) := by decide +kernel
set_option maxRecDepth 20000 in
theorem ggX4_reason_X0_clashes : GoodIn wsX4_reason wsX0_clashes := goodIn_r _ [7, 8, 9, 10, 11, 12, 13, 6, 14, 15, 16, 17, 18, 19, 20, 21, 22, 23, 24, 25, 26, 27, 28, 29, 30, 31, 32, 33, 34, 35, 36, 37, 38, 39, 40, 41, 42, 43, 44, 45, 46, 47, 48, 49, 50, 51, 52, 53, 54, 55, 56, 57, 58, 59, 60, 61, 62, 63, 64, 65, 66, 67, 68, 69, 70, 71, 72, 73, 74, 75, 76, 77, 78, 79, 80, 81, 82, 83, 84, 85, 86, 87, 88, 89, 90, 91, 92, 93, 94, 95, 96, 97, 98, 99, 100, 101, 102, 103, 104, 105, 106, 107, 108, 109, 110, 111, 112, 113, 114, 115, 116, 117, 118, 119, 120, 130, 131, 132, 133, 134, 135, 136, 137, 138, 139, 140, 141, 142, 143, 144, 145, 146, 147, 148, 149, 150] (by decide +kernel) (by decide +kernel)
set_option maxRecDepth 20000 in
theorem gX4_reason_X0_clashes : GoodIn wsX4_reason (wsV RX4 37 RX0 yX0_clashes wsX0_clashes) := goodIn_app (goodIn_of _ (by decide +kernel)) ggX4_reason_X0_clashes
theorem dX4_reason_0 : decode cX4_reason 0 = .ok (.aload_n 0, 1) := by decide +kernel
theorem dX4_reason_1 : decode cX4_reason 1 = .ok (.getfield 31, 3) := by decide +kernel
theorem dX4_reason_4 : decode cX4_reason 4 = .ok (.istore_n 1, 1) := by decide +kernel
theorem dX4_reason_5 : decode cX4_reason 5 = .ok (.bipush 13, 2) := by decide +kernel
theorem dX4_reason_7 : decode cX4_reason 7 = .ok (.istore_n 2, 1) := by decide +kernel
theorem dX4_reason_8 : decode cX4_reason 8 = .ok (.iload_n 2, 1) := by decide +kernel
theorem dX4_reason_9 : decode cX4_reason 9 = .ok (.ifCond .lt 37, 3) := by decide +kernel
theorem dX4_reason_12 : decode cX4_reason 12 = .ok (.iload_n 1, 1) := by decide +kernel
theorem dX4_reason_13 : decode cX4_reason 13 = .ok (.iconst 1, 1) := by decide +kernel
theorem dX4_reason_14 : decode cX4_reason 14 = .ok (.iload_n 2, 1) := by decide +kernel
theorem dX4_reason_15 : decode cX4_reason 15 = .ok (.ishl, 1) := by decide +kernel
theorem dX4_reason_16 : decode cX4_reason 16 = .ok (.iconst (-1), 1) := by decide +kernel
theorem dX4_reason_17 : decode cX4_reason 17 = .ok (.ixor, 1) := by decide +kernel
theorem dX4_reason_18 : decode cX4_reason 18 = .ok (.iand, 1) := by decide +kernel
theorem dX4_reason_19 : decode cX4_reason 19 = .ok (.istore_n 3, 1) := by decide +kernel
theorem dX4_reason_20 : decode cX4_reason 20 = .ok (.iload_n 3, 1) := by decide +kernel
theorem dX4_reason_21 : decode cX4_reason 21 = .ok (.iload_n 1, 1) := by decide +kernel
theorem dX4_reason_22 : decode cX4_reason 22 = .ok (.if_icmp .eq 18, 3) := by decide +kernel
theorem dX4_reason_25 : decode cX4_reason 25 = .ok (.aload_n 0, 1) := by decide +kernel
theorem dX4_reason_26 : decode cX4_reason 26 = .ok (.getfield 15, 3) := by decide +kernel
theorem dX4_reason_29 : decode cX4_reason 29 = .ok (.iconst 0, 1) := by decide +kernel
theorem dX4_reason_30 : decode cX4_reason 30 = .ok (.iload_n 3, 1) := by decide +kernel
theorem dX4_reason_31 : decode cX4_reason 31 = .ok (.iconst 2, 1) := by decide +kernel
theorem dX4_reason_32 : decode cX4_reason 32 = .ok (.invokevirtual 37, 3) := by decide +kernel
theorem dX4_reason_35 : decode cX4_reason 35 = .ok (.ifCond .eq 5, 3) := by decide +kernel
theorem dX4_reason_38 : decode cX4_reason 38 = .ok (.iload_n 3, 1) := by decide +kernel
theorem dX4_reason_39 : decode cX4_reason 39 = .ok (.istore_n 1, 1) := by decide +kernel
theorem dX4_reason_40 : decode cX4_reason 40 = .ok (.iinc 2 (-1), 3) := by decide +kernel
theorem dX4_reason_43 : decode cX4_reason 43 = .ok (.goto (-35), 3) := by decide +kernel
theorem dX4_reason_46 : decode cX4_reason 46 = .ok (.iload_n 1, 1) := by decide +kernel
theorem dX4_reason_47 : decode cX4_reason 47 = .ok (.ireturn, 1) := by decide +kernel
set_option maxRecDepth 20000 in
theorem ggX4_learn_X5_allNames : GoodIn wsX4_learn wsX5_allNames := goodIn_r _ [8, 9, 35, 36, 37, 38, 39, 40, 41, 42, 43] (by decide +kernel) (by decide +kernel)
set_option maxRecDepth 20000 in
theorem gX4_learn_X5_allNames : GoodIn wsX4_learn (wsV RX4 76 RX5 yX5_allNames wsX5_allNames) := goodIn_app (goodIn_of _ (by decide +kernel)) ggX4_learn_X5_allNames
set_option maxRecDepth 20000 in
theorem ggX4_learn_X1_add : GoodIn wsX4_learn wsX1_add := goodIn_r _ [14, 15, 16, 17, 18, 19, 13, 20, 21, 44, 45, 46] (by decide +kernel) (by decide +kernel)
set_option maxRecDepth 20000 in
theorem gX4_learn_X1_add : GoodIn wsX4_learn (wsV RX4 87 RX1 yX1_add wsX1_add) := goodIn_app (goodIn_of _ (by decide +kernel)) ggX4_learn_X1_add
set_option maxRecDepth 20000 in
theorem ggX4_learn_X4_latest : GoodIn wsX4_learn wsX4_latest := goodIn_r _ [25] (by decide +kernel) (by decide +kernel)
set_option maxRecDepth 20000 in
theorem gX4_learn_X4_latest : GoodIn wsX4_learn (va_wsS RX4 91 yX4_latest wsX4_latest) := goodIn_app (goodIn_of _ (by decide +kernel)) ggX4_learn_X4_latest
theorem dX4_learn_0 : decode cX4_learn 0 = .ok (.aload_n 0, 1) := by decide +kernel
theorem dX4_learn_1 : decode cX4_learn 1 = .ok (.getfield 19, 3) := by decide +kernel
theorem dX4_learn_4 : decode cX4_learn 4 = .ok (.iload_n 1, 1) := by decide +kernel
theorem dX4_learn_5 : decode cX4_learn 5 = .ok (.aload_n 0, 1) := by decide +kernel
theorem dX4_learn_6 : decode cX4_learn 6 = .ok (.getfield 9, 3) := by decide +kernel
theorem dX4_learn_9 : decode cX4_learn 9 = .ok (.invokevirtual 76, 3) := by decide +kernel
theorem dX4_learn_12 : decode cX4_learn 12 = .ok (.invokevirtual 87, 3) := by decide +kernel
theorem dX4_learn_15 : decode cX4_learn 15 = .ok (.iload_n 1, 1) := by decide +kernel
theorem dX4_learn_16 : decode cX4_learn 16 = .ok (.iload_n 1, 1) := by decide +kernel
theorem dX4_learn_17 : decode cX4_learn 17 = .ok (.invokestatic 91, 3) := by decide +kernel
theorem dX4_learn_20 : decode cX4_learn 20 = .ok (.iconst (-1), 1) := by decide +kernel
theorem dX4_learn_21 : decode cX4_learn 21 = .ok (.ixor, 1) := by decide +kernel
theorem dX4_learn_22 : decode cX4_learn 22 = .ok (.iand, 1) := by decide +kernel
theorem dX4_learn_23 : decode cX4_learn 23 = .ok (.invokestatic 91, 3) := by decide +kernel
theorem dX4_learn_26 : decode cX4_learn 26 = .ok (.istore_n 2, 1) := by decide +kernel
theorem dX4_learn_27 : decode cX4_learn 27 = .ok (.aload_n 0, 1) := by decide +kernel
theorem dX4_learn_28 : decode cX4_learn 28 = .ok (.dup, 1) := by decide +kernel
theorem dX4_learn_29 : decode cX4_learn 29 = .ok (.getfield 31, 3) := by decide +kernel
theorem dX4_learn_32 : decode cX4_learn 32 = .ok (.iload_n 2, 1) := by decide +kernel
theorem dX4_learn_33 : decode cX4_learn 33 = .ok (.ifCond .ne 7, 3) := by decide +kernel
theorem dX4_learn_36 : decode cX4_learn 36 = .ok (.iconst 0, 1) := by decide +kernel
theorem dX4_learn_37 : decode cX4_learn 37 = .ok (.goto 8, 3) := by decide +kernel
theorem dX4_learn_40 : decode cX4_learn 40 = .ok (.iconst 2, 1) := by decide +kernel
theorem dX4_learn_41 : decode cX4_learn 41 = .ok (.iload_n 2, 1) := by decide +kernel
