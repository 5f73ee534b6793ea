theorem dX7_row_49 : decode cX7_row 49 = .ok (.aload_n 0, 1) := by decide +kernel
theorem dX7_row_50 : decode cX7_row 50 = .ok (.getfield 23, 3) := by decide +kernel
theorem dX7_row_53 : decode cX7_row 53 = .ok (.aload_n 0, 1) := by decide +kernel
theorem dX7_row_54 : decode cX7_row 54 = .ok (.getfield 66, 3) := by decide +kernel
theorem dX7_row_57 : decode cX7_row 57 = .ok (.iload_n 1, 1) := by decide +kernel
theorem dX7_row_58 : decode cX7_row 58 = .ok (.iastore, 1) := by decide +kernel
theorem dX7_row_59 : decode cX7_row 59 = .ok (.iconst 0, 1) := by decide +kernel
theorem dX7_row_60 : decode cX7_row 60 = .ok (.istore_n 2, 1) := by decide +kernel
theorem dX7_row_61 : decode cX7_row 61 = .ok (.iload_n 2, 1) := by decide +kernel
theorem dX7_row_62 : decode cX7_row 62 = .ok (.bipush 14, 2) := by decide +kernel
theorem dX7_row_64 : decode cX7_row 64 = .ok (.if_icmp .ge 24, 3) := by decide +kernel
theorem dX7_row_67 : decode cX7_row 67 = .ok (.aload_n 0, 1) := by decide +kernel
theorem dX7_row_68 : decode cX7_row 68 = .ok (.getfield 26, 3) := by decide +kernel
theorem dX7_row_71 : decode cX7_row 71 = .ok (.bipush 14, 2) := by decide +kernel
theorem dX7_row_73 : decode cX7_row 73 = .ok (.aload_n 0, 1) := by decide +kernel
theorem dX7_row_74 : decode cX7_row 74 = .ok (.getfield 66, 3) := by decide +kernel
theorem dX7_row_77 : decode cX7_row 77 = .ok (.imul, 1) := by decide +kernel
theorem dX7_row_78 : decode cX7_row 78 = .ok (.iload_n 2, 1) := by decide +kernel
theorem dX7_row_79 : decode cX7_row 79 = .ok (.iadd, 1) := by decide +kernel
theorem dX7_row_80 : decode cX7_row 80 = .ok (.iconst 0, 1) := by decide +kernel
theorem dX7_row_81 : decode cX7_row 81 = .ok (.iastore, 1) := by decide +kernel
theorem dX7_row_82 : decode cX7_row 82 = .ok (.iinc 2 1, 3) := by decide +kernel
theorem dX7_row_85 : decode cX7_row 85 = .ok (.goto (-24), 3) := by decide +kernel
theorem dX7_row_88 : decode cX7_row 88 = .ok (.aload_n 0, 1) := by decide +kernel
theorem dX7_row_89 : decode cX7_row 89 = .ok (.dup, 1) := by decide +kernel
theorem dX7_row_90 : decode cX7_row 90 = .ok (.getfield 66, 3) := by decide +kernel
theorem dX7_row_93 : decode cX7_row 93 = .ok (.iconst 1, 1) := by decide +kernel
theorem dX7_row_94 : decode cX7_row 94 = .ok (.iadd, 1) := by decide +kernel
theorem dX7_row_95 : decode cX7_row 95 = .ok (.putfield 66, 3) := by decide +kernel
theorem dX7_row_98 : decode cX7_row 98 = .ok (.aload_n 0, 1) := by decide +kernel
theorem dX7_row_99 : decode cX7_row 99 = .ok (.invokevirtual 148, 3) := by decide +kernel
theorem dX7_row_102 : decode cX7_row 102 = .ok (.aload_n 0, 1) := by decide +kernel
theorem dX7_row_103 : decode cX7_row 103 = .ok (.getfield 66, 3) := by decide +kernel
theorem dX7_row_106 : decode cX7_row 106 = .ok (.iconst 1, 1) := by decide +kernel
theorem dX7_row_107 : decode cX7_row 107 = .ok (.isub, 1) := by decide +kernel
theorem dX7_row_108 : decode cX7_row 108 = .ok (.ireturn, 1) := by decide +kernel
set_option maxRecDepth 20000 in
theorem ggX7_weight_X7_isName : GoodIn wsX7_weight wsX7_isName := goodIn_r _ [9, 10, 18, 19, 20, 21, 22, 23, 24, 25, 26, 27, 28, 29, 30, 31, 32, 33, 34, 35, 36, 37, 38, 39, 40, 41, 42, 43, 44, 45, 46, 47, 48, 49, 50, 51, 52, 53, 54, 55] (by decide +kernel) (by decide +kernel)
set_option maxRecDepth 20000 in
theorem gX7_weight_X7_isName : GoodIn wsX7_weight (wsV RX7 166 RX7 yX7_isName wsX7_isName) := goodIn_app (goodIn_of _ (by decide +kernel)) ggX7_weight_X7_isName
set_option maxRecDepth 20000 in
theorem ggX7_weight_X7_change : GoodIn wsX7_weight wsX7_change := goodIn_r _ [14, 15, 16, 17, 18, 19, 20, 21, 22, 23, 24, 25, 26, 27, 28, 29, 30, 31, 32, 33, 34, 35, 36, 37, 38, 39, 40, 41, 42, 43, 44, 45, 46, 47, 48, 49, 50, 51, 52, 53, 54, 55] (by decide +kernel) (by decide +kernel)
set_option maxRecDepth 20000 in
theorem gX7_weight_X7_change : GoodIn wsX7_weight (wsV RX7 148 RX7 yX7_change wsX7_change) := goodIn_app (goodIn_of _ (by decide +kernel)) ggX7_weight_X7_change
theorem dX7_weight_0 : decode cX7_weight 0 = .ok (.iload_n 1, 1) := by decide +kernel
theorem dX7_weight_1 : decode cX7_weight 1 = .ok (.ifCond .lt 37, 3) := by decide +kernel
theorem dX7_weight_4 : decode cX7_weight 4 = .ok (.iload_n 1, 1) := by decide +kernel
theorem dX7_weight_5 : decode cX7_weight 5 = .ok (.aload_n 0, 1) := by decide +kernel
theorem dX7_weight_6 : decode cX7_weight 6 = .ok (.getfield 66, 3) := by decide +kernel
theorem dX7_weight_9 : decode cX7_weight 9 = .ok (.if_icmp .ge 29, 3) := by decide +kernel
theorem dX7_weight_12 : decode cX7_weight 12 = .ok (.aload_n 0, 1) := by decide +kernel
theorem dX7_weight_13 : decode cX7_weight 13 = .ok (.getfield 7, 3) := by decide +kernel
theorem dX7_weight_16 : decode cX7_weight 16 = .ok (.iload_n 1, 1) := by decide +kernel
theorem dX7_weight_17 : decode cX7_weight 17 = .ok (.baload, 1) := by decide +kernel
theorem dX7_weight_18 : decode cX7_weight 18 = .ok (.ifCond .eq 20, 3) := by decide +kernel
theorem dX7_weight_21 : decode cX7_weight 21 = .ok (.aload_n 0, 1) := by decide +kernel
theorem dX7_weight_22 : decode cX7_weight 22 = .ok (.getfield 13, 3) := by decide +kernel
theorem dX7_weight_25 : decode cX7_weight 25 = .ok (.iload_n 1, 1) := by decide +kernel
theorem dX7_weight_26 : decode cX7_weight 26 = .ok (.baload, 1) := by decide +kernel
theorem dX7_weight_27 : decode cX7_weight 27 = .ok (.ifCond .eq 11, 3) := by decide +kernel
theorem dX7_weight_30 : decode cX7_weight 30 = .ok (.aload_n 0, 1) := by decide +kernel
theorem dX7_weight_31 : decode cX7_weight 31 = .ok (.iload_n 2, 1) := by decide +kernel
theorem dX7_weight_32 : decode cX7_weight 32 = .ok (.invokevirtual 166, 3) := by decide +kernel
theorem dX7_weight_35 : decode cX7_weight 35 = .ok (.ifCond .ne 5, 3) := by decide +kernel
theorem dX7_weight_38 : decode cX7_weight 38 = .ok (.iconst (-1), 1) := by decide +kernel
theorem dX7_weight_39 : decode cX7_weight 39 = .ok (.ireturn, 1) := by decide +kernel
theorem dX7_weight_40 : decode cX7_weight 40 = .ok (.iload_n 3, 1) := by decide +kernel
theorem dX7_weight_41 : decode cX7_weight 41 = .ok (.bipush (-20), 2) := by decide +kernel
theorem dX7_weight_43 : decode cX7_weight 43 = .ok (.if_icmp .lt 9, 3) := by decide +kernel
theorem dX7_weight_46 : decode cX7_weight 46 = .ok (.iload_n 3, 1) := by decide +kernel
theorem dX7_weight_47 : decode cX7_weight 47 = .ok (.bipush 20, 2) := by decide +kernel
theorem dX7_weight_49 : decode cX7_weight 49 = .ok (.if_icmp .le 6, 3) := by decide +kernel
theorem dX7_weight_52 : decode cX7_weight 52 = .ok (.bipush (-2), 2) := by decide +kernel
theorem dX7_weight_54 : decode cX7_weight 54 = .ok (.ireturn, 1) := by decide +kernel
theorem dX7_weight_55 : decode cX7_weight 55 = .ok (.aload_n 0, 1) := by decide +kernel
theorem dX7_weight_56 : decode cX7_weight 56 = .ok (.getfield 26, 3) := by decide +kernel
theorem dX7_weight_59 : decode cX7_weight 59 = .ok (.bipush 14, 2) := by decide +kernel
theorem dX7_weight_61 : decode cX7_weight 61 = .ok (.iload_n 1, 1) := by decide +kernel
theorem dX7_weight_62 : decode cX7_weight 62 = .ok (.imul, 1) := by decide +kernel
theorem dX7_weight_63 : decode cX7_weight 63 = .ok (.iload_n 2, 1) := by decide +kernel
theorem dX7_weight_64 : decode cX7_weight 64 = .ok (.iadd, 1) := by decide +kernel
theorem dX7_weight_65 : decode cX7_weight 65 = .ok (.iload_n 3, 1) := by decide +kernel
theorem dX7_weight_66 : decode cX7_weight 66 = .ok (.iastore, 1) := by decide +kernel
theorem dX7_weight_67 : decode cX7_weight 67 = .ok (.aload_n 0, 1) := by decide +kernel
theorem dX7_weight_68 : decode cX7_weight 68 = .ok (.invokevirtual 148, 3) := by decide +kernel
theorem dX7_weight_71 : decode cX7_weight 71 = .ok (.iconst 1, 1) := by decide +kernel
theorem dX7_weight_72 : decode cX7_weight 72 = .ok (.ireturn, 1) := by decide +kernel
set_option maxRecDepth 20000 in
theorem ggX7_drop_X7_change : GoodIn wsX7_drop wsX7_change := goodIn_r _ [7, 8, 9, 10, 11, 12, 13, 14, 15, 16, 17, 18, 19, 20, 21, 22, 23, 24, 25, 26, 27, 28, 29, 30, 31, 32, 33, 34, 35, 36, 37, 38, 39, 40, 41, 42, 43, 44, 45, 46, 47, 48] (by decide +kernel) (by decide +kernel)
set_option maxRecDepth 20000 in
theorem gX7_drop_X7_change : GoodIn wsX7_drop (wsV RX7 148 RX7 yX7_change wsX7_change) := goodIn_app (goodIn_of _ (by decide +kernel)) ggX7_drop_X7_change
theorem dX7_drop_0 : decode cX7_drop 0 = .ok (.iload_n 1, 1) := by decide +kernel
theorem dX7_drop_1 : decode cX7_drop 1 = .ok (.ifCond .lt 20, 3) := by decide +kernel
theorem dX7_drop_4 : decode cX7_drop 4 = .ok (.iload_n 1, 1) := by decide +kernel
theorem dX7_drop_5 : decode cX7_drop 5 = .ok (.aload_n 0, 1) := by decide +kernel
theorem dX7_drop_6 : decode cX7_drop 6 = .ok (.getfield 66, 3) := by decide +kernel
theorem dX7_drop_9 : decode cX7_drop 9 = .ok (.if_icmp .ge 12, 3) := by decide +kernel
theorem dX7_drop_12 : decode cX7_drop 12 = .ok (.aload_n 0, 1) := by decide +kernel
theorem dX7_drop_13 : decode cX7_drop 13 = .ok (.getfield 7, 3) := by decide +kernel
theorem dX7_drop_16 : decode cX7_drop 16 = .ok (.iload_n 1, 1) := by decide +kernel
theorem dX7_drop_17 : decode cX7_drop 17 = .ok (.baload, 1) := by decide +kernel
theorem dX7_drop_18 : decode cX7_drop 18 = .ok (.ifCond .ne 5, 3) := by decide +kernel
theorem dX7_drop_21 : decode cX7_drop 21 = .ok (.iconst (-1), 1) := by decide +kernel
theorem dX7_drop_22 : decode cX7_drop 22 = .ok (.ireturn, 1) := by decide +kernel
theorem dX7_drop_23 : decode cX7_drop 23 = .ok (.aload_n 0, 1) := by decide +kernel
theorem dX7_drop_24 : decode cX7_drop 24 = .ok (.getfield 7, 3) := by decide +kernel
theorem dX7_drop_27 : decode cX7_drop 27 = .ok (.iload_n 1, 1) := by decide +kernel
theorem dX7_drop_28 : decode cX7_drop 28 = .ok (.iconst 0, 1) := by decide +kernel
theorem dX7_drop_29 : decode cX7_drop 29 = .ok (.bastore, 1) := by decide +kernel
theorem dX7_drop_30 : decode cX7_drop 30 = .ok (.aload_n 0, 1) := by decide +kernel
theorem dX7_drop_31 : decode cX7_drop 31 = .ok (.invokevirtual 148, 3) := by decide +kernel
theorem dX7_drop_34 : decode cX7_drop 34 = .ok (.iconst 0, 1) := by decide +kernel
theorem dX7_drop_35 : decode cX7_drop 35 = .ok (.istore_n 2, 1) := by decide +kernel
theorem dX7_drop_36 : decode cX7_drop 36 = .ok (.iconst 0, 1) := by decide +kernel
theorem dX7_drop_37 : decode cX7_drop 37 = .ok (.istore_n 3, 1) := by decide +kernel
theorem dX7_drop_38 : decode cX7_drop 38 = .ok (.iload_n 3, 1) := by decide +kernel
theorem dX7_drop_39 : decode cX7_drop 39 = .ok (.aload_n 0, 1) := by decide +kernel
theorem dX7_drop_40 : decode cX7_drop 40 = .ok (.getfield 66, 3) := by decide +kernel
theorem dX7_drop_43 : decode cX7_drop 43 = .ok (.if_icmp .ge 26, 3) := by decide +kernel
theorem dX7_drop_46 : decode cX7_drop 46 = .ok (.iload_n 2, 1) := by decide +kernel
theorem dX7_drop_47 : decode cX7_drop 47 = .ok (.aload_n 0, 1) := by decide +kernel
theorem dX7_drop_48 : decode cX7_drop 48 = .ok (.getfield 7, 3) := by decide +kernel
theorem dX7_drop_51 : decode cX7_drop 51 = .ok (.iload_n 3, 1) := by decide +kernel
theorem dX7_drop_52 : decode cX7_drop 52 = .ok (.baload, 1) := by decide +kernel
theorem dX7_drop_53 : decode cX7_drop 53 = .ok (.ifCond .eq 7, 3) := by decide +kernel
theorem dX7_drop_56 : decode cX7_drop 56 = .ok (.iconst 1, 1) := by decide +kernel
theorem dX7_drop_57 : decode cX7_drop 57 = .ok (.goto 4, 3) := by decide +kernel
theorem dX7_drop_60 : decode cX7_drop 60 = .ok (.iconst 0, 1) := by decide +kernel
theorem dX7_drop_61 : decode cX7_drop 61 = .ok (.iadd, 1) := by decide +kernel
theorem dX7_drop_62 : decode cX7_drop 62 = .ok (.istore_n 2, 1) := by decide +kernel
theorem dX7_drop_63 : decode cX7_drop 63 = .ok (.iinc 3 1, 3) := by decide +kernel
theorem dX7_drop_66 : decode cX7_drop 66 = .ok (.goto (-28), 3) := by decide +kernel
theorem dX7_drop_69 : decode cX7_drop 69 = .ok (.iload_n 2, 1) := by decide +kernel
theorem dX7_drop_70 : decode cX7_drop 70 = .ok (.ireturn, 1) := by decide +kernel
set_option maxRecDepth 20000 in
theorem ggX7_cost_X7_isName : GoodIn wsX7_cost wsX7_isName := goodIn_r _ [7, 8, 9, 10, 11, 12, 13, 14, 15, 16, 17, 18, 19, 20, 21, 22, 23, 24, 25, 26, 27, 28, 29, 30, 31, 32, 33, 34, 35, 36, 37, 38, 39, 40, 41, 42, 43, 44, 45, 46] (by decide +kernel) (by decide +kernel)
set_option maxRecDepth 20000 in
theorem gX7_cost_X7_isName : GoodIn wsX7_cost (wsV RX7 166 RX7 yX7_isName wsX7_isName) := goodIn_app (goodIn_of _ (by decide +kernel)) ggX7_cost_X7_isName
theorem dX7_cost_0 : decode cX7_cost 0 = .ok (.aload_n 0, 1) := by decide +kernel
theorem dX7_cost_1 : decode cX7_cost 1 = .ok (.iload_n 1, 1) := by decide +kernel
theorem dX7_cost_2 : decode cX7_cost 2 = .ok (.invokevirtual 166, 3) := by decide +kernel
theorem dX7_cost_5 : decode cX7_cost 5 = .ok (.ifCond .ne 5, 3) := by decide +kernel
theorem dX7_cost_8 : decode cX7_cost 8 = .ok (.iconst (-1), 1) := by decide +kernel
theorem dX7_cost_9 : decode cX7_cost 9 = .ok (.ireturn, 1) := by decide +kernel
theorem dX7_cost_10 : decode cX7_cost 10 = .ok (.iload_n 2, 1) := by decide +kernel
theorem dX7_cost_11 : decode cX7_cost 11 = .ok (.bipush (-50), 2) := by decide +kernel
theorem dX7_cost_13 : decode cX7_cost 13 = .ok (.if_icmp .lt 9, 3) := by decide +kernel
theorem dX7_cost_16 : decode cX7_cost 16 = .ok (.iload_n 2, 1) := by decide +kernel
theorem dX7_cost_17 : decode cX7_cost 17 = .ok (.bipush 50, 2) := by decide +kernel
theorem dX7_cost_19 : decode cX7_cost 19 = .ok (.if_icmp .le 6, 3) := by decide +kernel
theorem dX7_cost_22 : decode cX7_cost 22 = .ok (.bipush (-2), 2) := by decide +kernel
theorem dX7_cost_24 : decode cX7_cost 24 = .ok (.ireturn, 1) := by decide +kernel
theorem dX7_cost_25 : decode cX7_cost 25 = .ok (.aload_n 0, 1) := by decide +kernel
theorem dX7_cost_26 : decode cX7_cost 26 = .ok (.getfield 29, 3) := by decide +kernel
theorem dX7_cost_29 : decode cX7_cost 29 = .ok (.iload_n 1, 1) := by decide +kernel
theorem dX7_cost_30 : decode cX7_cost 30 = .ok (.iload_n 2, 1) := by decide +kernel
theorem dX7_cost_31 : decode cX7_cost 31 = .ok (.iastore, 1) := by decide +kernel
theorem dX7_cost_32 : decode cX7_cost 32 = .ok (.aload_n 0, 1) := by decide +kernel
theorem dX7_cost_33 : decode cX7_cost 33 = .ok (.iconst 0, 1) := by decide +kernel
theorem dX7_cost_34 : decode cX7_cost 34 = .ok (.putfield 115, 3) := by decide +kernel
theorem dX7_cost_37 : decode cX7_cost 37 = .ok (.iconst 1, 1) := by decide +kernel
theorem dX7_cost_38 : decode cX7_cost 38 = .ok (.ireturn, 1) := by decide +kernel
set_option maxRecDepth 20000 in
theorem ggX7_clear_X7_emptyHand : GoodIn wsX7_clear wsX7_emptyHand := goodIn_r _ [9, 10, 11, 12, 20, 21, 22, 23, 24, 25, 26, 27, 28, 29, 30, 31, 32, 33, 34, 35, 36, 37, 38, 39, 40, 41, 42, 43, 44, 45, 46, 47, 48, 49, 50, 51, 52, 53, 54, 55, 56, 57] (by decide +kernel) (by decide +kernel)
set_option maxRecDepth 20000 in
theorem gX7_clear_X7_emptyHand : GoodIn wsX7_clear (wsV RX7 163 RX7 yX7_emptyHand wsX7_emptyHand) := goodIn_app (goodIn_of _ (by decide +kernel)) ggX7_clear_X7_emptyHand
set_option maxRecDepth 20000 in
theorem ggX7_clear_X7_change : GoodIn wsX7_clear wsX7_change := goodIn_r _ [16, 17, 18, 19, 20, 21, 22, 23, 24, 25, 26, 27, 28, 29, 30, 31, 32, 33, 34, 35, 36, 37, 38, 39, 40, 41, 42, 43, 44, 45, 46, 47, 48, 49, 50, 51, 52, 53, 54, 55, 56, 57] (by decide +kernel) (by decide +kernel)
set_option maxRecDepth 20000 in
theorem gX7_clear_X7_change : GoodIn wsX7_clear (wsV RX7 148 RX7 yX7_change wsX7_change) := goodIn_app (goodIn_of _ (by decide +kernel)) ggX7_clear_X7_change
theorem dX7_clear_0 : decode cX7_clear 0 = .ok (.aload_n 0, 1) := by decide +kernel
theorem dX7_clear_1 : decode cX7_clear 1 = .ok (.getfield 63, 3) := by decide +kernel
theorem dX7_clear_4 : decode cX7_clear 4 = .ok (.istore_n 1, 1) := by decide +kernel
theorem dX7_clear_5 : decode cX7_clear 5 = .ok (.aload_n 0, 1) := by decide +kernel
theorem dX7_clear_6 : decode cX7_clear 6 = .ok (.iconst 0, 1) := by decide +kernel
theorem dX7_clear_7 : decode cX7_clear 7 = .ok (.putfield 63, 3) := by decide +kernel
theorem dX7_clear_10 : decode cX7_clear 10 = .ok (.aload_n 0, 1) := by decide +kernel
theorem dX7_clear_11 : decode cX7_clear 11 = .ok (.iconst 0, 1) := by decide +kernel
theorem dX7_clear_12 : decode cX7_clear 12 = .ok (.putfield 66, 3) := by decide +kernel
theorem dX7_clear_15 : decode cX7_clear 15 = .ok (.aload_n 0, 1) := by decide +kernel
theorem dX7_clear_16 : decode cX7_clear 16 = .ok (.invokevirtual 163, 3) := by decide +kernel
theorem dX7_clear_19 : decode cX7_clear 19 = .ok (.aload_n 0, 1) := by decide +kernel
theorem dX7_clear_20 : decode cX7_clear 20 = .ok (.iconst 0, 1) := by decide +kernel
theorem dX7_clear_21 : decode cX7_clear 21 = .ok (.putfield 169, 3) := by decide +kernel
theorem dX7_clear_24 : decode cX7_clear 24 = .ok (.aload_n 0, 1) := by decide +kernel
theorem dX7_clear_25 : decode cX7_clear 25 = .ok (.iconst 0, 1) := by decide +kernel
theorem dX7_clear_26 : decode cX7_clear 26 = .ok (.putfield 172, 3) := by decide +kernel
theorem dX7_clear_29 : decode cX7_clear 29 = .ok (.aload_n 0, 1) := by decide +kernel
theorem dX7_clear_30 : decode cX7_clear 30 = .ok (.invokevirtual 148, 3) := by decide +kernel
theorem dX7_clear_33 : decode cX7_clear 33 = .ok (.iload_n 1, 1) := by decide +kernel
theorem dX7_clear_34 : decode cX7_clear 34 = .ok (.ireturn, 1) := by decide +kernel
set_option maxRecDepth 20000 in
theorem ggX7_assume_X7_isLiteral : GoodIn wsX7_assume wsX7_isLiteral := goodIn_r _ [7, 8, 12, 13, 14, 15, 16, 17, 18, 19, 20, 21, 22, 23, 24, 25, 26, 27, 28, 29, 30, 31, 32, 33, 34, 35, 36, 37, 38, 39, 40, 41, 42, 43, 44, 45, 46, 47, 48, 49] (by decide +kernel) (by decide +kernel)
set_option maxRecDepth 20000 in
theorem gX7_assume_X7_isLiteral : GoodIn wsX7_assume (wsV RX7 151 RX7 yX7_isLiteral wsX7_isLiteral) := goodIn_app (goodIn_of _ (by decide +kernel)) ggX7_assume_X7_isLiteral
set_option maxRecDepth 20000 in
theorem ggX7_assume_X7_bits : GoodIn wsX7_assume wsX7_bits := goodIn_r _ [11] (by decide +kernel) (by decide +kernel)
set_option maxRecDepth 20000 in
theorem gX7_assume_X7_bits : GoodIn wsX7_assume (va_wsS RX7 55 yX7_bits wsX7_bits) := goodIn_app (goodIn_of _ (by decide +kernel)) ggX7_assume_X7_bits
theorem dX7_assume_0 : decode cX7_assume 0 = .ok (.aload_n 0, 1) := by decide +kernel
theorem dX7_assume_1 : decode cX7_assume 1 = .ok (.iload_n 1, 1) := by decide +kernel
theorem dX7_assume_2 : decode cX7_assume 2 = .ok (.invokevirtual 151, 3) := by decide +kernel
theorem dX7_assume_5 : decode cX7_assume 5 = .ok (.ifCond .ne 5, 3) := by decide +kernel
theorem dX7_assume_8 : decode cX7_assume 8 = .ok (.iconst (-1), 1) := by decide +kernel
theorem dX7_assume_9 : decode cX7_assume 9 = .ok (.ireturn, 1) := by decide +kernel
theorem dX7_assume_10 : decode cX7_assume 10 = .ok (.iload_n 1, 1) := by decide +kernel
theorem dX7_assume_11 : decode cX7_assume 11 = .ok (.iconst 2, 1) := by decide +kernel
theorem dX7_assume_12 : decode cX7_assume 12 = .ok (.irem, 1) := by decide +kernel
theorem dX7_assume_13 : decode cX7_assume 13 = .ok (.ifCond .ne 20, 3) := by decide +kernel
theorem dX7_assume_16 : decode cX7_assume 16 = .ok (.aload_n 0, 1) := by decide +kernel
theorem dX7_assume_17 : decode cX7_assume 17 = .ok (.dup, 1) := by decide +kernel
theorem dX7_assume_18 : decode cX7_assume 18 = .ok (.getfield 169, 3) := by decide +kernel
theorem dX7_assume_21 : decode cX7_assume 21 = .ok (.iconst 1, 1) := by decide +kernel
theorem dX7_assume_22 : decode cX7_assume 22 = .ok (.iload_n 1, 1) := by decide +kernel
theorem dX7_assume_23 : decode cX7_assume 23 = .ok (.iconst 2, 1) := by decide +kernel
theorem dX7_assume_24 : decode cX7_assume 24 = .ok (.idiv, 1) := by decide +kernel
theorem dX7_assume_25 : decode cX7_assume 25 = .ok (.ishl, 1) := by decide +kernel
theorem dX7_assume_26 : decode cX7_assume 26 = .ok (.ior, 1) := by decide +kernel
theorem dX7_assume_27 : decode cX7_assume 27 = .ok (.putfield 169, 3) := by decide +kernel
theorem dX7_assume_30 : decode cX7_assume 30 = .ok (.goto 17, 3) := by decide +kernel
theorem dX7_assume_33 : decode cX7_assume 33 = .ok (.aload_n 0, 1) := by decide +kernel
theorem dX7_assume_34 : decode cX7_assume 34 = .ok (.dup, 1) := by decide +kernel
theorem dX7_assume_35 : decode cX7_assume 35 = .ok (.getfield 172, 3) := by decide +kernel
theorem dX7_assume_38 : decode cX7_assume 38 = .ok (.iconst 1, 1) := by decide +kernel
theorem dX7_assume_39 : decode cX7_assume 39 = .ok (.iload_n 1, 1) := by decide +kernel
theorem dX7_assume_40 : decode cX7_assume 40 = .ok (.iconst 2, 1) := by decide +kernel
theorem dX7_assume_41 : decode cX7_assume 41 = .ok (.idiv, 1) := by decide +kernel
theorem dX7_assume_42 : decode cX7_assume 42 = .ok (.ishl, 1) := by decide +kernel
theorem dX7_assume_43 : decode cX7_assume 43 = .ok (.ior, 1) := by decide +kernel
theorem dX7_assume_44 : decode cX7_assume 44 = .ok (.putfield 172, 3) := by decide +kernel
theorem dX7_assume_47 : decode cX7_assume 47 = .ok (.aload_n 0, 1) := by decide +kernel
theorem dX7_assume_48 : decode cX7_assume 48 = .ok (.getfield 169, 3) := by decide +kernel
theorem dX7_assume_51 : decode cX7_assume 51 = .ok (.invokestatic 55, 3) := by decide +kernel
theorem dX7_assume_54 : decode cX7_assume 54 = .ok (.aload_n 0, 1) := by decide +kernel
theorem dX7_assume_55 : decode cX7_assume 55 = .ok (.getfield 172, 3) := by decide +kernel
theorem dX7_assume_58 : decode cX7_assume 58 = .ok (.invokestatic 55, 3) := by decide +kernel
theorem dX7_assume_61 : decode cX7_assume 61 = .ok (.iadd, 1) := by decide +kernel
theorem dX7_assume_62 : decode cX7_assume 62 = .ok (.ireturn, 1) := by decide +kernel
set_option maxRecDepth 20000 in
theorem ggX7_forget_X7_bits : GoodIn wsX7_forget wsX7_bits := goodIn_r _ [6] (by decide +kernel) (by decide +kernel)
set_option maxRecDepth 20000 in
theorem gX7_forget_X7_bits : GoodIn wsX7_forget (va_wsS RX7 55 yX7_bits wsX7_bits) := goodIn_app (goodIn_of _ (by decide +kernel)) ggX7_forget_X7_bits
theorem dX7_forget_0 : decode cX7_forget 0 = .ok (.aload_n 0, 1) := by decide +kernel
theorem dX7_forget_1 : decode cX7_forget 1 = .ok (.getfield 169, 3) := by decide +kernel
theorem dX7_forget_4 : decode cX7_forget 4 = .ok (.invokestatic 55, 3) := by decide +kernel
theorem dX7_forget_7 : decode cX7_forget 7 = .ok (.aload_n 0, 1) := by decide +kernel
theorem dX7_forget_8 : decode cX7_forget 8 = .ok (.getfield 172, 3) := by decide +kernel
theorem dX7_forget_11 : decode cX7_forget 11 = .ok (.invokestatic 55, 3) := by decide +kernel
theorem dX7_forget_14 : decode cX7_forget 14 = .ok (.iadd, 1) := by decide +kernel
theorem dX7_forget_15 : decode cX7_forget 15 = .ok (.istore_n 1, 1) := by decide +kernel
theorem dX7_forget_16 : decode cX7_forget 16 = .ok (.aload_n 0, 1) := by decide +kernel
theorem dX7_forget_17 : decode cX7_forget 17 = .ok (.iconst 0, 1) := by decide +kernel
theorem dX7_forget_18 : decode cX7_forget 18 = .ok (.putfield 169, 3) := by decide +kernel
theorem dX7_forget_21 : decode cX7_forget 21 = .ok (.aload_n 0, 1) := by decide +kernel
theorem dX7_forget_22 : decode cX7_forget 22 = .ok (.iconst 0, 1) := by decide +kernel
theorem dX7_forget_23 : decode cX7_forget 23 = .ok (.putfield 172, 3) := by decide +kernel
theorem dX7_forget_26 : decode cX7_forget 26 = .ok (.iload_n 1, 1) := by decide +kernel
theorem dX7_forget_27 : decode cX7_forget 27 = .ok (.ireturn, 1) := by decide +kernel
set_option maxRecDepth 20000 in
theorem ggX7_conflict_X7_conflicts : GoodIn wsX7_conflict wsX7_conflicts := goodIn_r _ [7, 8, 9, 10, 11, 12, 13, 14, 15, 16, 17, 18, 19, 20, 21, 22, 23, 6, 24, 25, 26, 27, 28, 29, 30, 31, 32, 33, 34, 35, 36, 37, 38, 39, 40, 41, 42, 43, 44, 45, 46, 47, 48, 49, 50, 51, 52, 53, 54, 55, 56, 57, 58, 59, 60, 61, 62, 63, 64, 65, 66, 67, 68, 69, 70, 71, 72] (by decide +kernel) (by decide +kernel)
set_option maxRecDepth 20000 in
theorem gX7_conflict_X7_conflicts : GoodIn wsX7_conflict (wsV RX7 90 RX7 yX7_conflicts wsX7_conflicts) := goodIn_app (goodIn_of _ (by decide +kernel)) ggX7_conflict_X7_conflicts
theorem dX7_conflict_0 : decode cX7_conflict 0 = .ok (.aload_n 0, 1) := by decide +kernel
theorem dX7_conflict_1 : decode cX7_conflict 1 = .ok (.aload_n 0, 1) := by decide +kernel
theorem dX7_conflict_2 : decode cX7_conflict 2 = .ok (.getfield 169, 3) := by decide +kernel
theorem dX7_conflict_5 : decode cX7_conflict 5 = .ok (.aload_n 0, 1) := by decide +kernel
theorem dX7_conflict_6 : decode cX7_conflict 6 = .ok (.getfield 172, 3) := by decide +kernel
theorem dX7_conflict_9 : decode cX7_conflict 9 = .ok (.iconst 0, 1) := by decide +kernel
theorem dX7_conflict_10 : decode cX7_conflict 10 = .ok (.invokevirtual 90, 3) := by decide +kernel
theorem dX7_conflict_13 : decode cX7_conflict 13 = .ok (.ifCond .eq 7, 3) := by decide +kernel
theorem dX7_conflict_16 : decode cX7_conflict 16 = .ok (.iconst 1, 1) := by decide +kernel
theorem dX7_conflict_17 : decode cX7_conflict 17 = .ok (.goto 4, 3) := by decide +kernel
theorem dX7_conflict_20 : decode cX7_conflict 20 = .ok (.iconst 0, 1) := by decide +kernel
theorem dX7_conflict_21 : decode cX7_conflict 21 = .ok (.ireturn, 1) := by decide +kernel
set_option maxRecDepth 20000 in
theorem ggX7_known_X7_isName : GoodIn wsX7_known wsX7_isName := goodIn_r _ [9, 10, 39, 40, 41, 42, 43, 44, 45, 46, 47, 48, 49, 50, 51, 52, 53, 54, 55, 56, 57, 58, 59, 60, 61, 62, 63, 64, 65, 66, 67, 68, 69, 70, 71, 72, 73, 74, 75, 76] (by decide +kernel) (by decide +kernel)
set_option maxRecDepth 20000 in
theorem gX7_known_X7_isName : GoodIn wsX7_known (wsV RX7 166 RX7 yX7_isName wsX7_isName) := goodIn_app (goodIn_of _ (by decide +kernel)) ggX7_known_X7_isName
set_option maxRecDepth 20000 in
theorem ggX7_known_X7_conflicts : GoodIn wsX7_known wsX7_conflicts := goodIn_r _ [14, 3, 4, 15, 16, 17, 18, 19, 20, 21, 22, 23, 24, 25, 26, 27, 28, 8, 29, 10, 30, 31, 32, 33, 34, 35, 36, 37, 38, 39, 40, 41, 42, 43, 44, 45, 46, 47, 48, 49, 50, 51, 52, 53, 54, 55, 56, 57, 58, 59, 60, 61, 62, 63, 64, 65, 66, 67, 68, 69, 70, 71, 72, 73, 74, 75, 76] (by decide +kernel) (by decide +kernel)
set_option maxRecDepth 20000 in
theorem gX7_known_X7_conflicts : GoodIn wsX7_known (wsV RX7 90 RX7 yX7_conflicts wsX7_conflicts) := goodIn_app (goodIn_of _ (by decide +kernel)) ggX7_known_X7_conflicts
theorem dX7_known_0 : decode cX7_known 0 = .ok (.aload_n 0, 1) := by decide +kernel
theorem dX7_known_1 : decode cX7_known 1 = .ok (.iload_n 1, 1) := by decide +kernel
theorem dX7_known_2 : decode cX7_known 2 = .ok (.invokevirtual 166, 3) := by decide +kernel
theorem dX7_known_5 : decode cX7_known 5 = .ok (.ifCond .ne 5, 3) := by decide +kernel
theorem dX7_known_8 : decode cX7_known 8 = .ok (.iconst (-1), 1) := by decide +kernel
theorem dX7_known_9 : decode cX7_known 9 = .ok (.ireturn, 1) := by decide +kernel
theorem dX7_known_10 : decode cX7_known 10 = .ok (.aload_n 0, 1) := by decide +kernel
theorem dX7_known_11 : decode cX7_known 11 = .ok (.aload_n 0, 1) := by decide +kernel
theorem dX7_known_12 : decode cX7_known 12 = .ok (.getfield 169, 3) := by decide +kernel
theorem dX7_known_15 : decode cX7_known 15 = .ok (.aload_n 0, 1) := by decide +kernel
theorem dX7_known_16 : decode cX7_known 16 = .ok (.getfield 172, 3) := by decide +kernel
theorem dX7_known_19 : decode cX7_known 19 = .ok (.iconst 0, 1) := by decide +kernel
theorem dX7_known_20 : decode cX7_known 20 = .ok (.invokevirtual 90, 3) := by decide +kernel
theorem dX7_known_23 : decode cX7_known 23 = .ok (.ifCond .eq 6, 3) := by decide +kernel
theorem dX7_known_26 : decode cX7_known 26 = .ok (.bipush (-2), 2) := by decide +kernel
theorem dX7_known_28 : decode cX7_known 28 = .ok (.ireturn, 1) := by decide +kernel
theorem dX7_known_29 : decode cX7_known 29 = .ok (.aload_n 0, 1) := by decide +kernel
theorem dX7_known_30 : decode cX7_known 30 = .ok (.getfield 48, 3) := by decide +kernel
theorem dX7_known_33 : decode cX7_known 33 = .ok (.iload_n 1, 1) := by decide +kernel
theorem dX7_known_34 : decode cX7_known 34 = .ok (.ishr, 1) := by decide +kernel
theorem dX7_known_35 : decode cX7_known 35 = .ok (.iconst 1, 1) := by decide +kernel
theorem dX7_known_36 : decode cX7_known 36 = .ok (.iand, 1) := by decide +kernel
theorem dX7_known_37 : decode cX7_known 37 = .ok (.iconst 1, 1) := by decide +kernel
theorem dX7_known_38 : decode cX7_known 38 = .ok (.if_icmp .ne 7, 3) := by decide +kernel
theorem dX7_known_41 : decode cX7_known 41 = .ok (.iconst 1, 1) := by decide +kernel
theorem dX7_known_42 : decode cX7_known 42 = .ok (.goto 20, 3) := by decide +kernel
theorem dX7_known_45 : decode cX7_known 45 = .ok (.aload_n 0, 1) := by decide +kernel
theorem dX7_known_46 : decode cX7_known 46 = .ok (.getfield 52, 3) := by decide +kernel
theorem dX7_known_49 : decode cX7_known 49 = .ok (.iload_n 1, 1) := by decide +kernel
theorem dX7_known_50 : decode cX7_known 50 = .ok (.ishr, 1) := by decide +kernel
theorem dX7_known_51 : decode cX7_known 51 = .ok (.iconst 1, 1) := by decide +kernel
theorem dX7_known_52 : decode cX7_known 52 = .ok (.iand, 1) := by decide +kernel
theorem dX7_known_53 : decode cX7_known 53 = .ok (.iconst 1, 1) := by decide +kernel
theorem dX7_known_54 : decode cX7_known 54 = .ok (.if_icmp .ne 7, 3) := by decide +kernel
theorem dX7_known_57 : decode cX7_known 57 = .ok (.iconst 0, 1) := by decide +kernel
theorem dX7_known_58 : decode cX7_known 58 = .ok (.goto 4, 3) := by decide +kernel
theorem dX7_known_61 : decode cX7_known 61 = .ok (.iconst 2, 1) := by decide +kernel
theorem dX7_known_62 : decode cX7_known 62 = .ok (.ireturn, 1) := by decide +kernel
set_option maxRecDepth 20000 in
theorem ggX7_lemma_X7_conflicts : GoodIn wsX7_lemma wsX7_conflicts := goodIn_r _ [10, 11, 12, 13, 14, 15, 16, 17, 18, 19, 20, 1, 4, 5, 21, 22, 23, 9, 24, 25, 26, 27, 28, 29, 30, 31, 32, 33, 34, 40, 41, 42, 43, 44, 45, 46, 47, 48, 49, 50, 51, 52, 53, 54, 55, 56, 57, 58, 59, 60, 61, 62, 63, 64, 65, 66, 67, 68, 69, 70, 71, 72, 73, 74, 75, 76, 77] (by decide +kernel) (by decide +kernel)
set_option maxRecDepth 20000 in
theorem gX7_lemma_X7_conflicts : GoodIn wsX7_lemma (wsV RX7 90 RX7 yX7_conflicts wsX7_conflicts) := goodIn_app (goodIn_of _ (by decide +kernel)) ggX7_lemma_X7_conflicts
set_option maxRecDepth 20000 in
theorem ggX7_lemma_X7_emptyHand : GoodIn wsX7_lemma wsX7_emptyHand := goodIn_r _ [38, 3, 2, 39, 40, 41, 42, 43, 44, 45, 46, 47, 48, 49, 50, 51, 52, 53, 54, 55, 56, 57, 58, 59, 60, 61, 62, 63, 64, 65, 66, 67, 68, 69, 70, 71, 72, 73, 74, 75, 76, 77] (by decide +kernel) (by decide +kernel)
set_option maxRecDepth 20000 in
theorem gX7_lemma_X7_emptyHand : GoodIn wsX7_lemma (wsV RX7 163 RX7 yX7_emptyHand wsX7_emptyHand) := goodIn_app (goodIn_of _ (by decide +kernel)) ggX7_lemma_X7_emptyHand
theorem dX7_lemma_0 : decode cX7_lemma 0 = .ok (.aload_n 0, 1) := by decide +kernel
theorem dX7_lemma_1 : decode cX7_lemma 1 = .ok (.getfield 80, 3) := by decide +kernel
theorem dX7_lemma_4 : decode cX7_lemma 4 = .ok (.bipush 40, 2) := by decide +kernel
theorem dX7_lemma_6 : decode cX7_lemma 6 = .ok (.if_icmp .ne 6, 3) := by decide +kernel
theorem dX7_lemma_9 : decode cX7_lemma 9 = .ok (.bipush (-4), 2) := by decide +kernel
theorem dX7_lemma_11 : decode cX7_lemma 11 = .ok (.ireturn, 1) := by decide +kernel
theorem dX7_lemma_12 : decode cX7_lemma 12 = .ok (.aload_n 0, 1) := by decide +kernel
theorem dX7_lemma_13 : decode cX7_lemma 13 = .ok (.aload_n 0, 1) := by decide +kernel
theorem dX7_lemma_14 : decode cX7_lemma 14 = .ok (.getfield 157, 3) := by decide +kernel
theorem dX7_lemma_17 : decode cX7_lemma 17 = .ok (.aload_n 0, 1) := by decide +kernel
theorem dX7_lemma_18 : decode cX7_lemma 18 = .ok (.getfield 154, 3) := by decide +kernel
theorem dX7_lemma_21 : decode cX7_lemma 21 = .ok (.iconst 2, 1) := by decide +kernel
theorem dX7_lemma_22 : decode cX7_lemma 22 = .ok (.invokevirtual 90, 3) := by decide +kernel
theorem dX7_lemma_25 : decode cX7_lemma 25 = .ok (.istore_n 1, 1) := by decide +kernel
theorem dX7_lemma_26 : decode cX7_lemma 26 = .ok (.iload_n 1, 1) := by decide +kernel
theorem dX7_lemma_27 : decode cX7_lemma 27 = .ok (.ifCond .eq 39, 3) := by decide +kernel
theorem dX7_lemma_30 : decode cX7_lemma 30 = .ok (.aload_n 0, 1) := by decide +kernel
theorem dX7_lemma_31 : decode cX7_lemma 31 = .ok (.getfield 32, 3) := by decide +kernel
theorem dX7_lemma_34 : decode cX7_lemma 34 = .ok (.aload_n 0, 1) := by decide +kernel
theorem dX7_lemma_35 : decode cX7_lemma 35 = .ok (.getfield 80, 3) := by decide +kernel
theorem dX7_lemma_38 : decode cX7_lemma 38 = .ok (.aload_n 0, 1) := by decide +kernel
theorem dX7_lemma_39 : decode cX7_lemma 39 = .ok (.getfield 154, 3) := by decide +kernel
theorem dX7_lemma_42 : decode cX7_lemma 42 = .ok (.iastore, 1) := by decide +kernel
theorem dX7_lemma_43 : decode cX7_lemma 43 = .ok (.aload_n 0, 1) := by decide +kernel
theorem dX7_lemma_44 : decode cX7_lemma 44 = .ok (.getfield 35, 3) := by decide +kernel
theorem dX7_lemma_47 : decode cX7_lemma 47 = .ok (.aload_n 0, 1) := by decide +kernel
theorem dX7_lemma_48 : decode cX7_lemma 48 = .ok (.getfield 80, 3) := by decide +kernel
theorem dX7_lemma_51 : decode cX7_lemma 51 = .ok (.aload_n 0, 1) := by decide +kernel
theorem dX7_lemma_52 : decode cX7_lemma 52 = .ok (.getfield 157, 3) := by decide +kernel
theorem dX7_lemma_55 : decode cX7_lemma 55 = .ok (.iastore, 1) := by decide +kernel
theorem dX7_lemma_56 : decode cX7_lemma 56 = .ok (.aload_n 0, 1) := by decide +kernel
theorem dX7_lemma_57 : decode cX7_lemma 57 = .ok (.dup, 1) := by decide +kernel
theorem dX7_lemma_58 : decode cX7_lemma 58 = .ok (.getfield 80, 3) := by decide +kernel
theorem dX7_lemma_61 : decode cX7_lemma 61 = .ok (.iconst 1, 1) := by decide +kernel
theorem dX7_lemma_62 : decode cX7_lemma 62 = .ok (.iadd, 1) := by decide +kernel
theorem dX7_lemma_63 : decode cX7_lemma 63 = .ok (.putfield 80, 3) := by decide +kernel
theorem dX7_lemma_66 : decode cX7_lemma 66 = .ok (.aload_n 0, 1) := by decide +kernel
theorem dX7_lemma_67 : decode cX7_lemma 67 = .ok (.invokevirtual 163, 3) := by decide +kernel
theorem dX7_lemma_70 : decode cX7_lemma 70 = .ok (.iload_n 1, 1) := by decide +kernel
theorem dX7_lemma_71 : decode cX7_lemma 71 = .ok (.ifCond .eq 7, 3) := by decide +kernel
theorem dX7_lemma_74 : decode cX7_lemma 74 = .ok (.iconst 1, 1) := by decide +kernel
theorem dX7_lemma_75 : decode cX7_lemma 75 = .ok (.goto 4, 3) := by decide +kernel
theorem dX7_lemma_78 : decode cX7_lemma 78 = .ok (.iconst 0, 1) := by decide +kernel
theorem dX7_lemma_79 : decode cX7_lemma 79 = .ok (.ireturn, 1) := by decide +kernel
theorem dX7_lemmas_0 : decode cX7_lemmas 0 = .ok (.aload_n 0, 1) := by decide +kernel
theorem dX7_lemmas_1 : decode cX7_lemmas 1 = .ok (.getfield 80, 3) := by decide +kernel
theorem dX7_lemmas_4 : decode cX7_lemmas 4 = .ok (.ireturn, 1) := by decide +kernel
set_option maxRecDepth 20000 in
theorem ggX7_search_X7_runSearch : GoodIn wsX7_search wsX7_runSearch := goodIn_r _ [6, 7, 8, 9, 10, 11, 1, 12, 13, 14, 15, 16, 17, 18, 19, 5, 20, 21, 22, 23, 24, 25, 26, 27, 28, 29, 30, 31, 32, 33, 34, 35, 36, 37, 38, 39, 40, 41, 42, 43, 44, 45, 46, 47, 48, 49, 50, 51, 52, 53, 54, 55, 56, 57, 58, 59, 60, 61, 62, 63, 64, 65, 66, 67, 68, 69, 70, 71, 72, 73, 74, 75, 76, 77, 78, 79, 80, 81, 82, 83, 84, 85, 86, 87, 88, 89] (by decide +kernel) (by decide +kernel)
set_option maxRecDepth 20000 in
theorem gX7_search_X7_runSearch : GoodIn wsX7_search (wsV RX7 175 RX7 yX7_runSearch wsX7_runSearch) := goodIn_app (goodIn_of _ (by decide +kernel)) ggX7_search_X7_runSearch
theorem dX7_search_0 : decode cX7_search 0 = .ok (.aload_n 0, 1) := by decide +kernel
theorem dX7_search_1 : decode cX7_search 1 = .ok (.invokevirtual 175, 3) := by decide +kernel
theorem dX7_search_4 : decode cX7_search 4 = .ok (.aload_n 0, 1) := by decide +kernel
theorem dX7_search_5 : decode cX7_search 5 = .ok (.getfield 103, 3) := by decide +kernel
theorem dX7_search_8 : decode cX7_search 8 = .ok (.ifCond .eq 7, 3) := by decide +kernel
theorem dX7_search_11 : decode cX7_search 11 = .ok (.iconst 1, 1) := by decide +kernel
theorem dX7_search_12 : decode cX7_search 12 = .ok (.goto 4, 3) := by decide +kernel
theorem dX7_search_15 : decode cX7_search 15 = .ok (.iconst 0, 1) := by decide +kernel
theorem dX7_search_16 : decode cX7_search 16 = .ok (.ireturn, 1) := by decide +kernel
set_option maxRecDepth 20000 in
theorem ggX7_value_X7_isName : GoodIn wsX7_value wsX7_isName := goodIn_r _ [7, 8, 41, 42, 43, 44, 45, 46, 47, 48, 49, 50, 51, 52, 53, 54, 55, 56, 57, 58, 59, 60, 61, 62, 63, 64, 65, 66, 67, 68, 69, 70, 71, 72, 73, 74, 75, 76, 77, 78] (by decide +kernel) (by decide +kernel)
set_option maxRecDepth 20000 in
theorem gX7_value_X7_isName : GoodIn wsX7_value (wsV RX7 166 RX7 yX7_isName wsX7_isName) := goodIn_app (goodIn_of _ (by decide +kernel)) ggX7_value_X7_isName
set_option maxRecDepth 20000 in
theorem ggX7_value_X7_know : GoodIn wsX7_value wsX7_know := goodIn_r _ [12, 13, 1, 14, 15, 8, 16, 17, 18, 2, 19, 20, 21, 22, 23, 24, 25, 6, 26, 27, 28, 29, 30, 31, 32, 33, 34, 35, 36, 37, 38, 39, 40, 41, 42, 43, 44, 45, 46, 47, 48, 49, 50, 51, 52, 53, 54, 55, 56, 57, 58, 59, 60, 61, 62, 63, 64, 65, 66, 67, 68, 69, 70, 71, 72, 73, 74, 75, 76, 77, 78] (by decide +kernel) (by decide +kernel)
set_option maxRecDepth 20000 in
theorem gX7_value_X7_know : GoodIn wsX7_value (wsV RX7 178 RX7 yX7_know wsX7_know) := goodIn_app (goodIn_of _ (by decide +kernel)) ggX7_value_X7_know
set_option maxRecDepth 20000 in
theorem ggX7_value_X7_isTrue : GoodIn wsX7_value wsX7_isTrue := goodIn_r _ [35, 8, 41, 42, 43, 44, 45, 46, 47, 48, 49, 50, 51, 52, 53, 54, 55, 56, 57, 58, 59, 60, 61, 62, 63, 64, 65, 66, 67, 68, 69, 70, 71, 72, 73, 74, 75, 76, 77, 78] (by decide +kernel) (by decide +kernel)
set_option maxRecDepth 20000 in
theorem gX7_value_X7_isTrue : GoodIn wsX7_value (wsV RX7 112 RX7 yX7_isTrue wsX7_isTrue) := goodIn_app (goodIn_of _ (by decide +kernel)) ggX7_value_X7_isTrue
theorem dX7_value_0 : decode cX7_value 0 = .ok (.aload_n 0, 1) := by decide +kernel
theorem dX7_value_1 : decode cX7_value 1 = .ok (.iload_n 1, 1) := by decide +kernel
theorem dX7_value_2 : decode cX7_value 2 = .ok (.invokevirtual 166, 3) := by decide +kernel
theorem dX7_value_5 : decode cX7_value 5 = .ok (.ifCond .ne 5, 3) := by decide +kernel
theorem dX7_value_8 : decode cX7_value 8 = .ok (.iconst (-1), 1) := by decide +kernel
theorem dX7_value_9 : decode cX7_value 9 = .ok (.ireturn, 1) := by decide +kernel
theorem dX7_value_10 : decode cX7_value 10 = .ok (.aload_n 0, 1) := by decide +kernel
theorem dX7_value_11 : decode cX7_value 11 = .ok (.invokevirtual 178, 3) := by decide +kernel
theorem dX7_value_14 : decode cX7_value 14 = .ok (.aload_n 0, 1) := by decide +kernel
theorem dX7_value_15 : decode cX7_value 15 = .ok (.getfield 118, 3) := by decide +kernel
theorem dX7_value_18 : decode cX7_value 18 = .ok (.ifCond .ne 8, 3) := by decide +kernel
theorem dX7_value_21 : decode cX7_value 21 = .ok (.bipush (-3), 2) := by decide +kernel
theorem dX7_value_23 : decode cX7_value 23 = .ok (.goto 20, 3) := by decide +kernel
theorem dX7_value_26 : decode cX7_value 26 = .ok (.aload_n 0, 1) := by decide +kernel
theorem dX7_value_27 : decode cX7_value 27 = .ok (.aload_n 0, 1) := by decide +kernel
theorem dX7_value_28 : decode cX7_value 28 = .ok (.getfield 130, 3) := by decide +kernel
theorem dX7_value_31 : decode cX7_value 31 = .ok (.iload_n 1, 1) := by decide +kernel
theorem dX7_value_32 : decode cX7_value 32 = .ok (.invokevirtual 112, 3) := by decide +kernel
theorem dX7_value_35 : decode cX7_value 35 = .ok (.ifCond .eq 7, 3) := by decide +kernel
theorem dX7_value_38 : decode cX7_value 38 = .ok (.iconst 1, 1) := by decide +kernel
theorem dX7_value_39 : decode cX7_value 39 = .ok (.goto 4, 3) := by decide +kernel
theorem dX7_value_42 : decode cX7_value 42 = .ok (.iconst 0, 1) := by decide +kernel
theorem dX7_value_43 : decode cX7_value 43 = .ok (.ireturn, 1) := by decide +kernel
set_option maxRecDepth 20000 in
theorem ggX7_told_X7_runSearch : GoodIn wsX7_told wsX7_runSearch := goodIn_r _ [8, 9, 10, 3, 1, 2, 11, 12, 13, 14, 15, 16, 17, 18, 19, 7, 20, 21, 22, 23, 24, 25, 26, 27, 28, 29, 30, 31, 32, 33, 34, 35, 36, 37, 38, 39, 40, 41, 42, 43, 44, 45, 46, 47, 48, 49, 50, 51, 52, 53, 54, 55, 56, 57, 58, 59, 60, 61, 62, 63, 64, 65, 66, 67, 68, 69, 70, 71, 72, 73, 74, 75, 76, 77, 78, 79, 80, 81, 82, 83, 84, 85, 86, 87, 88, 89] (by decide +kernel) (by decide +kernel)
set_option maxRecDepth 20000 in
theorem gX7_told_X7_runSearch : GoodIn wsX7_told (wsV RX7 175 RX7 yX7_runSearch wsX7_runSearch) := goodIn_app (goodIn_of _ (by decide +kernel)) ggX7_told_X7_runSearch
theorem dX7_told_0 : decode cX7_told 0 = .ok (.iload_n 1, 1) := by decide +kernel
theorem dX7_told_1 : decode cX7_told 1 = .ok (.ifCond .lt 8, 3) := by decide +kernel
theorem dX7_told_4 : decode cX7_told 4 = .ok (.iload_n 1, 1) := by decide +kernel
theorem dX7_told_5 : decode cX7_told 5 = .ok (.iconst 2, 1) := by decide +kernel
theorem dX7_told_6 : decode cX7_told 6 = .ok (.if_icmp .le 6, 3) := by decide +kernel
theorem dX7_told_9 : decode cX7_told 9 = .ok (.bipush (-2), 2) := by decide +kernel
theorem dX7_told_11 : decode cX7_told 11 = .ok (.ireturn, 1) := by decide +kernel
theorem dX7_told_12 : decode cX7_told 12 = .ok (.aload_n 0, 1) := by decide +kernel
theorem dX7_told_13 : decode cX7_told 13 = .ok (.invokevirtual 175, 3) := by decide +kernel
theorem dX7_told_16 : decode cX7_told 16 = .ok (.iload_n 1, 1) := by decide +kernel
theorem dX7_told_17 : decode cX7_told 17 = .ok (.ifCond .ne 10, 3) := by decide +kernel
theorem dX7_told_20 : decode cX7_told 20 = .ok (.aload_n 0, 1) := by decide +kernel
theorem dX7_told_21 : decode cX7_told 21 = .ok (.getfield 97, 3) := by decide +kernel
theorem dX7_told_24 : decode cX7_told 24 = .ok (.goto 19, 3) := by decide +kernel
theorem dX7_told_27 : decode cX7_told 27 = .ok (.iload_n 1, 1) := by decide +kernel
theorem dX7_told_28 : decode cX7_told 28 = .ok (.iconst 1, 1) := by decide +kernel
theorem dX7_told_29 : decode cX7_told 29 = .ok (.if_icmp .ne 10, 3) := by decide +kernel
theorem dX7_told_32 : decode cX7_told 32 = .ok (.aload_n 0, 1) := by decide +kernel
theorem dX7_told_33 : decode cX7_told 33 = .ok (.getfield 100, 3) := by decide +kernel
theorem dX7_told_36 : decode cX7_told 36 = .ok (.goto 7, 3) := by decide +kernel
theorem dX7_told_39 : decode cX7_told 39 = .ok (.aload_n 0, 1) := by decide +kernel
theorem dX7_told_40 : decode cX7_told 40 = .ok (.getfield 77, 3) := by decide +kernel
theorem dX7_told_43 : decode cX7_told 43 = .ok (.ireturn, 1) := by decide +kernel
set_option maxRecDepth 20000 in
theorem ggX7_learned_X7_runSearch : GoodIn wsX7_learned wsX7_runSearch := goodIn_r _ [8, 9, 10, 1, 11, 12, 13, 2, 14, 15, 16, 17, 18, 19, 20, 7, 21, 22, 23, 24, 25, 26, 27, 28, 29, 30, 31, 3, 32, 33, 34, 35, 36, 37, 38, 39, 40, 41, 42, 43, 44, 45, 46, 47, 48, 49, 50, 51, 52, 53, 54, 55, 56, 57, 58, 59, 60, 61, 62, 63, 64, 65, 66, 67, 68, 69, 70, 71, 72, 73, 74, 75, 76, 77, 78, 79, 80, 81, 82, 83, 84, 85, 86, 87, 88, 89] (by decide +kernel) (by decide +kernel)
set_option maxRecDepth 20000 in
theorem gX7_learned_X7_runSearch : GoodIn wsX7_learned (wsV RX7 175 RX7 yX7_runSearch wsX7_runSearch) := goodIn_app (goodIn_of _ (by decide +kernel)) ggX7_learned_X7_runSearch
theorem dX7_learned_0 : decode cX7_learned 0 = .ok (.aload_n 0, 1) := by decide +kernel
theorem dX7_learned_1 : decode cX7_learned 1 = .ok (.invokevirtual 175, 3) := by decide +kernel
theorem dX7_learned_4 : decode cX7_learned 4 = .ok (.iload_n 1, 1) := by decide +kernel
theorem dX7_learned_5 : decode cX7_learned 5 = .ok (.ifCond .lt 11, 3) := by decide +kernel
theorem dX7_learned_8 : decode cX7_learned 8 = .ok (.iload_n 1, 1) := by decide +kernel
theorem dX7_learned_9 : decode cX7_learned 9 = .ok (.aload_n 0, 1) := by decide +kernel
theorem dX7_learned_10 : decode cX7_learned 10 = .ok (.getfield 77, 3) := by decide +kernel
theorem dX7_learned_13 : decode cX7_learned 13 = .ok (.if_icmp .lt 5, 3) := by decide +kernel
theorem dX7_learned_16 : decode cX7_learned 16 = .ok (.iconst (-1), 1) := by decide +kernel
theorem dX7_learned_17 : decode cX7_learned 17 = .ok (.ireturn, 1) := by decide +kernel
theorem dX7_learned_18 : decode cX7_learned 18 = .ok (.iload_n 2, 1) := by decide +kernel
theorem dX7_learned_19 : decode cX7_learned 19 = .ok (.istore_n 3, 1) := by decide +kernel
theorem dX7_learned_20 : decode cX7_learned 20 = .ok (.iconst 0, 1) := by decide +kernel
theorem dX7_learned_21 : decode cX7_learned 21 = .ok (.istore 4, 2) := by decide +kernel
theorem dX7_learned_23 : decode cX7_learned 23 = .ok (.iload 4, 2) := by decide +kernel
theorem dX7_learned_25 : decode cX7_learned 25 = .ok (.aload_n 0, 1) := by decide +kernel
theorem dX7_learned_26 : decode cX7_learned 26 = .ok (.getfield 63, 3) := by decide +kernel
theorem dX7_learned_29 : decode cX7_learned 29 = .ok (.if_icmp .ge 36, 3) := by decide +kernel
theorem dX7_learned_32 : decode cX7_learned 32 = .ok (.aload_n 0, 1) := by decide +kernel
theorem dX7_learned_33 : decode cX7_learned 33 = .ok (.getfield 41, 3) := by decide +kernel
theorem dX7_learned_36 : decode cX7_learned 36 = .ok (.iload_n 1, 1) := by decide +kernel
theorem dX7_learned_37 : decode cX7_learned 37 = .ok (.iaload, 1) := by decide +kernel
theorem dX7_learned_38 : decode cX7_learned 38 = .ok (.iload 4, 2) := by decide +kernel
theorem dX7_learned_40 : decode cX7_learned 40 = .ok (.ishr, 1) := by decide +kernel
theorem dX7_learned_41 : decode cX7_learned 41 = .ok (.iconst 1, 1) := by decide +kernel
theorem dX7_learned_42 : decode cX7_learned 42 = .ok (.iand, 1) := by decide +kernel
theorem dX7_learned_43 : decode cX7_learned 43 = .ok (.iconst 1, 1) := by decide +kernel
theorem dX7_learned_44 : decode cX7_learned 44 = .ok (.if_icmp .ne 15, 3) := by decide +kernel
theorem dX7_learned_47 : decode cX7_learned 47 = .ok (.iload_n 3, 1) := by decide +kernel
theorem dX7_learned_48 : decode cX7_learned 48 = .ok (.ifCond .ne 8, 3) := by decide +kernel
theorem dX7_learned_51 : decode cX7_learned 51 = .ok (.iconst 2, 1) := by decide +kernel
theorem dX7_learned_52 : decode cX7_learned 52 = .ok (.iload 4, 2) := by decide +kernel
theorem dX7_learned_54 : decode cX7_learned 54 = .ok (.imul, 1) := by decide +kernel
theorem dX7_learned_55 : decode cX7_learned 55 = .ok (.ireturn, 1) := by decide +kernel
theorem dX7_learned_56 : decode cX7_learned 56 = .ok (.iinc 3 (-1), 3) := by decide +kernel
theorem dX7_learned_59 : decode cX7_learned 59 = .ok (.iinc 4 1, 3) := by decide +kernel
theorem dX7_learned_62 : decode cX7_learned 62 = .ok (.goto (-39), 3) := by decide +kernel
theorem dX7_learned_65 : decode cX7_learned 65 = .ok (.iconst (-1), 1) := by decide +kernel
theorem dX7_learned_66 : decode cX7_learned 66 = .ok (.ireturn, 1) := by decide +kernel
set_option maxRecDepth 20000 in
theorem ggX7_count_X7_know : GoodIn wsX7_count wsX7_know := goodIn_r _ [6, 7, 1, 8, 9, 10, 11, 12, 13, 14, 15, 16, 17, 18, 19, 20, 21, 5, 22, 23, 24, 25, 26, 27, 28, 29, 30, 31, 32, 33, 34, 35, 36, 37, 38, 39, 40, 41, 42, 43, 44, 45, 46, 47, 48, 49, 50, 51, 52, 53, 54, 55, 56, 57, 58, 59, 60, 61, 62, 63, 64, 65, 66, 67, 68, 69, 70, 71, 72, 73, 74] (by decide +kernel) (by decide +kernel)
set_option maxRecDepth 20000 in
theorem gX7_count_X7_know : GoodIn wsX7_count (wsV RX7 178 RX7 yX7_know wsX7_know) := goodIn_app (goodIn_of _ (by decide +kernel)) ggX7_count_X7_know
theorem dX7_count_0 : decode cX7_count 0 = .ok (.aload_n 0, 1) := by decide +kernel
theorem dX7_count_1 : decode cX7_count 1 = .ok (.invokevirtual 178, 3) := by decide +kernel
theorem dX7_count_4 : decode cX7_count 4 = .ok (.aload_n 0, 1) := by decide +kernel
theorem dX7_count_5 : decode cX7_count 5 = .ok (.getfield 118, 3) := by decide +kernel
theorem dX7_count_8 : decode cX7_count 8 = .ok (.ireturn, 1) := by decide +kernel
set_option maxRecDepth 20000 in
theorem ggX7_fixed_X7_isName : GoodIn wsX7_fixed wsX7_isName := goodIn_r _ [8, 9, 41, 42, 43, 44, 45, 46, 47, 48, 49, 50, 51, 52, 53, 54, 55, 56, 57, 58, 59, 60, 61, 62, 63, 64, 65, 66, 67, 68, 69, 70, 71, 72, 73, 74, 75, 76, 77, 78] (by decide +kernel) (by decide +kernel)
set_option maxRecDepth 20000 in
theorem gX7_fixed_X7_isName : GoodIn wsX7_fixed (wsV RX7 166 RX7 yX7_isName wsX7_isName) := goodIn_app (goodIn_of _ (by decide +kernel)) ggX7_fixed_X7_isName
set_option maxRecDepth 20000 in
theorem ggX7_fixed_X7_know : GoodIn wsX7_fixed wsX7_know := goodIn_r _ [13, 14, 1, 2, 3, 9, 15, 16, 17, 18, 19, 20, 21, 22, 23, 24, 25, 7, 26, 27, 28, 29, 30, 31, 32, 33, 34, 35, 36, 37, 38, 39, 40, 41, 42, 43, 44, 45, 46, 47, 48, 49, 50, 51, 52, 53, 54, 55, 56, 57, 58, 59, 60, 61, 62, 63, 64, 65, 66, 67, 68, 69, 70, 71, 72, 73, 74, 75, 76, 77, 78] (by decide +kernel) (by decide +kernel)
set_option maxRecDepth 20000 in
theorem gX7_fixed_X7_know : GoodIn wsX7_fixed (wsV RX7 178 RX7 yX7_know wsX7_know) := goodIn_app (goodIn_of _ (by decide +kernel)) ggX7_fixed_X7_know
theorem dX7_fixed_0 : decode cX7_fixed 0 = .ok (.aload_n 0, 1) := by decide +kernel
theorem dX7_fixed_1 : decode cX7_fixed 1 = .ok (.iload_n 1, 1) := by decide +kernel
theorem dX7_fixed_2 : decode cX7_fixed 2 = .ok (.invokevirtual 166, 3) := by decide +kernel
theorem dX7_fixed_5 : decode cX7_fixed 5 = .ok (.ifCond .ne 5, 3) := by decide +kernel
theorem dX7_fixed_8 : decode cX7_fixed 8 = .ok (.iconst (-1), 1) := by decide +kernel
theorem dX7_fixed_9 : decode cX7_fixed 9 = .ok (.ireturn, 1) := by decide +kernel
theorem dX7_fixed_10 : decode cX7_fixed 10 = .ok (.aload_n 0, 1) := by decide +kernel
theorem dX7_fixed_11 : decode cX7_fixed 11 = .ok (.invokevirtual 178, 3) := by decide +kernel
theorem dX7_fixed_14 : decode cX7_fixed 14 = .ok (.aload_n 0, 1) := by decide +kernel
theorem dX7_fixed_15 : decode cX7_fixed 15 = .ok (.getfield 118, 3) := by decide +kernel
theorem dX7_fixed_18 : decode cX7_fixed 18 = .ok (.ifCond .ne 8, 3) := by decide +kernel
theorem dX7_fixed_21 : decode cX7_fixed 21 = .ok (.bipush (-3), 2) := by decide +kernel
theorem dX7_fixed_23 : decode cX7_fixed 23 = .ok (.goto 36, 3) := by decide +kernel
theorem dX7_fixed_26 : decode cX7_fixed 26 = .ok (.aload_n 0, 1) := by decide +kernel
theorem dX7_fixed_27 : decode cX7_fixed 27 = .ok (.getfield 121, 3) := by decide +kernel
theorem dX7_fixed_30 : decode cX7_fixed 30 = .ok (.iload_n 1, 1) := by decide +kernel
theorem dX7_fixed_31 : decode cX7_fixed 31 = .ok (.ishr, 1) := by decide +kernel
theorem dX7_fixed_32 : decode cX7_fixed 32 = .ok (.iconst 1, 1) := by decide +kernel
theorem dX7_fixed_33 : decode cX7_fixed 33 = .ok (.iand, 1) := by decide +kernel
theorem dX7_fixed_34 : decode cX7_fixed 34 = .ok (.iconst 1, 1) := by decide +kernel
theorem dX7_fixed_35 : decode cX7_fixed 35 = .ok (.if_icmp .ne 7, 3) := by decide +kernel
theorem dX7_fixed_38 : decode cX7_fixed 38 = .ok (.iconst 1, 1) := by decide +kernel
theorem dX7_fixed_39 : decode cX7_fixed 39 = .ok (.goto 20, 3) := by decide +kernel
theorem dX7_fixed_42 : decode cX7_fixed 42 = .ok (.aload_n 0, 1) := by decide +kernel
theorem dX7_fixed_43 : decode cX7_fixed 43 = .ok (.getfield 124, 3) := by decide +kernel
theorem dX7_fixed_46 : decode cX7_fixed 46 = .ok (.iload_n 1, 1) := by decide +kernel
theorem dX7_fixed_47 : decode cX7_fixed 47 = .ok (.ishr, 1) := by decide +kernel
theorem dX7_fixed_48 : decode cX7_fixed 48 = .ok (.iconst 1, 1) := by decide +kernel
theorem dX7_fixed_49 : decode cX7_fixed 49 = .ok (.iand, 1) := by decide +kernel
theorem dX7_fixed_50 : decode cX7_fixed 50 = .ok (.iconst 1, 1) := by decide +kernel
theorem dX7_fixed_51 : decode cX7_fixed 51 = .ok (.if_icmp .ne 7, 3) := by decide +kernel
theorem dX7_fixed_54 : decode cX7_fixed 54 = .ok (.iconst 0, 1) := by decide +kernel
theorem dX7_fixed_55 : decode cX7_fixed 55 = .ok (.goto 4, 3) := by decide +kernel
theorem dX7_fixed_58 : decode cX7_fixed 58 = .ok (.iconst 2, 1) := by decide +kernel
theorem dX7_fixed_59 : decode cX7_fixed 59 = .ok (.ireturn, 1) := by decide +kernel
set_option maxRecDepth 20000 in
theorem ggX7_best_X7_know : GoodIn wsX7_best wsX7_know := goodIn_r _ [7, 8, 1, 9, 10, 11, 12, 13, 14, 15, 2, 16, 17, 18, 19, 20, 21, 6, 22, 23, 24, 25, 26, 27, 28, 29, 30, 31, 32, 33, 34, 35, 36, 37, 38, 39, 40, 41, 42, 43, 44, 45, 46, 47, 48, 49, 50, 51, 52, 53, 54, 55, 56, 57, 58, 59, 60, 61, 62, 63, 64, 65, 66, 67, 68, 69, 70, 71, 72, 73, 74] (by decide +kernel) (by decide +kernel)
set_option maxRecDepth 20000 in
theorem gX7_best_X7_know : GoodIn wsX7_best (wsV RX7 178 RX7 yX7_know wsX7_know) := goodIn_app (goodIn_of _ (by decide +kernel)) ggX7_best_X7_know
theorem dX7_best_0 : decode cX7_best 0 = .ok (.aload_n 0, 1) := by decide +kernel
theorem dX7_best_1 : decode cX7_best 1 = .ok (.invokevirtual 178, 3) := by decide +kernel
theorem dX7_best_4 : decode cX7_best 4 = .ok (.aload_n 0, 1) := by decide +kernel
theorem dX7_best_5 : decode cX7_best 5 = .ok (.getfield 118, 3) := by decide +kernel
theorem dX7_best_8 : decode cX7_best 8 = .ok (.ifCond .ne 8, 3) := by decide +kernel
theorem dX7_best_11 : decode cX7_best 11 = .ok (.bipush (-3), 2) := by decide +kernel
theorem dX7_best_13 : decode cX7_best 13 = .ok (.goto 7, 3) := by decide +kernel
theorem dX7_best_16 : decode cX7_best 16 = .ok (.aload_n 0, 1) := by decide +kernel
theorem dX7_best_17 : decode cX7_best 17 = .ok (.getfield 136, 3) := by decide +kernel
theorem dX7_best_20 : decode cX7_best 20 = .ok (.ireturn, 1) := by decide +kernel
set_option maxRecDepth 20000 in
theorem ggX7_bestValue_X7_isName : GoodIn wsX7_bestValue wsX7_isName := goodIn_r _ [7, 8, 41, 42, 43, 44, 45, 46, 47, 48, 49, 50, 51, 52, 53, 54, 55, 56, 57, 58, 59, 60, 61, 62, 63, 64, 65, 66, 67, 68, 69, 70, 71, 72, 73, 74, 75, 76, 77, 78] (by decide +kernel) (by decide +kernel)
set_option maxRecDepth 20000 in
theorem gX7_bestValue_X7_isName : GoodIn wsX7_bestValue (wsV RX7 166 RX7 yX7_isName wsX7_isName) := goodIn_app (goodIn_of _ (by decide +kernel)) ggX7_bestValue_X7_isName
set_option maxRecDepth 20000 in
theorem ggX7_bestValue_X7_know : GoodIn wsX7_bestValue wsX7_know := goodIn_r _ [12, 13, 1, 14, 15, 8, 16, 17, 18, 19, 20, 2, 21, 22, 23, 24, 25, 6, 26, 27, 28, 29, 30, 31, 32, 33, 34, 35, 36, 37, 38, 39, 40, 41, 42, 43, 44, 45, 46, 47, 48, 49, 50, 51, 52, 53, 54, 55, 56, 57, 58, 59, 60, 61, 62, 63, 64, 65, 66, 67, 68, 69, 70, 71, 72, 73, 74, 75, 76, 77, 78] (by decide +kernel) (by decide +kernel)
set_option maxRecDepth 20000 in
theorem gX7_bestValue_X7_know : GoodIn wsX7_bestValue (wsV RX7 178 RX7 yX7_know wsX7_know) := goodIn_app (goodIn_of _ (by decide +kernel)) ggX7_bestValue_X7_know
set_option maxRecDepth 20000 in
theorem ggX7_bestValue_X7_isTrue : GoodIn wsX7_bestValue wsX7_isTrue := goodIn_r _ [35, 8, 41, 42, 43, 44, 45, 46, 47, 48, 49, 50, 51, 52, 53, 54, 55, 56, 57, 58, 59, 60, 61, 62, 63, 64, 65, 66, 67, 68, 69, 70, 71, 72, 73, 74, 75, 76, 77, 78] (by decide +kernel) (by decide +kernel)
set_option maxRecDepth 20000 in
theorem gX7_bestValue_X7_isTrue : GoodIn wsX7_bestValue (wsV RX7 112 RX7 yX7_isTrue wsX7_isTrue) := goodIn_app (goodIn_of _ (by decide +kernel)) ggX7_bestValue_X7_isTrue
theorem dX7_bestValue_0 : decode cX7_bestValue 0 = .ok (.aload_n 0, 1) := by decide +kernel
theorem dX7_bestValue_1 : decode cX7_bestValue 1 = .ok (.iload_n 1, 1) := by decide +kernel
theorem dX7_bestValue_2 : decode cX7_bestValue 2 = .ok (.invokevirtual 166, 3) := by decide +kernel
theorem dX7_bestValue_5 : decode cX7_bestValue 5 = .ok (.ifCond .ne 5, 3) := by decide +kernel
theorem dX7_bestValue_8 : decode cX7_bestValue 8 = .ok (.iconst (-1), 1) := by decide +kernel
theorem dX7_bestValue_9 : decode cX7_bestValue 9 = .ok (.ireturn, 1) := by decide +kernel
theorem dX7_bestValue_10 : decode cX7_bestValue 10 = .ok (.aload_n 0, 1) := by decide +kernel
theorem dX7_bestValue_11 : decode cX7_bestValue 11 = .ok (.invokevirtual 178, 3) := by decide +kernel
theorem dX7_bestValue_14 : decode cX7_bestValue 14 = .ok (.aload_n 0, 1) := by decide +kernel
theorem dX7_bestValue_15 : decode cX7_bestValue 15 = .ok (.getfield 118, 3) := by decide +kernel
theorem dX7_bestValue_18 : decode cX7_bestValue 18 = .ok (.ifCond .ne 8, 3) := by decide +kernel
theorem dX7_bestValue_21 : decode cX7_bestValue 21 = .ok (.bipush (-3), 2) := by decide +kernel
theorem dX7_bestValue_23 : decode cX7_bestValue 23 = .ok (.goto 20, 3) := by decide +kernel
theorem dX7_bestValue_26 : decode cX7_bestValue 26 = .ok (.aload_n 0, 1) := by decide +kernel
theorem dX7_bestValue_27 : decode cX7_bestValue 27 = .ok (.aload_n 0, 1) := by decide +kernel
theorem dX7_bestValue_28 : decode cX7_bestValue 28 = .ok (.getfield 139, 3) := by decide +kernel
theorem dX7_bestValue_31 : decode cX7_bestValue 31 = .ok (.iload_n 1, 1) := by decide +kernel
theorem dX7_bestValue_32 : decode cX7_bestValue 32 = .ok (.invokevirtual 112, 3) := by decide +kernel
theorem dX7_bestValue_35 : decode cX7_bestValue 35 = .ok (.ifCond .eq 7, 3) := by decide +kernel
theorem dX7_bestValue_38 : decode cX7_bestValue 38 = .ok (.iconst 1, 1) := by decide +kernel
theorem dX7_bestValue_39 : decode cX7_bestValue 39 = .ok (.goto 4, 3) := by decide +kernel
theorem dX7_bestValue_42 : decode cX7_bestValue 42 = .ok (.iconst 0, 1) := by decide +kernel
theorem dX7_bestValue_43 : decode cX7_bestValue 43 = .ok (.ireturn, 1) := by decide +kernel
set_option maxRecDepth 20000 in
theorem ggX7_core_X7_know : GoodIn wsX7_core wsX7_know := goodIn_r _ [8, 9, 1, 10, 11, 12, 13, 2, 14, 15, 16, 17, 3, 18, 19, 20, 21, 7, 22, 23, 24, 25, 26, 27, 28, 29, 30, 31, 32, 33, 34, 35, 36, 37, 38, 39, 40, 41, 42, 43, 44, 45, 46, 47, 48, 49, 50, 51, 52, 53, 54, 55, 56, 57, 58, 59, 60, 61, 62, 63, 64, 65, 66, 67, 68, 69, 70, 71, 72, 73, 74] (by decide +kernel) (by decide +kernel)
set_option maxRecDepth 20000 in
theorem gX7_core_X7_know : GoodIn wsX7_core (wsV RX7 178 RX7 yX7_know wsX7_know) := goodIn_app (goodIn_of _ (by decide +kernel)) ggX7_core_X7_know
theorem dX7_core_0 : decode cX7_core 0 = .ok (.aload_n 0, 1) := by decide +kernel
theorem dX7_core_1 : decode cX7_core 1 = .ok (.invokevirtual 178, 3) := by decide +kernel
theorem dX7_core_4 : decode cX7_core 4 = .ok (.aload_n 0, 1) := by decide +kernel
theorem dX7_core_5 : decode cX7_core 5 = .ok (.getfield 118, 3) := by decide +kernel
theorem dX7_core_8 : decode cX7_core 8 = .ok (.ifCond .le 6, 3) := by decide +kernel
theorem dX7_core_11 : decode cX7_core 11 = .ok (.bipush (-2), 2) := by decide +kernel
theorem dX7_core_13 : decode cX7_core 13 = .ok (.ireturn, 1) := by decide +kernel
theorem dX7_core_14 : decode cX7_core 14 = .ok (.iload_n 1, 1) := by decide +kernel
theorem dX7_core_15 : decode cX7_core 15 = .ok (.istore_n 2, 1) := by decide +kernel
theorem dX7_core_16 : decode cX7_core 16 = .ok (.iconst 0, 1) := by decide +kernel
theorem dX7_core_17 : decode cX7_core 17 = .ok (.istore_n 3, 1) := by decide +kernel
theorem dX7_core_18 : decode cX7_core 18 = .ok (.iload_n 3, 1) := by decide +kernel
theorem dX7_core_19 : decode cX7_core 19 = .ok (.aload_n 0, 1) := by decide +kernel
theorem dX7_core_20 : decode cX7_core 20 = .ok (.getfield 66, 3) := by decide +kernel
theorem dX7_core_23 : decode cX7_core 23 = .ok (.if_icmp .ge 31, 3) := by decide +kernel
theorem dX7_core_26 : decode cX7_core 26 = .ok (.aload_n 0, 1) := by decide +kernel
theorem dX7_core_27 : decode cX7_core 27 = .ok (.getfield 142, 3) := by decide +kernel
theorem dX7_core_30 : decode cX7_core 30 = .ok (.iload_n 3, 1) := by decide +kernel
theorem dX7_core_31 : decode cX7_core 31 = .ok (.lshr, 1) := by decide +kernel
theorem dX7_core_32 : decode cX7_core 32 = .ok (.lconst 1, 1) := by decide +kernel
theorem dX7_core_33 : decode cX7_core 33 = .ok (.land, 1) := by decide +kernel
theorem dX7_core_34 : decode cX7_core 34 = .ok (.lconst 1, 1) := by decide +kernel
theorem dX7_core_35 : decode cX7_core 35 = .ok (.lcmp, 1) := by decide +kernel
theorem dX7_core_36 : decode cX7_core 36 = .ok (.ifCond .ne 12, 3) := by decide +kernel
theorem dX7_core_39 : decode cX7_core 39 = .ok (.iload_n 2, 1) := by decide +kernel
theorem dX7_core_40 : decode cX7_core 40 = .ok (.ifCond .ne 5, 3) := by decide +kernel
theorem dX7_core_43 : decode cX7_core 43 = .ok (.iload_n 3, 1) := by decide +kernel
theorem dX7_core_44 : decode cX7_core 44 = .ok (.ireturn, 1) := by decide +kernel
theorem dX7_core_45 : decode cX7_core 45 = .ok (.iinc 2 (-1), 3) := by decide +kernel
theorem dX7_core_48 : decode cX7_core 48 = .ok (.iinc 3 1, 3) := by decide +kernel
theorem dX7_core_51 : decode cX7_core 51 = .ok (.goto (-33), 3) := by decide +kernel
theorem dX7_core_54 : decode cX7_core 54 = .ok (.iconst (-1), 1) := by decide +kernel
theorem dX7_core_55 : decode cX7_core 55 = .ok (.ireturn, 1) := by decide +kernel
theorem dJ6_bitCount_0f7a4_0 : decode cJ6_bitCount_0f7a4 0 = .ok (.iload_n 0, 1) := by decide +kernel
theorem dJ6_bitCount_0f7a4_1 : decode cJ6_bitCount_0f7a4 1 = .ok (.iload_n 0, 1) := by decide +kernel
theorem dJ6_bitCount_0f7a4_2 : decode cJ6_bitCount_0f7a4 2 = .ok (.iconst 1, 1) := by decide +kernel
theorem dJ6_bitCount_0f7a4_3 : decode cJ6_bitCount_0f7a4 3 = .ok (.iushr, 1) := by decide +kernel
theorem dJ6_bitCount_0f7a4_4 : decode cJ6_bitCount_0f7a4 4 = .ok (.ldc_w 265, 3) := by decide +kernel
theorem dJ6_bitCount_0f7a4_7 : decode cJ6_bitCount_0f7a4 7 = .ok (.iand, 1) := by decide +kernel
theorem dJ6_bitCount_0f7a4_8 : decode cJ6_bitCount_0f7a4 8 = .ok (.isub, 1) := by decide +kernel
theorem dJ6_bitCount_0f7a4_9 : decode cJ6_bitCount_0f7a4 9 = .ok (.istore_n 0, 1) := by decide +kernel
theorem dJ6_bitCount_0f7a4_10 : decode cJ6_bitCount_0f7a4 10 = .ok (.iload_n 0, 1) := by decide +kernel
theorem dJ6_bitCount_0f7a4_11 : decode cJ6_bitCount_0f7a4 11 = .ok (.ldc_w 266, 3) := by decide +kernel
theorem dJ6_bitCount_0f7a4_14 : decode cJ6_bitCount_0f7a4 14 = .ok (.iand, 1) := by decide +kernel
theorem dJ6_bitCount_0f7a4_15 : decode cJ6_bitCount_0f7a4 15 = .ok (.iload_n 0, 1) := by decide +kernel
theorem dJ6_bitCount_0f7a4_16 : decode cJ6_bitCount_0f7a4 16 = .ok (.iconst 2, 1) := by decide +kernel
theorem dJ6_bitCount_0f7a4_17 : decode cJ6_bitCount_0f7a4 17 = .ok (.iushr, 1) := by decide +kernel
theorem dJ6_bitCount_0f7a4_18 : decode cJ6_bitCount_0f7a4 18 = .ok (.ldc_w 266, 3) := by decide +kernel
theorem dJ6_bitCount_0f7a4_21 : decode cJ6_bitCount_0f7a4 21 = .ok (.iand, 1) := by decide +kernel
theorem dJ6_bitCount_0f7a4_22 : decode cJ6_bitCount_0f7a4 22 = .ok (.iadd, 1) := by decide +kernel
theorem dJ6_bitCount_0f7a4_23 : decode cJ6_bitCount_0f7a4 23 = .ok (.istore_n 0, 1) := by decide +kernel
theorem dJ6_bitCount_0f7a4_24 : decode cJ6_bitCount_0f7a4 24 = .ok (.iload_n 0, 1) := by decide +kernel
theorem dJ6_bitCount_0f7a4_25 : decode cJ6_bitCount_0f7a4 25 = .ok (.iload_n 0, 1) := by decide +kernel
theorem dJ6_bitCount_0f7a4_26 : decode cJ6_bitCount_0f7a4 26 = .ok (.iconst 4, 1) := by decide +kernel
theorem dJ6_bitCount_0f7a4_27 : decode cJ6_bitCount_0f7a4 27 = .ok (.iushr, 1) := by decide +kernel
theorem dJ6_bitCount_0f7a4_28 : decode cJ6_bitCount_0f7a4 28 = .ok (.iadd, 1) := by decide +kernel
theorem dJ6_bitCount_0f7a4_29 : decode cJ6_bitCount_0f7a4 29 = .ok (.ldc_w 267, 3) := by decide +kernel
theorem dJ6_bitCount_0f7a4_32 : decode cJ6_bitCount_0f7a4 32 = .ok (.iand, 1) := by decide +kernel
theorem dJ6_bitCount_0f7a4_33 : decode cJ6_bitCount_0f7a4 33 = .ok (.istore_n 0, 1) := by decide +kernel
theorem dJ6_bitCount_0f7a4_34 : decode cJ6_bitCount_0f7a4 34 = .ok (.iload_n 0, 1) := by decide +kernel
theorem dJ6_bitCount_0f7a4_35 : decode cJ6_bitCount_0f7a4 35 = .ok (.iload_n 0, 1) := by decide +kernel
theorem dJ6_bitCount_0f7a4_36 : decode cJ6_bitCount_0f7a4 36 = .ok (.bipush 8, 2) := by decide +kernel
theorem dJ6_bitCount_0f7a4_38 : decode cJ6_bitCount_0f7a4 38 = .ok (.iushr, 1) := by decide +kernel
theorem dJ6_bitCount_0f7a4_39 : decode cJ6_bitCount_0f7a4 39 = .ok (.iadd, 1) := by decide +kernel
theorem dJ6_bitCount_0f7a4_40 : decode cJ6_bitCount_0f7a4 40 = .ok (.istore_n 0, 1) := by decide +kernel
theorem dJ6_bitCount_0f7a4_41 : decode cJ6_bitCount_0f7a4 41 = .ok (.iload_n 0, 1) := by decide +kernel
theorem dJ6_bitCount_0f7a4_42 : decode cJ6_bitCount_0f7a4 42 = .ok (.iload_n 0, 1) := by decide +kernel
theorem dJ6_bitCount_0f7a4_43 : decode cJ6_bitCount_0f7a4 43 = .ok (.bipush 16, 2) := by decide +kernel
theorem dJ6_bitCount_0f7a4_45 : decode cJ6_bitCount_0f7a4 45 = .ok (.iushr, 1) := by decide +kernel
theorem dJ6_bitCount_0f7a4_46 : decode cJ6_bitCount_0f7a4 46 = .ok (.iadd, 1) := by decide +kernel
theorem dJ6_bitCount_0f7a4_47 : decode cJ6_bitCount_0f7a4 47 = .ok (.istore_n 0, 1) := by decide +kernel
theorem dJ6_bitCount_0f7a4_48 : decode cJ6_bitCount_0f7a4 48 = .ok (.iload_n 0, 1) := by decide +kernel
theorem dJ6_bitCount_0f7a4_49 : decode cJ6_bitCount_0f7a4 49 = .ok (.bipush 63, 2) := by decide +kernel
theorem dJ6_bitCount_0f7a4_51 : decode cJ6_bitCount_0f7a4 51 = .ok (.iand, 1) := by decide +kernel
theorem dJ6_bitCount_0f7a4_52 : decode cJ6_bitCount_0f7a4 52 = .ok (.ireturn, 1) := by decide +kernel
theorem dJ13_bitCount_95d88_0 : decode cJ13_bitCount_95d88 0 = .ok (.lload_n 0, 1) := by decide +kernel
theorem dJ13_bitCount_95d88_1 : decode cJ13_bitCount_95d88 1 = .ok (.lload_n 0, 1) := by decide +kernel
theorem dJ13_bitCount_95d88_2 : decode cJ13_bitCount_95d88 2 = .ok (.iconst 1, 1) := by decide +kernel
theorem dJ13_bitCount_95d88_3 : decode cJ13_bitCount_95d88 3 = .ok (.lushr, 1) := by decide +kernel
theorem dJ13_bitCount_95d88_4 : decode cJ13_bitCount_95d88 4 = .ok (.ldc2_w 314, 3) := by decide +kernel
theorem dJ13_bitCount_95d88_7 : decode cJ13_bitCount_95d88 7 = .ok (.land, 1) := by decide +kernel
theorem dJ13_bitCount_95d88_8 : decode cJ13_bitCount_95d88 8 = .ok (.lsub, 1) := by decide +kernel
theorem dJ13_bitCount_95d88_9 : decode cJ13_bitCount_95d88 9 = .ok (.lstore_n 0, 1) := by decide +kernel
theorem dJ13_bitCount_95d88_10 : decode cJ13_bitCount_95d88 10 = .ok (.lload_n 0, 1) := by decide +kernel
theorem dJ13_bitCount_95d88_11 : decode cJ13_bitCount_95d88 11 = .ok (.ldc2_w 316, 3) := by decide +kernel
theorem dJ13_bitCount_95d88_14 : decode cJ13_bitCount_95d88 14 = .ok (.land, 1) := by decide +kernel
theorem dJ13_bitCount_95d88_15 : decode cJ13_bitCount_95d88 15 = .ok (.lload_n 0, 1) := by decide +kernel
theorem dJ13_bitCount_95d88_16 : decode cJ13_bitCount_95d88 16 = .ok (.iconst 2, 1) := by decide +kernel
theorem dJ13_bitCount_95d88_17 : decode cJ13_bitCount_95d88 17 = .ok (.lushr, 1) := by decide +kernel
theorem dJ13_bitCount_95d88_18 : decode cJ13_bitCount_95d88 18 = .ok (.ldc2_w 316, 3) := by decide +kernel
theorem dJ13_bitCount_95d88_21 : decode cJ13_bitCount_95d88 21 = .ok (.land, 1) := by decide +kernel
theorem dJ13_bitCount_95d88_22 : decode cJ13_bitCount_95d88 22 = .ok (.ladd, 1) := by decide +kernel
theorem dJ13_bitCount_95d88_23 : decode cJ13_bitCount_95d88 23 = .ok (.lstore_n 0, 1) := by decide +kernel
theorem dJ13_bitCount_95d88_24 : decode cJ13_bitCount_95d88 24 = .ok (.lload_n 0, 1) := by decide +kernel
theorem dJ13_bitCount_95d88_25 : decode cJ13_bitCount_95d88 25 = .ok (.lload_n 0, 1) := by decide +kernel
theorem dJ13_bitCount_95d88_26 : decode cJ13_bitCount_95d88 26 = .ok (.iconst 4, 1) := by decide +kernel
theorem dJ13_bitCount_95d88_27 : decode cJ13_bitCount_95d88 27 = .ok (.lushr, 1) := by decide +kernel
theorem dJ13_bitCount_95d88_28 : decode cJ13_bitCount_95d88 28 = .ok (.ladd, 1) := by decide +kernel
theorem dJ13_bitCount_95d88_29 : decode cJ13_bitCount_95d88 29 = .ok (.ldc2_w 318, 3) := by decide +kernel
theorem dJ13_bitCount_95d88_32 : decode cJ13_bitCount_95d88 32 = .ok (.land, 1) := by decide +kernel
theorem dJ13_bitCount_95d88_33 : decode cJ13_bitCount_95d88 33 = .ok (.lstore_n 0, 1) := by decide +kernel
theorem dJ13_bitCount_95d88_34 : decode cJ13_bitCount_95d88 34 = .ok (.lload_n 0, 1) := by decide +kernel
theorem dJ13_bitCount_95d88_35 : decode cJ13_bitCount_95d88 35 = .ok (.lload_n 0, 1) := by decide +kernel
theorem dJ13_bitCount_95d88_36 : decode cJ13_bitCount_95d88 36 = .ok (.bipush 8, 2) := by decide +kernel
theorem dJ13_bitCount_95d88_38 : decode cJ13_bitCount_95d88 38 = .ok (.lushr, 1) := by decide +kernel
theorem dJ13_bitCount_95d88_39 : decode cJ13_bitCount_95d88 39 = .ok (.ladd, 1) := by decide +kernel
theorem dJ13_bitCount_95d88_40 : decode cJ13_bitCount_95d88 40 = .ok (.lstore_n 0, 1) := by decide +kernel
theorem dJ13_bitCount_95d88_41 : decode cJ13_bitCount_95d88 41 = .ok (.lload_n 0, 1) := by decide +kernel
theorem dJ13_bitCount_95d88_42 : decode cJ13_bitCount_95d88 42 = .ok (.lload_n 0, 1) := by decide +kernel
theorem dJ13_bitCount_95d88_43 : decode cJ13_bitCount_95d88 43 = .ok (.bipush 16, 2) := by decide +kernel
theorem dJ13_bitCount_95d88_45 : decode cJ13_bitCount_95d88 45 = .ok (.lushr, 1) := by decide +kernel
theorem dJ13_bitCount_95d88_46 : decode cJ13_bitCount_95d88 46 = .ok (.ladd, 1) := by decide +kernel
theorem dJ13_bitCount_95d88_47 : decode cJ13_bitCount_95d88 47 = .ok (.lstore_n 0, 1) := by decide +kernel
theorem dJ13_bitCount_95d88_48 : decode cJ13_bitCount_95d88 48 = .ok (.lload_n 0, 1) := by decide +kernel
theorem dJ13_bitCount_95d88_49 : decode cJ13_bitCount_95d88 49 = .ok (.lload_n 0, 1) := by decide +kernel
theorem dJ13_bitCount_95d88_50 : decode cJ13_bitCount_95d88 50 = .ok (.bipush 32, 2) := by decide +kernel
theorem dJ13_bitCount_95d88_52 : decode cJ13_bitCount_95d88 52 = .ok (.lushr, 1) := by decide +kernel
theorem dJ13_bitCount_95d88_53 : decode cJ13_bitCount_95d88 53 = .ok (.ladd, 1) := by decide +kernel
theorem dJ13_bitCount_95d88_54 : decode cJ13_bitCount_95d88 54 = .ok (.lstore_n 0, 1) := by decide +kernel
theorem dJ13_bitCount_95d88_55 : decode cJ13_bitCount_95d88 55 = .ok (.lload_n 0, 1) := by decide +kernel
theorem dJ13_bitCount_95d88_56 : decode cJ13_bitCount_95d88 56 = .ok (.l2i, 1) := by decide +kernel
theorem dJ13_bitCount_95d88_57 : decode cJ13_bitCount_95d88 57 = .ok (.bipush 127, 2) := by decide +kernel
theorem dJ13_bitCount_95d88_59 : decode cJ13_bitCount_95d88 59 = .ok (.iand, 1) := by decide +kernel
theorem dJ13_bitCount_95d88_60 : decode cJ13_bitCount_95d88 60 = .ok (.ireturn, 1) := by decide +kernel
theorem dJ7_fill_53178_0 : decode cJ7_fill_53178 0 = .ok (.iconst 0, 1) := by decide +kernel
theorem dJ7_fill_53178_1 : decode cJ7_fill_53178 1 = .ok (.istore_n 2, 1) := by decide +kernel
theorem dJ7_fill_53178_2 : decode cJ7_fill_53178 2 = .ok (.aload_n 0, 1) := by decide +kernel
theorem dJ7_fill_53178_3 : decode cJ7_fill_53178 3 = .ok (.arraylength, 1) := by decide +kernel
theorem dJ7_fill_53178_4 : decode cJ7_fill_53178 4 = .ok (.istore_n 3, 1) := by decide +kernel
theorem dJ7_fill_53178_5 : decode cJ7_fill_53178 5 = .ok (.iload_n 2, 1) := by decide +kernel
theorem dJ7_fill_53178_6 : decode cJ7_fill_53178 6 = .ok (.iload_n 3, 1) := by decide +kernel
theorem dJ7_fill_53178_7 : decode cJ7_fill_53178 7 = .ok (.if_icmp .ge 13, 3) := by decide +kernel
theorem dJ7_fill_53178_10 : decode cJ7_fill_53178 10 = .ok (.aload_n 0, 1) := by decide +kernel
theorem dJ7_fill_53178_11 : decode cJ7_fill_53178 11 = .ok (.iload_n 2, 1) := by decide +kernel
theorem dJ7_fill_53178_12 : decode cJ7_fill_53178 12 = .ok (.iload_n 1, 1) := by decide +kernel
theorem dJ7_fill_53178_13 : decode cJ7_fill_53178 13 = .ok (.iastore, 1) := by decide +kernel
theorem dJ7_fill_53178_14 : decode cJ7_fill_53178 14 = .ok (.iinc 2 1, 3) := by decide +kernel
theorem dJ7_fill_53178_17 : decode cJ7_fill_53178 17 = .ok (.goto (-12), 3) := by decide +kernel
theorem dJ7_fill_53178_20 : decode cJ7_fill_53178 20 = .ok (.return_, 1) := by decide +kernel
theorem dL_law_0 : decode cL_law 0 = .ok (.new 7, 3) := by decide +kernel
theorem dL_law_3 : decode cL_law 3 = .ok (.dup, 1) := by decide +kernel
theorem dL_law_4 : decode cL_law 4 = .ok (.invokespecial 9, 3) := by decide +kernel
theorem dL_law_7 : decode cL_law 7 = .ok (.astore_n 1, 1) := by decide +kernel
theorem dL_law_8 : decode cL_law 8 = .ok (.new 10, 3) := by decide +kernel
theorem dL_law_11 : decode cL_law 11 = .ok (.dup, 1) := by decide +kernel
theorem dL_law_12 : decode cL_law 12 = .ok (.invokespecial 12, 3) := by decide +kernel
theorem dL_law_15 : decode cL_law 15 = .ok (.astore_n 2, 1) := by decide +kernel
theorem dL_law_16 : decode cL_law 16 = .ok (.iconst 0, 1) := by decide +kernel
theorem dL_law_17 : decode cL_law 17 = .ok (.istore_n 3, 1) := by decide +kernel
theorem dL_law_18 : decode cL_law 18 = .ok (.iload_n 3, 1) := by decide +kernel
theorem dL_law_19 : decode cL_law 19 = .ok (.aload_n 0, 1) := by decide +kernel
theorem dL_law_20 : decode cL_law 20 = .ok (.arraylength, 1) := by decide +kernel
theorem dL_law_21 : decode cL_law 21 = .ok (.iconst 4, 1) := by decide +kernel
theorem dL_law_22 : decode cL_law 22 = .ok (.isub, 1) := by decide +kernel
theorem dL_law_23 : decode cL_law 23 = .ok (.if_icmp .gt 592, 3) := by decide +kernel
theorem dL_law_26 : decode cL_law 26 = .ok (.aload_n 0, 1) := by decide +kernel
theorem dL_law_27 : decode cL_law 27 = .ok (.iload_n 3, 1) := by decide +kernel
theorem dL_law_28 : decode cL_law 28 = .ok (.iaload, 1) := by decide +kernel
theorem dL_law_29 : decode cL_law 29 = .ok (.bipush 31, 2) := by decide +kernel
theorem dL_law_31 : decode cL_law 31 = .ok (.iand, 1) := by decide +kernel
theorem dL_law_32 : decode cL_law 32 = .ok (.tableswitch 577 0 22 #[108, 121, 144, 157, 180, 223, 246, 279, 292, 315, 328, 341, 364, 377, 390, 403, 426, 449, 482, 495, 518, 531, 554], 108) := by decide +kernel
theorem dL_law_140 : decode cL_law 140 = .ok (.aload_n 1, 1) := by decide +kernel
theorem dL_law_141 : decode cL_law 141 = .ok (.invokevirtual 13, 3) := by decide +kernel
theorem dL_law_144 : decode cL_law 144 = .ok (.aload_n 2, 1) := by decide +kernel
theorem dL_law_145 : decode cL_law 145 = .ok (.invokevirtual 17, 3) := by decide +kernel
theorem dL_law_148 : decode cL_law 148 = .ok (.if_icmp .eq 461, 3) := by decide +kernel
theorem dL_law_151 : decode cL_law 151 = .ok (.iconst 0, 1) := by decide +kernel
theorem dL_law_152 : decode cL_law 152 = .ok (.ireturn, 1) := by decide +kernel
theorem dL_law_153 : decode cL_law 153 = .ok (.aload_n 1, 1) := by decide +kernel
theorem dL_law_154 : decode cL_law 154 = .ok (.aload_n 0, 1) := by decide +kernel
theorem dL_law_155 : decode cL_law 155 = .ok (.iload_n 3, 1) := by decide +kernel
theorem dL_law_156 : decode cL_law 156 = .ok (.iconst 1, 1) := by decide +kernel
theorem dL_law_157 : decode cL_law 157 = .ok (.iadd, 1) := by decide +kernel
theorem dL_law_158 : decode cL_law 158 = .ok (.iaload, 1) := by decide +kernel
theorem dL_law_159 : decode cL_law 159 = .ok (.invokevirtual 18, 3) := by decide +kernel
theorem dL_law_162 : decode cL_law 162 = .ok (.aload_n 2, 1) := by decide +kernel
theorem dL_law_163 : decode cL_law 163 = .ok (.aload_n 0, 1) := by decide +kernel
theorem dL_law_164 : decode cL_law 164 = .ok (.iload_n 3, 1) := by decide +kernel
theorem dL_law_165 : decode cL_law 165 = .ok (.iconst 1, 1) := by decide +kernel
theorem dL_law_166 : decode cL_law 166 = .ok (.iadd, 1) := by decide +kernel
theorem dL_law_167 : decode cL_law 167 = .ok (.iaload, 1) := by decide +kernel
theorem dL_law_168 : decode cL_law 168 = .ok (.invokevirtual 22, 3) := by decide +kernel
theorem dL_law_171 : decode cL_law 171 = .ok (.if_icmp .eq 438, 3) := by decide +kernel
theorem dL_law_174 : decode cL_law 174 = .ok (.iconst 0, 1) := by decide +kernel
theorem dL_law_175 : decode cL_law 175 = .ok (.ireturn, 1) := by decide +kernel
theorem dL_law_176 : decode cL_law 176 = .ok (.aload_n 1, 1) := by decide +kernel
theorem dL_law_177 : decode cL_law 177 = .ok (.invokevirtual 23, 3) := by decide +kernel
theorem dL_law_180 : decode cL_law 180 = .ok (.aload_n 2, 1) := by decide +kernel
theorem dL_law_181 : decode cL_law 181 = .ok (.invokevirtual 26, 3) := by decide +kernel
theorem dL_law_184 : decode cL_law 184 = .ok (.if_icmp .eq 425, 3) := by decide +kernel
theorem dL_law_187 : decode cL_law 187 = .ok (.iconst 0, 1) := by decide +kernel
theorem dL_law_188 : decode cL_law 188 = .ok (.ireturn, 1) := by decide +kernel
theorem dL_law_189 : decode cL_law 189 = .ok (.aload_n 1, 1) := by decide +kernel
theorem dL_law_190 : decode cL_law 190 = .ok (.aload_n 0, 1) := by decide +kernel
theorem dL_law_191 : decode cL_law 191 = .ok (.iload_n 3, 1) := by decide +kernel
theorem dL_law_192 : decode cL_law 192 = .ok (.iconst 1, 1) := by decide +kernel
theorem dL_law_193 : decode cL_law 193 = .ok (.iadd, 1) := by decide +kernel
theorem dL_law_194 : decode cL_law 194 = .ok (.iaload, 1) := by decide +kernel
theorem dL_law_195 : decode cL_law 195 = .ok (.invokevirtual 27, 3) := by decide +kernel
theorem dL_law_198 : decode cL_law 198 = .ok (.aload_n 2, 1) := by decide +kernel
theorem dL_law_199 : decode cL_law 199 = .ok (.aload_n 0, 1) := by decide +kernel
theorem dL_law_200 : decode cL_law 200 = .ok (.iload_n 3, 1) := by decide +kernel
theorem dL_law_201 : decode cL_law 201 = .ok (.iconst 1, 1) := by decide +kernel
theorem dL_law_202 : decode cL_law 202 = .ok (.iadd, 1) := by decide +kernel
theorem dL_law_203 : decode cL_law 203 = .ok (.iaload, 1) := by decide +kernel
theorem dL_law_204 : decode cL_law 204 = .ok (.invokevirtual 30, 3) := by decide +kernel
theorem dL_law_207 : decode cL_law 207 = .ok (.if_icmp .eq 402, 3) := by decide +kernel
theorem dL_law_210 : decode cL_law 210 = .ok (.iconst 0, 1) := by decide +kernel
theorem dL_law_211 : decode cL_law 211 = .ok (.ireturn, 1) := by decide +kernel
theorem dL_law_212 : decode cL_law 212 = .ok (.aload_n 1, 1) := by decide +kernel
theorem dL_law_213 : decode cL_law 213 = .ok (.aload_n 0, 1) := by decide +kernel
theorem dL_law_214 : decode cL_law 214 = .ok (.iload_n 3, 1) := by decide +kernel
theorem dL_law_215 : decode cL_law 215 = .ok (.iconst 1, 1) := by decide +kernel
theorem dL_law_216 : decode cL_law 216 = .ok (.iadd, 1) := by decide +kernel
theorem dL_law_217 : decode cL_law 217 = .ok (.iaload, 1) := by decide +kernel
theorem dL_law_218 : decode cL_law 218 = .ok (.aload_n 0, 1) := by decide +kernel
theorem dL_law_219 : decode cL_law 219 = .ok (.iload_n 3, 1) := by decide +kernel
theorem dL_law_220 : decode cL_law 220 = .ok (.iconst 2, 1) := by decide +kernel
theorem dL_law_221 : decode cL_law 221 = .ok (.iadd, 1) := by decide +kernel
theorem dL_law_222 : decode cL_law 222 = .ok (.iaload, 1) := by decide +kernel
theorem dL_law_223 : decode cL_law 223 = .ok (.aload_n 0, 1) := by decide +kernel
theorem dL_law_224 : decode cL_law 224 = .ok (.iload_n 3, 1) := by decide +kernel
theorem dL_law_225 : decode cL_law 225 = .ok (.iconst 3, 1) := by decide +kernel
theorem dL_law_226 : decode cL_law 226 = .ok (.iadd, 1) := by decide +kernel
theorem dL_law_227 : decode cL_law 227 = .ok (.iaload, 1) := by decide +kernel
theorem dL_law_228 : decode cL_law 228 = .ok (.invokevirtual 31, 3) := by decide +kernel
theorem dL_law_231 : decode cL_law 231 = .ok (.aload_n 2, 1) := by decide +kernel
theorem dL_law_232 : decode cL_law 232 = .ok (.aload_n 0, 1) := by decide +kernel
theorem dL_law_233 : decode cL_law 233 = .ok (.iload_n 3, 1) := by decide +kernel
theorem dL_law_234 : decode cL_law 234 = .ok (.iconst 1, 1) := by decide +kernel
theorem dL_law_235 : decode cL_law 235 = .ok (.iadd, 1) := by decide +kernel
theorem dL_law_236 : decode cL_law 236 = .ok (.iaload, 1) := by decide +kernel
theorem dL_law_237 : decode cL_law 237 = .ok (.aload_n 0, 1) := by decide +kernel
theorem dL_law_238 : decode cL_law 238 = .ok (.iload_n 3, 1) := by decide +kernel
theorem dL_law_239 : decode cL_law 239 = .ok (.iconst 2, 1) := by decide +kernel
theorem dL_law_240 : decode cL_law 240 = .ok (.iadd, 1) := by decide +kernel
theorem dL_law_241 : decode cL_law 241 = .ok (.iaload, 1) := by decide +kernel
theorem dL_law_242 : decode cL_law 242 = .ok (.aload_n 0, 1) := by decide +kernel
theorem dL_law_243 : decode cL_law 243 = .ok (.iload_n 3, 1) := by decide +kernel
theorem dL_law_244 : decode cL_law 244 = .ok (.iconst 3, 1) := by decide +kernel
theorem dL_law_245 : decode cL_law 245 = .ok (.iadd, 1) := by decide +kernel
theorem dL_law_246 : decode cL_law 246 = .ok (.iaload, 1) := by decide +kernel
theorem dL_law_247 : decode cL_law 247 = .ok (.invokevirtual 35, 3) := by decide +kernel
theorem dL_law_250 : decode cL_law 250 = .ok (.if_icmp .eq 359, 3) := by decide +kernel
theorem dL_law_253 : decode cL_law 253 = .ok (.iconst 0, 1) := by decide +kernel
theorem dL_law_254 : decode cL_law 254 = .ok (.ireturn, 1) := by decide +kernel
theorem dL_law_255 : decode cL_law 255 = .ok (.aload_n 1, 1) := by decide +kernel
theorem dL_law_256 : decode cL_law 256 = .ok (.aload_n 0, 1) := by decide +kernel
theorem dL_law_257 : decode cL_law 257 = .ok (.iload_n 3, 1) := by decide +kernel
theorem dL_law_258 : decode cL_law 258 = .ok (.iconst 1, 1) := by decide +kernel
theorem dL_law_259 : decode cL_law 259 = .ok (.iadd, 1) := by decide +kernel
theorem dL_law_260 : decode cL_law 260 = .ok (.iaload, 1) := by decide +kernel
theorem dL_law_261 : decode cL_law 261 = .ok (.invokevirtual 36, 3) := by decide +kernel
theorem dL_law_264 : decode cL_law 264 = .ok (.aload_n 2, 1) := by decide +kernel
theorem dL_law_265 : decode cL_law 265 = .ok (.aload_n 0, 1) := by decide +kernel
theorem dL_law_266 : decode cL_law 266 = .ok (.iload_n 3, 1) := by decide +kernel
theorem dL_law_267 : decode cL_law 267 = .ok (.iconst 1, 1) := by decide +kernel
theorem dL_law_268 : decode cL_law 268 = .ok (.iadd, 1) := by decide +kernel
theorem dL_law_269 : decode cL_law 269 = .ok (.iaload, 1) := by decide +kernel
theorem dL_law_270 : decode cL_law 270 = .ok (.invokevirtual 39, 3) := by decide +kernel
theorem dL_law_273 : decode cL_law 273 = .ok (.if_icmp .eq 336, 3) := by decide +kernel
theorem dL_law_276 : decode cL_law 276 = .ok (.iconst 0, 1) := by decide +kernel
theorem dL_law_277 : decode cL_law 277 = .ok (.ireturn, 1) := by decide +kernel
theorem dL_law_278 : decode cL_law 278 = .ok (.aload_n 1, 1) := by decide +kernel
theorem dL_law_279 : decode cL_law 279 = .ok (.aload_n 0, 1) := by decide +kernel
theorem dL_law_280 : decode cL_law 280 = .ok (.iload_n 3, 1) := by decide +kernel
theorem dL_law_281 : decode cL_law 281 = .ok (.iconst 1, 1) := by decide +kernel
theorem dL_law_282 : decode cL_law 282 = .ok (.iadd, 1) := by decide +kernel
theorem dL_law_283 : decode cL_law 283 = .ok (.iaload, 1) := by decide +kernel
theorem dL_law_284 : decode cL_law 284 = .ok (.aload_n 0, 1) := by decide +kernel
theorem dL_law_285 : decode cL_law 285 = .ok (.iload_n 3, 1) := by decide +kernel
theorem dL_law_286 : decode cL_law 286 = .ok (.iconst 2, 1) := by decide +kernel
theorem dL_law_287 : decode cL_law 287 = .ok (.iadd, 1) := by decide +kernel
theorem dL_law_288 : decode cL_law 288 = .ok (.iaload, 1) := by decide +kernel
theorem dL_law_289 : decode cL_law 289 = .ok (.invokevirtual 40, 3) := by decide +kernel
theorem dL_law_292 : decode cL_law 292 = .ok (.aload_n 2, 1) := by decide +kernel
theorem dL_law_293 : decode cL_law 293 = .ok (.aload_n 0, 1) := by decide +kernel
theorem dL_law_294 : decode cL_law 294 = .ok (.iload_n 3, 1) := by decide +kernel
theorem dL_law_295 : decode cL_law 295 = .ok (.iconst 1, 1) := by decide +kernel
theorem dL_law_296 : decode cL_law 296 = .ok (.iadd, 1) := by decide +kernel
theorem dL_law_297 : decode cL_law 297 = .ok (.iaload, 1) := by decide +kernel
theorem dL_law_298 : decode cL_law 298 = .ok (.aload_n 0, 1) := by decide +kernel
theorem dL_law_299 : decode cL_law 299 = .ok (.iload_n 3, 1) := by decide +kernel
theorem dL_law_300 : decode cL_law 300 = .ok (.iconst 2, 1) := by decide +kernel
theorem dL_law_301 : decode cL_law 301 = .ok (.iadd, 1) := by decide +kernel
theorem dL_law_302 : decode cL_law 302 = .ok (.iaload, 1) := by decide +kernel
theorem dL_law_303 : decode cL_law 303 = .ok (.invokevirtual 44, 3) := by decide +kernel
